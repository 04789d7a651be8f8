theorem su_cong {f g : Nat → Int} : ∀ n i, (∀ q, i ≤ q → q < i + n → f q = g q) → su f i n = su g i n := by
  intro n
  induction n with
  | zero => intro i h; rfl
  | succ n ih =>
    intro i h
    unfold su
    rw [h i (by omega) (by omega), ih (i + 1) (fun q h1 h2 => h q (by omega) (by omega))]
theorem su_split (f : Nat → Int) : ∀ a b i, su f i (a + b) = su f i a + su f (i + a) b := by
  intro a
  induction a with
  | zero => intro b i; rw [Nat.zero_add, Nat.add_zero]; show su f i b = 0 + su f i b; omega
  | succ a ih =>
    intro b i
    rw [show a + 1 + b = (a + b) + 1 by omega]
    show f i + su f (i + 1) (a + b) = f i + su f (i + 1) a + su f (i + (a + 1)) b
    rw [ih b (i + 1), show i + 1 + a = i + (a + 1) by omega]
    omega
theorem su_zero {f : Nat → Int} : ∀ n i, (∀ q, i ≤ q → q < i + n → f q = 0) → su f i n = 0 := by
  intro n
  induction n with
  | zero => intro i h; rfl
  | succ n ih =>
    intro i h
    unfold su
    rw [h i (by omega) (by omega), ih (i + 1) (fun q h1 h2 => h q (by omega) (by omega))]
    rfl
theorem su_rng {f : Nat → Int} {B : Int} : ∀ n i, (∀ q, i ≤ q → q < i + n → 0 ≤ f q ∧ f q ≤ B) → 0 ≤ su f i n ∧ su f i n ≤ n * B := by
  intro n
  induction n with
  | zero => intro i h; unfold su; omega
  | succ n ih =>
    intro i h
    have h1 := ih (i + 1) (fun q h1 h2 => h q (by omega) (by omega))
    have h2 := h i (by omega) (by omega)
    have e : ((n + 1 : Nat) : Int) * B = n * B + B := by rw [Int.natCast_succ, Int.add_mul, Int.one_mul]
    unfold su
    omega
theorem su_single {f : Nat → Int} {c : Nat} : ∀ n i, i ≤ c → c < i + n → (∀ q, i ≤ q → q < i + n → q ≠ c → f q = 0) → su f i n = f c := by
  intro n i h1 h2 h
  have e : n = (c - i) + ((n - (c - i) - 1) + 1) := by omega
  rw [e, su_split, su_zero (c - i) i (fun q a b => h q a (by omega) (by omega))]
  show 0 + (f (i + (c - i)) + su f (i + (c - i) + 1) (n - (c - i) - 1)) = f c
  rw [su_zero _ _ (fun q a b => h q (by omega) (by omega) (by omega)), show i + (c - i) = c by omega]
  omega
theorem su_add (f g : Nat → Int) : ∀ n i, su (fun q => f q + g q) i n = su f i n + su g i n := by
  intro n
  induction n with
  | zero => intro i; rfl
  | succ n ih =>
    intro i
    show f i + g i + su (fun q => f q + g q) (i + 1) n = f i + su f (i + 1) n + (g i + su g (i + 1) n)
    rw [ih]
    omega
theorem su_mul (c : Int) (f : Nat → Int) : ∀ n i, su (fun q => c * f q) i n = c * su f i n := by
  intro n
  induction n with
  | zero => intro i; exact (Int.mul_zero c).symm
  | succ n ih =>
    intro i
    show c * f i + su (fun q => c * f q) (i + 1) n = c * (f i + su f (i + 1) n)
    rw [ih, Int.mul_add]
theorem su_comm (f : Nat → Nat → Int) (B : Nat) : ∀ A i, su (fun a => su (fun b => f a b) 0 B) i A = su (fun b => su (fun a => f a b) i A) 0 B := by
  intro A
  induction A with
  | zero => intro i; exact (su_zero B 0 (fun q _ _ => rfl)).symm
  | succ A ih =>
    intro i
    show su (fun b => f i b) 0 B + su (fun a => su (fun b => f a b) 0 B) (i + 1) A = su (fun b => f i b + su (fun a => f a b) (i + 1) A) 0 B
    rw [ih, su_add (fun b => f i b) (fun b => su (fun a => f a b) (i + 1) A)]
theorem su_five (H : Nat → Nat → Int) : ∀ N, su (fun t => H (t % 5) (t / 5)) 0 (5 * N) = su (fun q => su (fun i => H i q) 0 5) 0 N := by
  intro N
  induction N with
  | zero => rfl
  | succ N ih =>
    rw [show 5 * (N + 1) = 5 * N + 5 by omega, su_split, ih, su_split _ N 1 0, Nat.zero_add, Nat.zero_add]
    show _ + (H ((5 * N) % 5) ((5 * N) / 5) + (H ((5 * N + 1) % 5) ((5 * N + 1) / 5) + (H ((5 * N + 1 + 1) % 5) ((5 * N + 1 + 1) / 5) + (H ((5 * N + 1 + 1 + 1) % 5) ((5 * N + 1 + 1 + 1) / 5) + (H ((5 * N + 1 + 1 + 1 + 1) % 5) ((5 * N + 1 + 1 + 1 + 1) / 5) + 0))))) = _ + ((H 0 N + (H 1 N + (H 2 N + (H 3 N + (H 4 N + 0))))) + 0)
    rw [show 5 * N % 5 = 0 by omega, show 5 * N / 5 = N by omega, show (5 * N + 1) % 5 = 1 by omega, show (5 * N + 1) / 5 = N by omega, show (5 * N + 1 + 1) % 5 = 2 by omega, show (5 * N + 1 + 1) / 5 = N by omega, show (5 * N + 1 + 1 + 1) % 5 = 3 by omega, show (5 * N + 1 + 1 + 1) / 5 = N by omega, show (5 * N + 1 + 1 + 1 + 1) % 5 = 4 by omega, show (5 * N + 1 + 1 + 1 + 1) / 5 = N by omega]
    omega
theorem su_cut {f : Nat → Int} {m : Nat} (hm : m ≤ 5) (h : ∀ i, m ≤ i → i < 5 → f i = 0) : su f 0 5 = su f 0 m := by
  rw [show (5 : Nat) = m + (5 - m) by omega, su_split, su_zero (5 - m) (0 + m) (fun q a b => h q (by omega) (by omega))]
  omega
/-- the model's sum over 125 numbers is the class's over three rows of places -/
theorem su_125 (G : Nat → Nat → Nat → Int) {m0 m1 m2 : Nat} (h0 : m0 ≤ 5) (h1 : m1 ≤ 5) (h2 : m2 ≤ 5) (hG : ∀ i j k, ¬ (i < m0 ∧ j < m1 ∧ k < m2) → G i j k = 0) : su (fun t => G (t % 5) (t / 5 % 5) (t / 25 % 5)) 0 125 = su (fun i => su (fun j => su (fun k => G i j k) 0 m2) 0 m1) 0 m0 := by
  have a1 : su (fun t => G (t % 5) (t / 5 % 5) (t / 25 % 5)) 0 125 = su (fun t => (fun i q => G i (q % 5) (q / 5 % 5)) (t % 5) (t / 5)) 0 (5 * 25) := su_cong _ _ (fun q _ _ => by
    show G (q % 5) (q / 5 % 5) (q / 25 % 5) = G (q % 5) (q / 5 % 5) (q / 5 / 5 % 5)
    rw [Nat.div_div_eq_div_mul])
  have a2 : su (fun q => su (fun i => G i (q % 5) (q / 5 % 5)) 0 5) 0 25 = su (fun q => (fun j k => su (fun i => G i j (k % 5)) 0 5) (q % 5) (q / 5)) 0 (5 * 5) := rfl
  refine a1.trans ((su_five (fun i q => G i (q % 5) (q / 5 % 5)) 25).trans (a2.trans ((su_five (fun j k => su (fun i => G i j (k % 5)) 0 5) 5).trans ?_)))
  have a3 : su (fun k => su (fun j => su (fun i => G i j (k % 5)) 0 5) 0 5) 0 5 = su (fun k => su (fun j => su (fun i => G i j k) 0 5) 0 5) 0 5 := su_cong _ _ (fun k _ hk => by
    show su (fun j => su (fun i => G i j (k % 5)) 0 5) 0 5 = _
    rw [Nat.mod_eq_of_lt (by omega)])
  rw [a3]
  have a4 : su (fun k => su (fun j => su (fun i => G i j k) 0 5) 0 5) 0 5 = su (fun i => su (fun j => su (fun k => G i j k) 0 5) 0 5) 0 5 := by
    have b1 : su (fun k => su (fun j => su (fun i => G i j k) 0 5) 0 5) 0 5 = su (fun k => su (fun i => su (fun j => G i j k) 0 5) 0 5) 0 5 := su_cong _ _ (fun k _ _ => su_comm (fun j i => G i j k) 5 5 0)
    rw [b1, su_comm (fun k i => su (fun j => G i j k) 0 5) 5 5 0]
    exact su_cong _ _ (fun i _ _ => su_comm (fun k j => G i j k) 5 5 0)
  rw [a4, su_cut h0 (fun i hi _ => su_zero _ _ (fun j _ _ => su_zero _ _ (fun k _ _ => hG i j k (by omega))))]
  refine su_cong _ _ (fun i _ _ => ?_)
  rw [su_cut h1 (fun j hj _ => su_zero _ _ (fun k _ _ => hG i j k (by omega)))]
  refine su_cong _ _ (fun j _ _ => ?_)
  rw [su_cut h2 (fun k hk _ => hG i j k (by omega))]
