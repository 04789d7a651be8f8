theorem rel_init {uS : StS} {uM : StM} (h : bkS uS) (hm : f_X2_renews m0 = some uM) : Rel uS uM := by
  obtain ⟨h1, h2, h3, h4, h5⟩ := h
  obtain ⟨bw, -, k1, k2, k3⟩ := begin1 b0 (w := 0) (g := 1) (by omega) (by omega)
  obtain ⟨u', j1, j2, j3, j4, j5, j6, j7⟩ := renews2 m0
  have e : u' = uM := Option.some.inj (j1.symm.trans hm)
  subst e
  refine Rel_first (n := 1) (by omega) (by omega) (by rw [h2]; rfl) (j2.trans rfl) (fun b hb => ?_) j7 (rs := 0) (cS := 0) (sv := fun _ => 0) ⟨by omega, by omega, by rw [h4]; rfl, by rw [j3]; rfl, by omega, by rw [h3]; rfl, by rw [j4]; rfl, fun j hj => by omega, by rw [j6, h5]; rfl⟩
  have e2 : bk uS b = bw := Option.some.inj ((h1 b hb).symm.trans k3)
  rw [e2]
  exact ⟨k1, k2⟩
