theorem mem_p {big : List Cond} (ws : List Cond) (ps : List Nat) (hp : ws = ps.filterMap (fun i => big[i]?)) : ∀ w ∈ ws, w ∈ big := by
  intro w hw
  rw [hp] at hw
  obtain ⟨i, -, hi⟩ := List.mem_filterMap.mp hw
  exact List.mem_of_getElem? hi
set_option maxRecDepth 20000 in
theorem lwi_wsL_law_r1 : ∀ w ∈ wsL_law_r1, w ∈ lw_tbl := mem_p _ [36, 37, 31, 335, 336, 34, 38, 39, 40, 41, 42, 43, 44, 45, 32, 95, 96, 97, 94, 98, 99, 100, 101, 102] (by decide +kernel)
set_option maxRecDepth 20000 in
theorem lwi_wsL_law_r2 : ∀ w ∈ wsL_law_r2, w ∈ lw_tbl := mem_p _ [46, 47, 48, 49, 77, 78, 79, 80, 81, 50, 51, 52, 53, 54, 56, 0, 57, 58, 60, 1, 61, 62, 63, 64] (by decide +kernel)
set_option maxRecDepth 20000 in
theorem lwi_wsL_law_r3 : ∀ w ∈ wsL_law_r3, w ∈ lw_tbl := mem_p _ [65, 66, 67, 68, 69, 70, 71, 72, 73, 74, 75, 33, 76, 337, 338, 339, 340, 347, 348, 349, 350, 353, 356, 357] (by decide +kernel)
set_option maxRecDepth 20000 in
theorem lwi_wsL_law_r4 : ∀ w ∈ wsL_law_r4, w ∈ lw_tbl := mem_p _ [358, 341, 343, 15, 344, 120, 121, 122, 123, 124, 388, 389, 390, 391, 345, 392, 393, 394, 125, 126, 127, 128, 129, 131] (by decide +kernel)
set_option maxRecDepth 20000 in
theorem lwi_wsL_law_r5 : ∀ w ∈ wsL_law_r5, w ∈ lw_tbl := mem_p _ [2, 132, 133, 134, 135, 136, 137, 138, 139, 141, 3, 142, 395, 396, 397, 398, 399, 401, 16, 402, 143, 144, 145, 146] (by decide +kernel)
set_option maxRecDepth 20000 in
theorem lwi_wsL_law_r6 : ∀ w ∈ wsL_law_r6, w ∈ lw_tbl := mem_p _ [147, 148, 149, 150, 151, 403, 404, 405, 406, 152, 153, 154, 155, 156, 157, 158, 159, 160, 161, 162, 163, 164, 165, 407] (by decide +kernel)
set_option maxRecDepth 20000 in
theorem lwi_wsL_law_r7 : ∀ w ∈ wsL_law_r7, w ∈ lw_tbl := mem_p _ [408, 409, 410, 411, 413, 17, 414, 415, 417, 18, 418, 419, 421, 19, 422, 166, 167, 168, 169, 170, 171, 172, 173, 174] (by decide +kernel)
set_option maxRecDepth 20000 in
theorem lwi_wsL_law_r8 : ∀ w ∈ wsL_law_r8, w ∈ lw_tbl := mem_p _ [175, 176, 177, 423, 424, 425, 426, 427, 429, 20, 430, 178, 179, 180, 181, 185, 182, 183, 184, 186, 187, 188, 189, 190] (by decide +kernel)
set_option maxRecDepth 20000 in
theorem lwi_wsL_law_r9 : ∀ w ∈ wsL_law_r9, w ∈ lw_tbl := mem_p _ [191, 192, 193, 194, 195, 196, 197, 198, 199, 200, 201, 202, 431, 432, 433, 434, 435, 354, 355, 436, 438, 21, 439, 440] (by decide +kernel)
set_option maxRecDepth 20000 in
theorem lwi_wsL_law_r10 : ∀ w ∈ wsL_law_r10, w ∈ lw_tbl := mem_p _ [442, 22, 443, 444, 445, 446, 203, 204, 205, 206, 207, 209, 4, 210, 211, 212, 213, 214, 216, 5, 217, 447, 448, 449] (by decide +kernel)
set_option maxRecDepth 20000 in
theorem lwi_wsL_law_r11 : ∀ w ∈ wsL_law_r11, w ∈ lw_tbl := mem_p _ [450, 451, 453, 23, 454, 455, 457, 24, 458, 218, 219, 220, 221, 222, 224, 6, 225, 226, 228, 7, 229, 459, 460, 461] (by decide +kernel)
set_option maxRecDepth 20000 in
theorem lwi_wsL_law_r12 : ∀ w ∈ wsL_law_r12, w ∈ lw_tbl := mem_p _ [462, 463, 465, 25, 466, 230, 231, 232, 233, 467, 468, 469, 470, 234, 235, 236, 237, 238, 240, 8, 241, 242, 244, 9] (by decide +kernel)
set_option maxRecDepth 20000 in
theorem lwi_wsL_law_r13 : ∀ w ∈ wsL_law_r13, w ∈ lw_tbl := mem_p _ [245, 246, 248, 10, 249, 250, 251, 252, 253, 254, 256, 11, 257, 471, 472, 473, 474, 475, 477, 26, 478, 479, 481, 27] (by decide +kernel)
set_option maxRecDepth 20000 in
theorem lwi_wsL_law_r14 : ∀ w ∈ wsL_law_r14, w ∈ lw_tbl := mem_p _ [482, 258, 259, 260, 261, 483, 484, 485, 486, 351, 262, 263, 264, 265, 266, 267, 268, 269, 271, 12, 272, 273, 274, 275] (by decide +kernel)
set_option maxRecDepth 20000 in
theorem lwi_wsL_law_r15 : ∀ w ∈ wsL_law_r15, w ∈ lw_tbl := mem_p _ [487, 488, 489, 490, 346, 495, 496, 491, 493, 28, 494, 276, 277, 278, 279, 497, 498, 499, 500, 280, 281, 282, 283, 294] (by decide +kernel)
set_option maxRecDepth 20000 in
theorem lwi_wsL_law_r16 : ∀ w ∈ wsL_law_r16, w ∈ lw_tbl := mem_p _ [284, 286, 13, 287, 288, 289, 290, 291, 292, 293, 501, 502, 503, 504, 295, 296, 297, 298, 299, 300, 301, 302, 303, 304] (by decide +kernel)
set_option maxRecDepth 20000 in
theorem lwi_wsL_law_r17 : ∀ w ∈ wsL_law_r17, w ∈ lw_tbl := mem_p _ [305, 306, 307, 308, 309, 35, 310, 505, 506, 507, 508, 509, 510, 512, 29, 513, 311, 312, 313, 314, 514, 515, 516, 517] (by decide +kernel)
set_option maxRecDepth 20000 in
theorem lwi_wsL_law_r18 : ∀ w ∈ wsL_law_r18, w ∈ lw_tbl := mem_p _ [352, 315, 316, 317, 318, 518, 519, 520, 521, 319, 320, 321, 322, 323, 325, 14, 326, 522, 523, 524, 525, 327, 328, 329] (by decide +kernel)
set_option maxRecDepth 20000 in
theorem lwi_wsL_law_r19 : ∀ w ∈ wsL_law_r19, w ∈ lw_tbl := mem_p _ [330, 526, 527, 528, 529, 331, 332, 333, 334, 530, 531, 532, 533] (by decide +kernel)
set_option maxRecDepth 20000 in
theorem inX0 : ∀ w ∈ wsX00, w ∈ lw_tbl := mem_p _ [83, 85, 87, 89, 91] (by decide +kernel)
set_option maxRecDepth 20000 in
theorem inX1 : ∀ w ∈ wsX10, w ∈ lw_tbl := mem_p _ [103, 105, 107, 109, 111, 113, 115, 117] (by decide +kernel)
set_option maxRecDepth 20000 in
theorem inX2 : ∀ w ∈ wsX20, w ∈ lw_tbl := mem_p _ [359, 361, 363, 365, 367, 369, 371, 373, 375, 377, 379, 381, 383, 385] (by decide +kernel)
theorem mem_ap {big a b : List Cond} (ha : ∀ w ∈ a, w ∈ big) (hb : ∀ w ∈ b, w ∈ big) : ∀ w ∈ a ++ b, w ∈ big := fun w h => (List.mem_append.mp h).elim (ha w) (hb w)
theorem wsL_law_in : ∀ w ∈ wsL_law, w ∈ lw_tbl := mem_ap (mem_ap (mem_ap (mem_ap (mem_ap lwi_wsL_law_r1 (mem_ap lwi_wsL_law_r2 (mem_ap lwi_wsL_law_r3 (mem_ap lwi_wsL_law_r4 (mem_ap lwi_wsL_law_r5 (mem_ap lwi_wsL_law_r6 (mem_ap lwi_wsL_law_r7 (mem_ap lwi_wsL_law_r8 (mem_ap lwi_wsL_law_r9 (mem_ap lwi_wsL_law_r10 (mem_ap lwi_wsL_law_r11 (mem_ap lwi_wsL_law_r12 (mem_ap lwi_wsL_law_r13 (mem_ap lwi_wsL_law_r14 (mem_ap lwi_wsL_law_r15 (mem_ap lwi_wsL_law_r16 (mem_ap lwi_wsL_law_r17 (mem_ap lwi_wsL_law_r18 lwi_wsL_law_r19)))))))))))))))))) inX1) inX2) inX0) (fun _ h => absurd h List.not_mem_nil)
