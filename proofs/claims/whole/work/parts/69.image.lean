section ZImage
variable {M M1 Mc : zM} {n m k b i o : Nat} {law : Int32} {A : zM}
theorem tl_eq {f g h : Nat → Int32} {L : Nat} (h1 : ∀ j, j < L → f j = g j) (h2 : ∀ j, L ≤ j → f j = h j) (h3 : tz h L) (h4 : tz g L) : f = g := by
  funext j
  by_cases c : j < L
  · exact h1 j c
  · rw [h2 j (by omega), h3 j (by omega), h4 j (by omega)]
theorem w_all (h33 : M 86 33 = 1) (h32 : M 86 32 = nI b) (hb : b ≤ 200) (hm : mO M n m k law A) : ∃ M', qM_passAll M = some M' ∧ wM M M' b 0 161 ∧ kO M' b n m k law A := by
  obtain ⟨N1, a1, z1, w1, k1⟩ := pwS (M := M) (b := b) (P := 0) (r := 86) (i := 6) h33 h32 (by omega) (by decide) (Or.inr (by decide))
  have s1 : N1 86 33 = 1 := by rw [w1.2.2.1 33 (by decide)]; exact h33
  obtain ⟨N2, a2, z2, w2, k2⟩ := pwS (M := N1) (b := b) (P := 1) (r := 86) (i := 14) s1 w1.1 (by omega) (by decide) (Or.inr (by decide))
  have s2 : N2 86 33 = 1 := by rw [w2.2.2.1 33 (by decide)]; exact s1
  obtain ⟨N3, a3, z3, w3, k3⟩ := pwS (M := N2) (b := b) (P := 2) (r := 86) (i := 29) s2 w2.1 (by omega) (by decide) (Or.inr (by decide))
  have s3 : N3 86 33 = 1 := by rw [w3.2.2.1 33 (by decide)]; exact s2
  obtain ⟨N4, a4, z4, w4, k4⟩ := pwS (M := N3) (b := b) (P := 3) (r := 86) (i := 18) s3 w3.1 (by omega) (by decide) (Or.inr (by decide))
  have s4 : N4 86 33 = 1 := by rw [w4.2.2.1 33 (by decide)]; exact s3
  obtain ⟨N5, a5, w5, k5⟩ := wL_L50 s4 w4.1 hb
  have s5 : N5 86 33 = 1 := by rw [w5.2.2.1 33 (by decide)]; exact s4
  obtain ⟨N6, a6, w6, k6⟩ := wL_L112 s5 w5.1 hb
  have s6 : N6 86 33 = 1 := by rw [w6.2.2.1 33 (by decide)]; exact s5
  obtain ⟨N7, a7, w7, k7⟩ := wL_L141 s6 w6.1 hb
  have s7 : N7 86 33 = 1 := by rw [w7.2.2.1 33 (by decide)]; exact s6
  obtain ⟨N8, a8, w8, k8⟩ := wL_L171 s7 w7.1 hb
  have s8 : N8 86 33 = 1 := by rw [w8.2.2.1 33 (by decide)]; exact s7
  obtain ⟨N9, a9, w9, k9⟩ := wL_L200 s8 w8.1 hb
  have s9 : N9 86 33 = 1 := by rw [w9.2.2.1 33 (by decide)]; exact s8
  obtain ⟨Na, aa, wa, ka⟩ := wL_L305 s9 w9.1 hb
  have sa : Na 86 33 = 1 := by rw [wa.2.2.1 33 (by decide)]; exact s9
  obtain ⟨Nb, ab, wb, kb⟩ := wL_L367 sa wa.1 hb
  -- what stands behind each
  have ta := wb
  have t9 := wa.tr wb (by omega) (by omega)
  have t8 := w9.tr t9 (by omega) (by omega)
  have t7 := w8.tr t8 (by omega) (by omega)
  have t6 := w7.tr t7 (by omega) (by omega)
  have t5 := w6.tr t6 (by omega) (by omega)
  have t4 := w5.tr t5 (by omega) (by omega)
  have t3 := w4.tr t4 (by omega) (by omega)
  have t2 := w3.tr t3 (by omega) (by omega)
  have t1 := w2.tr t2 (by omega) (by omega)
  have t0 := w1.tr t1 (by omega) (by omega)
  -- the cells as they were
  have f4 := ((w1.tr w2 (by omega) (by omega)).tr w3 (by omega) (by omega)).tr w4 (by omega) (by omega)
  have f5 := f4.tr w5 (by omega) (by omega)
  have f6 := f5.tr w6 (by omega) (by omega)
  have f7 := f6.tr w7 (by omega) (by omega)
  have f8 := f7.tr w8 (by omega) (by omega)
  have f9 := f8.tr w9 (by omega) (by omega)
  have fa := f9.tr wa (by omega) (by omega)
  obtain ⟨⟨m1, m2, m3, m4, m5, m6, m7, m8, m9, m10, m11, m12, m13, m14, m15⟩, ml, mk, mc⟩ := hm
  refine ⟨Nb, ?_, t0, ⟨?_, ?_, ?_, ?_, fun j hj => ?_, fun j hj => ?_, fun j hj => ?_, fun j hj => ?_, fun j hj => ?_, fun j hj => ?_, fun j hj => ?_⟩⟩
  · unfold qM_passAll
    rw [zb2_ok a1, z1, zb2_ok a2, z2, zb2_ok a3, z3, zb2_ok a4, z4, a5, a6, a7, a8, a9, aa, ab]
  · rw [t1.2.2.2 b (by omega)]
    exact k1.trans m1
  · rw [t2.2.2.2 (b + 1) (by omega), k2, w1.2.2.1 14 (by decide)]
    exact m2
  · rw [t3.2.2.2 (b + 2) (by omega), k3, w2.2.2.1 29 (by decide), w1.2.2.1 29 (by decide)]
    exact mk
  · rw [t4.2.2.2 (b + 3) (by omega), k4, w3.2.2.1 18 (by decide), w2.2.2.1 18 (by decide), w1.2.2.1 18 (by decide)]
    exact ml
  · obtain ⟨q1, q2, q3⟩ := k5 j hj
    rw [t5.2.2.2 (b + 4 + 3 * j) (by omega), t5.2.2.2 (b + 4 + 3 * j + 1) (by omega), t5.2.2.2 (b + 4 + 3 * j + 2) (by omega), q1, q2, q3, f4.2.1 87 (by decide) (by decide), f4.2.1 88 (by decide) (by decide), f4.2.1 89 (by decide) (by decide), m5, m6, m7]
    exact ⟨rfl, rfl, rfl⟩
  · rw [t6.2.2.2 (b + 28 + j) (by omega), k6 j hj, f5.2.1 90 (by decide) (by decide), m8]
  · rw [t7.2.2.2 (b + 30 + j) (by omega), k7 j hj, f6.2.1 91 (by decide) (by decide), m4]
  · rw [t8.2.2.2 (b + 42 + j) (by omega), k8 j hj, f7.2.1 92 (by decide) (by decide), m3]
  · obtain ⟨q1, q2, q3, q4, q5⟩ := k9 j hj
    rw [t9.2.2.2 (b + 46 + 5 * j) (by omega), t9.2.2.2 (b + 46 + 5 * j + 1) (by omega), t9.2.2.2 (b + 46 + 5 * j + 2) (by omega), t9.2.2.2 (b + 46 + 5 * j + 3) (by omega), t9.2.2.2 (b + 46 + 5 * j + 4) (by omega), q1, q2, q3, q4, q5, f8.2.1 93 (by decide) (by decide), f8.2.1 94 (by decide) (by decide), f8.2.1 95 (by decide) (by decide), f8.2.1 96 (by decide) (by decide), m9, m10, m11, m12]
    exact ⟨rfl, rfl, rfl, rfl, rfl⟩
  · obtain ⟨q1, q2, q3⟩ := ka j hj
    rw [ta.2.2.2 (b + 71 + 3 * j) (by omega), ta.2.2.2 (b + 71 + 3 * j + 1) (by omega), ta.2.2.2 (b + 71 + 3 * j + 2) (by omega), q1, q2, q3, f9.2.1 97 (by decide) (by decide), f9.2.1 98 (by decide) (by decide), f9.2.1 99 (by decide) (by decide), m13]
    exact ⟨rfl, m14 j, m15 j⟩
  · rw [kb j hj, fa.2.1 105 (by decide) (by decide), mc]
theorem rp_86o {P r i j : Nat} (h1 : j ≠ 32) (h2 : j ≠ i) : rp M b P 86 i 86 j = M 86 j := by
  unfold rp
  rw [zw_other h2, zw_other h1]
theorem r_all (h33 : M 86 33 = 0) (h32 : M 86 32 = nI b) (hb : b ≤ 200) (hk : kO M b n m k law A) : ∃ M', qM_passAll M = some M' ∧ (∀ j, j ≠ 6 → j ≠ 14 → j ≠ 29 → j ≠ 18 → j ≠ 32 → M' 86 j = M 86 j) ∧ (∀ c, c ≠ 86 → ¬ (87 ≤ c ∧ c ≤ 99) → c ≠ 105 → M' c = M c) ∧ (M' 86 6 = nI n ∧ M' 86 14 = nI m ∧ M' 86 29 = nI k ∧ M' 86 18 = law) ∧ ((∀ j, j < 8 → M' 87 j = A 2 j ∧ M' 88 j = A 3 j ∧ M' 89 j = A 4 j) ∧ (∀ j, j < 2 → M' 90 j = A 5 j) ∧ (∀ j, j < 12 → M' 91 j = A 1 j) ∧ (∀ j, j < 4 → M' 92 j = A 0 j) ∧ (∀ j, j < 5 → M' 93 j = A 6 j ∧ M' 94 (2 * j) = A 7 (2 * j) ∧ M' 94 (2 * j + 1) = A 7 (2 * j + 1) ∧ M' 95 j = A 8 j ∧ M' 96 j = A 9 j) ∧ (∀ j, j < 20 → M' 97 j = A 10 j ∧ (A 10 j ≠ 0 → M' 98 j = A 11 j) ∧ (A 10 j ≠ 0 → M' 99 j = A 12 j)) ∧ (∀ j, j < 30 → M' 105 j = A 13 j)) ∧ ((∀ j, 8 ≤ j → M' 87 j = M 87 j ∧ M' 88 j = M 88 j ∧ M' 89 j = M 89 j) ∧ (∀ j, 2 ≤ j → M' 90 j = M 90 j) ∧ (∀ j, 12 ≤ j → M' 91 j = M 91 j) ∧ (∀ j, 4 ≤ j → M' 92 j = M 92 j) ∧ (∀ j, 5 ≤ j → M' 93 j = M 93 j ∧ M' 95 j = M 95 j ∧ M' 96 j = M 96 j) ∧ (∀ j, 10 ≤ j → M' 94 j = M 94 j) ∧ (∀ j, 20 ≤ j → M' 97 j = M 97 j) ∧ (∀ j, 30 ≤ j → M' 105 j = M 105 j)) := by
  obtain ⟨N1, d1⟩ : ∃ N, N = rp M b 0 86 6 := ⟨_, rfl⟩
  have u1 : N1 106 = M 106 := by rw [d1, rp_ne (by decide) (by decide)]
  have x1 : N1 86 32 = nI (b + 1) := by rw [d1]; exact rp_32 (Or.inr (by decide))
  have s1 : N1 86 33 = 0 := by rw [d1, rp_86o (r := 86) (by decide) (by decide)]; exact h33
  obtain ⟨N2, d2⟩ : ∃ N, N = rp N1 b 1 86 14 := ⟨_, rfl⟩
  have u2 : N2 106 = M 106 := by rw [d2, rp_ne (by decide) (by decide), u1]
  have x2 : N2 86 32 = nI (b + 2) := by rw [d2]; exact rp_32 (Or.inr (by decide))
  have s2 : N2 86 33 = 0 := by rw [d2, rp_86o (r := 86) (by decide) (by decide)]; exact s1
  obtain ⟨N3, d3⟩ : ∃ N, N = rp N2 b 2 86 29 := ⟨_, rfl⟩
  have u3 : N3 106 = M 106 := by rw [d3, rp_ne (by decide) (by decide), u2]
  have x3 : N3 86 32 = nI (b + 3) := by rw [d3]; exact rp_32 (Or.inr (by decide))
  have s3 : N3 86 33 = 0 := by rw [d3, rp_86o (r := 86) (by decide) (by decide)]; exact s2
  obtain ⟨N4, d4⟩ : ∃ N, N = rp N3 b 3 86 18 := ⟨_, rfl⟩
  have u4 : N4 106 = M 106 := by rw [d4, rp_ne (by decide) (by decide), u3]
  have x4 : N4 86 32 = nI (b + 4) := by rw [d4]; exact rp_32 (Or.inr (by decide))
  have s4 : N4 86 33 = 0 := by rw [d4, rp_86o (r := 86) (by decide) (by decide)]; exact s3
  have c4 : ∀ c, c ≠ 86 → N4 c = M c := fun c hc => by rw [d4, rp_ne hc hc, d3, rp_ne hc hc, d2, rp_ne hc hc, d1, rp_ne hc hc]
  have y4 : ∀ j, j ≠ 6 → j ≠ 14 → j ≠ 29 → j ≠ 18 → j ≠ 32 → N4 86 j = M 86 j := fun j a1 a2 a3 a4 a5 => by rw [d4, rp_86o (r := 86) a5 a4, d3, rp_86o (r := 86) a5 a3, d2, rp_86o (r := 86) a5 a2, d1, rp_86o (r := 86) a5 a1]
  have v6 : N4 86 6 = M 106 b := by rw [d4, rp_86o (r := 86) (by decide) (by decide), d3, rp_86o (r := 86) (by decide) (by decide), d2, rp_86o (r := 86) (by decide) (by decide), d1, rp_at]; rfl
  have v14 : N4 86 14 = M 106 (b + 1) := by rw [d4, rp_86o (r := 86) (by decide) (by decide), d3, rp_86o (r := 86) (by decide) (by decide), d2, rp_at, u1]
  have v29 : N4 86 29 = M 106 (b + 2) := by rw [d4, rp_86o (r := 86) (by decide) (by decide), d3, rp_at, u2]
  have v18 : N4 86 18 = M 106 (b + 3) := by rw [d4, rp_at, u3]
  obtain ⟨N5, a5, t5, y5, c5, k5, r87, r88, r89⟩ := rL_L50 s4 x4 hb
  have s5 : N5 86 33 = 0 := by rw [y5 33 (by decide)]; exact s4
  have u5 : N5 106 = M 106 := by rw [c5 106 (by decide) (by decide) (by decide) (by decide), u4]
  obtain ⟨N6, a6, t6, y6, c6, k6, r90⟩ := rL_L112 s5 t5 hb
  have s6 : N6 86 33 = 0 := by rw [y6 33 (by decide)]; exact s5
  have u6 : N6 106 = M 106 := by rw [c6 106 (by decide) (by decide), u5]
  obtain ⟨N7, a7, t7, y7, c7, k7, r91⟩ := rL_L141 s6 t6 hb
  have s7 : N7 86 33 = 0 := by rw [y7 33 (by decide)]; exact s6
  have u7 : N7 106 = M 106 := by rw [c7 106 (by decide) (by decide), u6]
  obtain ⟨N8, a8, t8, y8, c8, k8, r92⟩ := rL_L171 s7 t7 hb
  have s8 : N8 86 33 = 0 := by rw [y8 33 (by decide)]; exact s7
  have u8 : N8 106 = M 106 := by rw [c8 106 (by decide) (by decide), u7]
  obtain ⟨N9, a9, t9, y9, c9, k9, r93, r94, r95, r96⟩ := rL_L200 s8 t8 hb
  have s9 : N9 86 33 = 0 := by rw [y9 33 (by decide)]; exact s8
  have u9 : N9 106 = M 106 := by rw [c9 106 (by decide) (by decide) (by decide) (by decide) (by decide), u8]
  obtain ⟨Na, aa, ta, ya, ca, ka, r97, r98, r99⟩ := rL_L305 s9 t9 hb
  have sa : Na 86 33 = 0 := by rw [ya 33 (by decide)]; exact s9
  have ua : Na 106 = M 106 := by rw [ca 106 (by decide) (by decide) (by decide) (by decide), u9]
  obtain ⟨Nb, ab, tb, yb, cb, kb, r105⟩ := rL_L367 sa ta hb
  have yy : ∀ j, j ≠ 32 → Nb 86 j = N4 86 j := fun j hj => by rw [yb j hj, ya j hj, y9 j hj, y8 j hj, y7 j hj, y6 j hj, y5 j hj]
  -- each row as it then stands
  have q5 : ∀ c, c = 87 ∨ c = 88 ∨ c = 89 → Nb c = N5 c := fun c hc => by rw [cb c (by omega) (by omega), ca c (by omega) (by omega) (by omega) (by omega), c9 c (by omega) (by omega) (by omega) (by omega) (by omega), c8 c (by omega) (by omega), c7 c (by omega) (by omega), c6 c (by omega) (by omega)]
  have q6 : Nb 90 = N6 90 := by rw [cb 90 (by decide) (by decide), ca 90 (by decide) (by decide) (by decide) (by decide), c9 90 (by decide) (by decide) (by decide) (by decide) (by decide), c8 90 (by decide) (by decide), c7 90 (by decide) (by decide)]
  have q7 : Nb 91 = N7 91 := by rw [cb 91 (by decide) (by decide), ca 91 (by decide) (by decide) (by decide) (by decide), c9 91 (by decide) (by decide) (by decide) (by decide) (by decide), c8 91 (by decide) (by decide)]
  have q8 : Nb 92 = N8 92 := by rw [cb 92 (by decide) (by decide), ca 92 (by decide) (by decide) (by decide) (by decide), c9 92 (by decide) (by decide) (by decide) (by decide) (by decide)]
  have q9 : ∀ c, 93 ≤ c → c ≤ 96 → Nb c = N9 c := fun c h1 h2 => by rw [cb c (by omega) (by omega), ca c (by omega) (by omega) (by omega) (by omega)]
  have qa : ∀ c, 97 ≤ c → c ≤ 99 → Nb c = Na c := fun c h1 h2 => by rw [cb c (by omega) (by omega)]
  -- each row as it was
  have p5 : ∀ c, c ≠ 86 → N4 c = M c := c4
  have p6 : ∀ c, 90 ≤ c → N5 c = M c := fun c h => by rw [c5 c (by omega) (by omega) (by omega) (by omega)]; exact c4 c (by omega)
  have p7 : ∀ c, 91 ≤ c → N6 c = M c := fun c h => by rw [c6 c (by omega) (by omega)]; exact p6 c (by omega)
  have p8 : ∀ c, 92 ≤ c → N7 c = M c := fun c h => by rw [c7 c (by omega) (by omega)]; exact p7 c (by omega)
  have p9 : ∀ c, 93 ≤ c → N8 c = M c := fun c h => by rw [c8 c (by omega) (by omega)]; exact p8 c (by omega)
  have pa : ∀ c, 97 ≤ c → N9 c = M c := fun c h => by rw [c9 c (by omega) (by omega) (by omega) (by omega) (by omega)]; exact p9 c (by omega)
  have pb : ∀ c, 100 ≤ c → Na c = M c := fun c h => by rw [ca c (by omega) (by omega) (by omega) (by omega)]; exact pa c (by omega)
  refine ⟨Nb, ?_, fun j b1 b2 b3 b4 b5 => (yy j b5).trans (y4 j b1 b2 b3 b4 b5), fun c e1 e2 e3 => ?_, ⟨?_, ?_, ?_, ?_⟩, ⟨fun j hj => ?_, fun j hj => ?_, fun j hj => ?_, fun j hj => ?_, fun j hj => ?_, fun j hj => ?_, fun j hj => ?_⟩, ⟨fun j hj => ?_, fun j hj => ?_, fun j hj => ?_, fun j hj => ?_, fun j hj => ?_, fun j hj => ?_, fun j hj => ?_, fun j hj => ?_⟩⟩
  · unfold qM_passAll
    rw [zb2_ok (prS (b := b) (P := 0) h33 h32 (by omega) _), show zw (zw M 86 32 (nI (b + (0 + 1)))) 86 6 (M 106 (b + 0)) = N1 from d1.symm, zb2_ok (prS (b := b) (P := 1) s1 x1 (by omega) _), show zw (zw N1 86 32 (nI (b + (1 + 1)))) 86 14 (N1 106 (b + 1)) = N2 from d2.symm, zb2_ok (prS (b := b) (P := 2) s2 x2 (by omega) _), show zw (zw N2 86 32 (nI (b + (2 + 1)))) 86 29 (N2 106 (b + 2)) = N3 from d3.symm, zb2_ok (prS (b := b) (P := 3) s3 x3 (by omega) _), show zw (zw N3 86 32 (nI (b + (3 + 1)))) 86 18 (N3 106 (b + 3)) = N4 from d4.symm, a5, a6, a7, a8, a9, aa, ab]
  · rw [cb c e1 (by omega), ca c e1 (by omega) (by omega) (by omega), c9 c e1 (by omega) (by omega) (by omega) (by omega), c8 c e1 (by omega), c7 c e1 (by omega), c6 c e1 (by omega), c5 c e1 (by omega) (by omega) (by omega)]
    exact c4 c e1
  · rw [yy 6 (by decide), v6]; exact hk.n
  · rw [yy 14 (by decide), v14]; exact hk.m
  · rw [yy 29 (by decide), v29]; exact hk.k
  · rw [yy 18 (by decide), v18]; exact hk.l
  · obtain ⟨e1, e2, e3⟩ := k5 j hj
    obtain ⟨g1, g2, g3⟩ := hk.g j hj
    rw [q5 87 (by omega), q5 88 (by omega), q5 89 (by omega), e1, e2, e3, u4, g1, g2, g3]
    exact ⟨rfl, rfl, rfl⟩
  · rw [q6, k6 j hj, u5]; exact hk.w j hj
  · rw [q7, k7 j hj, u6]; exact hk.p j hj
  · rw [q8, k8 j hj, u7]; exact hk.s j hj
  · obtain ⟨e1, e2, e3, e4, e5⟩ := k9 j hj
    obtain ⟨g1, g2, g3, g4, g5⟩ := hk.q j hj
    rw [q9 93 (by omega) (by omega), q9 94 (by omega) (by omega), q9 95 (by omega) (by omega), q9 96 (by omega) (by omega), e1, e2, e3, e4, e5, u8, g1, g2, g3, g4, g5]
    exact ⟨rfl, rfl, rfl, rfl, rfl⟩
  · obtain ⟨e1, e2, e3⟩ := ka j hj
    obtain ⟨g1, g2, g3⟩ := hk.i j hj
    rw [qa 97 (by omega) (by omega), qa 98 (by omega) (by omega), qa 99 (by omega) (by omega), e1, e2, e3, u9, g1]
    exact ⟨rfl, g2, g3⟩
  · rw [kb j hj, ua]; exact hk.t j hj
  · rw [q5 87 (by omega), q5 88 (by omega), q5 89 (by omega), r87 j hj, r88 j hj, r89 j hj, c4 87 (by decide), c4 88 (by decide), c4 89 (by decide)]
    exact ⟨rfl, rfl, rfl⟩
  · rw [q6, r90 j hj, p6 90 (by omega)]
  · rw [q7, r91 j hj, p7 91 (by omega)]
  · rw [q8, r92 j hj, p8 92 (by omega)]
  · rw [q9 93 (by omega) (by omega), q9 95 (by omega) (by omega), q9 96 (by omega) (by omega), r93 j hj, r95 j hj, r96 j hj, p9 93 (by omega), p9 95 (by omega), p9 96 (by omega)]
    exact ⟨rfl, rfl, rfl⟩
  · rw [q9 94 (by omega) (by omega), r94 j hj, p9 94 (by omega)]
  · rw [qa 97 (by omega) (by omega), r97 j hj, pa 97 (by omega)]
  · rw [r105 j hj, pb 105 (by omega)]
end ZImage
