section ZCopy
variable {M : zM} {n m k : Nat} {law : Int32} {A : zM}
theorem eG_22_3 (hT : ∀ c L, (c, L) ∈ zTc → (3 ≤ c ∧ c ≤ 9) ∨ (22 ≤ c ∧ c ≤ 28) → tz (M c) L) : ∃ M', qG_copy_22_3 M = some M' ∧ (∀ c, ¬ (22 ≤ c ∧ c ≤ 28) → M' c = M c) ∧ M' 22 0 = M 3 0 ∧ M' 23 = M 4 ∧ M' 24 = M 5 ∧ M' 25 = M 6 ∧ M' 26 = M 7 ∧ M' 27 = M 8 ∧ M' 28 = M 9 := by
  refine ⟨_, rfl, ?_, ?_, ?_, ?_, ?_, ?_, ?_, ?_⟩
  · intro c hc
    rw [zA_ne (by omega), zA_ne (by omega), zA_ne (by omega), zA_ne (by omega), zA_ne (by omega), zA_ne (by omega), zw_ne (by omega)]
  · show M 3 0 = M 3 0
    rfl
  · show va_cpy (M 4) (M 23) 0 0 4 = M 4
    exact tz_cpy (hT 4 4 (by decide) (by omega)) (hT 23 4 (by decide) (by omega))
  · show va_cpy (M 5) (M 24) 0 0 12 = M 5
    exact tz_cpy (hT 5 12 (by decide) (by omega)) (hT 24 12 (by decide) (by omega))
  · show va_cpy (M 6) (M 25) 0 0 8 = M 6
    exact tz_cpy (hT 6 8 (by decide) (by omega)) (hT 25 8 (by decide) (by omega))
  · show va_cpy (M 7) (M 26) 0 0 8 = M 7
    exact tz_cpy (hT 7 8 (by decide) (by omega)) (hT 26 8 (by decide) (by omega))
  · show va_cpy (M 8) (M 27) 0 0 8 = M 8
    exact tz_cpy (hT 8 8 (by decide) (by omega)) (hT 27 8 (by decide) (by omega))
  · show va_cpy (M 9) (M 28) 0 0 2 = M 9
    exact tz_cpy (hT 9 2 (by decide) (by omega)) (hT 28 2 (by decide) (by omega))
theorem eE_29_10 (hT : ∀ c L, (c, L) ∈ zTc → (10 ≤ c ∧ c ≤ 17) ∨ (29 ≤ c ∧ c ≤ 36) → tz (M c) L) : ∃ M', qE_copy_29_10 M = some M' ∧ (∀ c, ¬ (29 ≤ c ∧ c ≤ 36) → M' c = M c) ∧ M' 29 0 = M 10 0 ∧ M' 30 = M 11 ∧ M' 31 = M 12 ∧ M' 32 = M 13 ∧ M' 33 = M 14 ∧ M' 34 = M 15 ∧ M' 35 = M 16 ∧ M' 36 = M 17 := by
  refine ⟨_, rfl, ?_, ?_, ?_, ?_, ?_, ?_, ?_, ?_, ?_⟩
  · intro c hc
    rw [zA_ne (by omega), zA_ne (by omega), zA_ne (by omega), zA_ne (by omega), zA_ne (by omega), zA_ne (by omega), zA_ne (by omega), zw_ne (by omega)]
  · show M 10 0 = M 10 0
    rfl
  · show va_cpy (M 11) (M 30) 0 0 5 = M 11
    exact tz_cpy (hT 11 5 (by decide) (by omega)) (hT 30 5 (by decide) (by omega))
  · show va_cpy (M 12) (M 31) 0 0 10 = M 12
    exact tz_cpy (hT 12 10 (by decide) (by omega)) (hT 31 10 (by decide) (by omega))
  · show va_cpy (M 13) (M 32) 0 0 5 = M 13
    exact tz_cpy (hT 13 5 (by decide) (by omega)) (hT 32 5 (by decide) (by omega))
  · show va_cpy (M 14) (M 33) 0 0 5 = M 14
    exact tz_cpy (hT 14 5 (by decide) (by omega)) (hT 33 5 (by decide) (by omega))
  · show va_cpy (M 15) (M 34) 0 0 20 = M 15
    exact tz_cpy (hT 15 20 (by decide) (by omega)) (hT 34 20 (by decide) (by omega))
  · show va_cpy (M 16) (M 35) 0 0 20 = M 16
    exact tz_cpy (hT 16 20 (by decide) (by omega)) (hT 35 20 (by decide) (by omega))
  · show va_cpy (M 17) (M 36) 0 0 20 = M 17
    exact tz_cpy (hT 17 20 (by decide) (by omega)) (hT 36 20 (by decide) (by omega))
theorem eT_37_18 (hT : ∀ c L, (c, L) ∈ zTc → (18 ≤ c ∧ c ≤ 19) ∨ (37 ≤ c ∧ c ≤ 38) → tz (M c) L) : ∃ M', qT_copy_37_18 M = some M' ∧ (∀ c, ¬ (37 ≤ c ∧ c ≤ 38) → M' c = M c) ∧ M' 37 0 = M 18 0 ∧ M' 38 = M 19 := by
  refine ⟨_, rfl, ?_, ?_, ?_⟩
  · intro c hc
    rw [zA_ne (by omega), zw_ne (by omega)]
  · show M 18 0 = M 18 0
    rfl
  · show va_cpy (M 19) (M 38) 0 0 30 = M 19
    exact tz_cpy (hT 19 30 (by decide) (by omega)) (hT 38 30 (by decide) (by omega))
theorem eO_21_2 (hT : tT M) (h : tO M 2 n m k law A) : ∃ M', qO_copy_21_2 M = some M' ∧ (∀ c, ¬ (21 ≤ c ∧ c ≤ 38) → M' c = M c) ∧ tO M' 21 n m k law A ∧ (∀ c L, (c, L) ∈ zTc → 21 ≤ c → c ≤ 38 → tz (M' c) L) := by
  obtain ⟨M1, a1, a2, g0, g1, g2, g3, g4, g5, g6⟩ := eG_22_3 (M := M) (fun c L hc _ => hT (c, L) hc)
  obtain ⟨M2, b1, b2, p0, p1, p2, p3, p4, p5, p6, p7⟩ := eE_29_10 (M := M1) (fun c L hc hr => by rw [a2 c (by omega)]; exact hT (c, L) hc)
  obtain ⟨M3, c1, c2, t0, t1⟩ := eT_37_18 (M := M2) (fun c L hc hr => by rw [b2 c (by omega), a2 c (by omega)]; exact hT (c, L) hc)
  have hl : M3 2 3 = M 2 3 := by rw [c2 2 (by omega), b2 2 (by omega), a2 2 (by omega)]
  refine ⟨zw M3 21 3 (M3 2 3), ?_, fun c hc => ?_, ?_, ?_⟩
  · unfold qO_copy_21_2
    rw [zb_ok a1, zb_ok b1, zb_ok c1]
  · rw [zw_ne (by omega), c2 c (by omega), b2 c (by omega), a2 c (by omega)]
  · exact ⟨(by rw [zw_same, hl]; exact h.l), (by rw [zw_ne (by decide), c2 22 (by omega), b2 22 (by omega), g0]; exact h.n), (by rw [zw_ne (by decide), c2 23 (by omega), b2 23 (by omega), g1]; exact h.c0), (by rw [zw_ne (by decide), c2 24 (by omega), b2 24 (by omega), g2]; exact h.c1), (by rw [zw_ne (by decide), c2 25 (by omega), b2 25 (by omega), g3]; exact h.c2), (by rw [zw_ne (by decide), c2 26 (by omega), b2 26 (by omega), g4]; exact h.c3), (by rw [zw_ne (by decide), c2 27 (by omega), b2 27 (by omega), g5]; exact h.c4), (by rw [zw_ne (by decide), c2 28 (by omega), b2 28 (by omega), g6]; exact h.c5), (by rw [zw_ne (by decide), c2 29 (by omega), p0, a2 10 (by omega)]; exact h.m), (by rw [zw_ne (by decide), c2 30 (by omega), p1, a2 11 (by omega)]; exact h.c6), (by rw [zw_ne (by decide), c2 31 (by omega), p2, a2 12 (by omega)]; exact h.c7), (by rw [zw_ne (by decide), c2 32 (by omega), p3, a2 13 (by omega)]; exact h.c8), (by rw [zw_ne (by decide), c2 33 (by omega), p4, a2 14 (by omega)]; exact h.c9), (by rw [zw_ne (by decide), c2 34 (by omega), p5, a2 15 (by omega)]; exact h.c10), (by rw [zw_ne (by decide), c2 35 (by omega), p6, a2 16 (by omega)]; exact h.c11), (by rw [zw_ne (by decide), c2 36 (by omega), p7, a2 17 (by omega)]; exact h.c12), (by rw [zw_ne (by decide), t0, b2 18 (by omega), a2 18 (by omega)]; exact h.k), (by rw [zw_ne (by decide), t1, b2 19 (by omega), a2 19 (by omega)]; exact h.c13)⟩
  · intro c L hc h1 h2
    have hh : ∀ p, p ∈ zTc → 21 ≤ p.1 → p.1 ≤ 38 → p = (23, 4) ∨ p = (24, 12) ∨ p = (25, 8) ∨ p = (26, 8) ∨ p = (27, 8) ∨ p = (28, 2) ∨ p = (30, 5) ∨ p = (31, 10) ∨ p = (32, 5) ∨ p = (33, 5) ∨ p = (34, 20) ∨ p = (35, 20) ∨ p = (36, 20) ∨ p = (38, 30) := by decide
    rcases hh (c, L) hc h1 h2 with h | h | h | h | h | h | h | h | h | h | h | h | h | h
    · cases h
      rw [zw_ne (by decide), c2 23 (by omega), b2 23 (by omega), g1]
      exact hT (4, 4) (by decide)
    · cases h
      rw [zw_ne (by decide), c2 24 (by omega), b2 24 (by omega), g2]
      exact hT (5, 12) (by decide)
    · cases h
      rw [zw_ne (by decide), c2 25 (by omega), b2 25 (by omega), g3]
      exact hT (6, 8) (by decide)
    · cases h
      rw [zw_ne (by decide), c2 26 (by omega), b2 26 (by omega), g4]
      exact hT (7, 8) (by decide)
    · cases h
      rw [zw_ne (by decide), c2 27 (by omega), b2 27 (by omega), g5]
      exact hT (8, 8) (by decide)
    · cases h
      rw [zw_ne (by decide), c2 28 (by omega), b2 28 (by omega), g6]
      exact hT (9, 2) (by decide)
    · cases h
      rw [zw_ne (by decide), c2 30 (by omega), p1, a2 11 (by omega)]
      exact hT (11, 5) (by decide)
    · cases h
      rw [zw_ne (by decide), c2 31 (by omega), p2, a2 12 (by omega)]
      exact hT (12, 10) (by decide)
    · cases h
      rw [zw_ne (by decide), c2 32 (by omega), p3, a2 13 (by omega)]
      exact hT (13, 5) (by decide)
    · cases h
      rw [zw_ne (by decide), c2 33 (by omega), p4, a2 14 (by omega)]
      exact hT (14, 5) (by decide)
    · cases h
      rw [zw_ne (by decide), c2 34 (by omega), p5, a2 15 (by omega)]
      exact hT (15, 20) (by decide)
    · cases h
      rw [zw_ne (by decide), c2 35 (by omega), p6, a2 16 (by omega)]
      exact hT (16, 20) (by decide)
    · cases h
      rw [zw_ne (by decide), c2 36 (by omega), p7, a2 17 (by omega)]
      exact hT (17, 20) (by decide)
    · cases h
      rw [zw_ne (by decide), t1, b2 19 (by omega), a2 19 (by omega)]
      exact hT (19, 30) (by decide)
theorem eG_40_3 (hT : ∀ c L, (c, L) ∈ zTc → (3 ≤ c ∧ c ≤ 9) ∨ (40 ≤ c ∧ c ≤ 46) → tz (M c) L) : ∃ M', qG_copy_40_3 M = some M' ∧ (∀ c, ¬ (40 ≤ c ∧ c ≤ 46) → M' c = M c) ∧ M' 40 0 = M 3 0 ∧ M' 41 = M 4 ∧ M' 42 = M 5 ∧ M' 43 = M 6 ∧ M' 44 = M 7 ∧ M' 45 = M 8 ∧ M' 46 = M 9 := by
  refine ⟨_, rfl, ?_, ?_, ?_, ?_, ?_, ?_, ?_, ?_⟩
  · intro c hc
    rw [zA_ne (by omega), zA_ne (by omega), zA_ne (by omega), zA_ne (by omega), zA_ne (by omega), zA_ne (by omega), zw_ne (by omega)]
  · show M 3 0 = M 3 0
    rfl
  · show va_cpy (M 4) (M 41) 0 0 4 = M 4
    exact tz_cpy (hT 4 4 (by decide) (by omega)) (hT 41 4 (by decide) (by omega))
  · show va_cpy (M 5) (M 42) 0 0 12 = M 5
    exact tz_cpy (hT 5 12 (by decide) (by omega)) (hT 42 12 (by decide) (by omega))
  · show va_cpy (M 6) (M 43) 0 0 8 = M 6
    exact tz_cpy (hT 6 8 (by decide) (by omega)) (hT 43 8 (by decide) (by omega))
  · show va_cpy (M 7) (M 44) 0 0 8 = M 7
    exact tz_cpy (hT 7 8 (by decide) (by omega)) (hT 44 8 (by decide) (by omega))
  · show va_cpy (M 8) (M 45) 0 0 8 = M 8
    exact tz_cpy (hT 8 8 (by decide) (by omega)) (hT 45 8 (by decide) (by omega))
  · show va_cpy (M 9) (M 46) 0 0 2 = M 9
    exact tz_cpy (hT 9 2 (by decide) (by omega)) (hT 46 2 (by decide) (by omega))
theorem eE_47_10 (hT : ∀ c L, (c, L) ∈ zTc → (10 ≤ c ∧ c ≤ 17) ∨ (47 ≤ c ∧ c ≤ 54) → tz (M c) L) : ∃ M', qE_copy_47_10 M = some M' ∧ (∀ c, ¬ (47 ≤ c ∧ c ≤ 54) → M' c = M c) ∧ M' 47 0 = M 10 0 ∧ M' 48 = M 11 ∧ M' 49 = M 12 ∧ M' 50 = M 13 ∧ M' 51 = M 14 ∧ M' 52 = M 15 ∧ M' 53 = M 16 ∧ M' 54 = M 17 := by
  refine ⟨_, rfl, ?_, ?_, ?_, ?_, ?_, ?_, ?_, ?_, ?_⟩
  · intro c hc
    rw [zA_ne (by omega), zA_ne (by omega), zA_ne (by omega), zA_ne (by omega), zA_ne (by omega), zA_ne (by omega), zA_ne (by omega), zw_ne (by omega)]
  · show M 10 0 = M 10 0
    rfl
  · show va_cpy (M 11) (M 48) 0 0 5 = M 11
    exact tz_cpy (hT 11 5 (by decide) (by omega)) (hT 48 5 (by decide) (by omega))
  · show va_cpy (M 12) (M 49) 0 0 10 = M 12
    exact tz_cpy (hT 12 10 (by decide) (by omega)) (hT 49 10 (by decide) (by omega))
  · show va_cpy (M 13) (M 50) 0 0 5 = M 13
    exact tz_cpy (hT 13 5 (by decide) (by omega)) (hT 50 5 (by decide) (by omega))
  · show va_cpy (M 14) (M 51) 0 0 5 = M 14
    exact tz_cpy (hT 14 5 (by decide) (by omega)) (hT 51 5 (by decide) (by omega))
  · show va_cpy (M 15) (M 52) 0 0 20 = M 15
    exact tz_cpy (hT 15 20 (by decide) (by omega)) (hT 52 20 (by decide) (by omega))
  · show va_cpy (M 16) (M 53) 0 0 20 = M 16
    exact tz_cpy (hT 16 20 (by decide) (by omega)) (hT 53 20 (by decide) (by omega))
  · show va_cpy (M 17) (M 54) 0 0 20 = M 17
    exact tz_cpy (hT 17 20 (by decide) (by omega)) (hT 54 20 (by decide) (by omega))
theorem eT_55_18 (hT : ∀ c L, (c, L) ∈ zTc → (18 ≤ c ∧ c ≤ 19) ∨ (55 ≤ c ∧ c ≤ 56) → tz (M c) L) : ∃ M', qT_copy_55_18 M = some M' ∧ (∀ c, ¬ (55 ≤ c ∧ c ≤ 56) → M' c = M c) ∧ M' 55 0 = M 18 0 ∧ M' 56 = M 19 := by
  refine ⟨_, rfl, ?_, ?_, ?_⟩
  · intro c hc
    rw [zA_ne (by omega), zw_ne (by omega)]
  · show M 18 0 = M 18 0
    rfl
  · show va_cpy (M 19) (M 56) 0 0 30 = M 19
    exact tz_cpy (hT 19 30 (by decide) (by omega)) (hT 56 30 (by decide) (by omega))
theorem eO_39_2 (hT : tT M) (h : tO M 2 n m k law A) : ∃ M', qO_copy_39_2 M = some M' ∧ (∀ c, ¬ (39 ≤ c ∧ c ≤ 56) → M' c = M c) ∧ tO M' 39 n m k law A ∧ (∀ c L, (c, L) ∈ zTc → 39 ≤ c → c ≤ 56 → tz (M' c) L) := by
  obtain ⟨M1, a1, a2, g0, g1, g2, g3, g4, g5, g6⟩ := eG_40_3 (M := M) (fun c L hc _ => hT (c, L) hc)
  obtain ⟨M2, b1, b2, p0, p1, p2, p3, p4, p5, p6, p7⟩ := eE_47_10 (M := M1) (fun c L hc hr => by rw [a2 c (by omega)]; exact hT (c, L) hc)
  obtain ⟨M3, c1, c2, t0, t1⟩ := eT_55_18 (M := M2) (fun c L hc hr => by rw [b2 c (by omega), a2 c (by omega)]; exact hT (c, L) hc)
  have hl : M3 2 3 = M 2 3 := by rw [c2 2 (by omega), b2 2 (by omega), a2 2 (by omega)]
  refine ⟨zw M3 39 3 (M3 2 3), ?_, fun c hc => ?_, ?_, ?_⟩
  · unfold qO_copy_39_2
    rw [zb_ok a1, zb_ok b1, zb_ok c1]
  · rw [zw_ne (by omega), c2 c (by omega), b2 c (by omega), a2 c (by omega)]
  · exact ⟨(by rw [zw_same, hl]; exact h.l), (by rw [zw_ne (by decide), c2 40 (by omega), b2 40 (by omega), g0]; exact h.n), (by rw [zw_ne (by decide), c2 41 (by omega), b2 41 (by omega), g1]; exact h.c0), (by rw [zw_ne (by decide), c2 42 (by omega), b2 42 (by omega), g2]; exact h.c1), (by rw [zw_ne (by decide), c2 43 (by omega), b2 43 (by omega), g3]; exact h.c2), (by rw [zw_ne (by decide), c2 44 (by omega), b2 44 (by omega), g4]; exact h.c3), (by rw [zw_ne (by decide), c2 45 (by omega), b2 45 (by omega), g5]; exact h.c4), (by rw [zw_ne (by decide), c2 46 (by omega), b2 46 (by omega), g6]; exact h.c5), (by rw [zw_ne (by decide), c2 47 (by omega), p0, a2 10 (by omega)]; exact h.m), (by rw [zw_ne (by decide), c2 48 (by omega), p1, a2 11 (by omega)]; exact h.c6), (by rw [zw_ne (by decide), c2 49 (by omega), p2, a2 12 (by omega)]; exact h.c7), (by rw [zw_ne (by decide), c2 50 (by omega), p3, a2 13 (by omega)]; exact h.c8), (by rw [zw_ne (by decide), c2 51 (by omega), p4, a2 14 (by omega)]; exact h.c9), (by rw [zw_ne (by decide), c2 52 (by omega), p5, a2 15 (by omega)]; exact h.c10), (by rw [zw_ne (by decide), c2 53 (by omega), p6, a2 16 (by omega)]; exact h.c11), (by rw [zw_ne (by decide), c2 54 (by omega), p7, a2 17 (by omega)]; exact h.c12), (by rw [zw_ne (by decide), t0, b2 18 (by omega), a2 18 (by omega)]; exact h.k), (by rw [zw_ne (by decide), t1, b2 19 (by omega), a2 19 (by omega)]; exact h.c13)⟩
  · intro c L hc h1 h2
    have hh : ∀ p, p ∈ zTc → 39 ≤ p.1 → p.1 ≤ 56 → p = (41, 4) ∨ p = (42, 12) ∨ p = (43, 8) ∨ p = (44, 8) ∨ p = (45, 8) ∨ p = (46, 2) ∨ p = (48, 5) ∨ p = (49, 10) ∨ p = (50, 5) ∨ p = (51, 5) ∨ p = (52, 20) ∨ p = (53, 20) ∨ p = (54, 20) ∨ p = (56, 30) := by decide
    rcases hh (c, L) hc h1 h2 with h | h | h | h | h | h | h | h | h | h | h | h | h | h
    · cases h
      rw [zw_ne (by decide), c2 41 (by omega), b2 41 (by omega), g1]
      exact hT (4, 4) (by decide)
    · cases h
      rw [zw_ne (by decide), c2 42 (by omega), b2 42 (by omega), g2]
      exact hT (5, 12) (by decide)
    · cases h
      rw [zw_ne (by decide), c2 43 (by omega), b2 43 (by omega), g3]
      exact hT (6, 8) (by decide)
    · cases h
      rw [zw_ne (by decide), c2 44 (by omega), b2 44 (by omega), g4]
      exact hT (7, 8) (by decide)
    · cases h
      rw [zw_ne (by decide), c2 45 (by omega), b2 45 (by omega), g5]
      exact hT (8, 8) (by decide)
    · cases h
      rw [zw_ne (by decide), c2 46 (by omega), b2 46 (by omega), g6]
      exact hT (9, 2) (by decide)
    · cases h
      rw [zw_ne (by decide), c2 48 (by omega), p1, a2 11 (by omega)]
      exact hT (11, 5) (by decide)
    · cases h
      rw [zw_ne (by decide), c2 49 (by omega), p2, a2 12 (by omega)]
      exact hT (12, 10) (by decide)
    · cases h
      rw [zw_ne (by decide), c2 50 (by omega), p3, a2 13 (by omega)]
      exact hT (13, 5) (by decide)
    · cases h
      rw [zw_ne (by decide), c2 51 (by omega), p4, a2 14 (by omega)]
      exact hT (14, 5) (by decide)
    · cases h
      rw [zw_ne (by decide), c2 52 (by omega), p5, a2 15 (by omega)]
      exact hT (15, 20) (by decide)
    · cases h
      rw [zw_ne (by decide), c2 53 (by omega), p6, a2 16 (by omega)]
      exact hT (16, 20) (by decide)
    · cases h
      rw [zw_ne (by decide), c2 54 (by omega), p7, a2 17 (by omega)]
      exact hT (17, 20) (by decide)
    · cases h
      rw [zw_ne (by decide), t1, b2 19 (by omega), a2 19 (by omega)]
      exact hT (19, 30) (by decide)
theorem eG_3_22 (hT : ∀ c L, (c, L) ∈ zTc → (3 ≤ c ∧ c ≤ 9) ∨ (22 ≤ c ∧ c ≤ 28) → tz (M c) L) : ∃ M', qG_copy_3_22 M = some M' ∧ (∀ c, ¬ (3 ≤ c ∧ c ≤ 9) → M' c = M c) ∧ M' 3 0 = M 22 0 ∧ M' 4 = M 23 ∧ M' 5 = M 24 ∧ M' 6 = M 25 ∧ M' 7 = M 26 ∧ M' 8 = M 27 ∧ M' 9 = M 28 := by
  refine ⟨_, rfl, ?_, ?_, ?_, ?_, ?_, ?_, ?_, ?_⟩
  · intro c hc
    rw [zA_ne (by omega), zA_ne (by omega), zA_ne (by omega), zA_ne (by omega), zA_ne (by omega), zA_ne (by omega), zw_ne (by omega)]
  · show M 22 0 = M 22 0
    rfl
  · show va_cpy (M 23) (M 4) 0 0 4 = M 23
    exact tz_cpy (hT 23 4 (by decide) (by omega)) (hT 4 4 (by decide) (by omega))
  · show va_cpy (M 24) (M 5) 0 0 12 = M 24
    exact tz_cpy (hT 24 12 (by decide) (by omega)) (hT 5 12 (by decide) (by omega))
  · show va_cpy (M 25) (M 6) 0 0 8 = M 25
    exact tz_cpy (hT 25 8 (by decide) (by omega)) (hT 6 8 (by decide) (by omega))
  · show va_cpy (M 26) (M 7) 0 0 8 = M 26
    exact tz_cpy (hT 26 8 (by decide) (by omega)) (hT 7 8 (by decide) (by omega))
  · show va_cpy (M 27) (M 8) 0 0 8 = M 27
    exact tz_cpy (hT 27 8 (by decide) (by omega)) (hT 8 8 (by decide) (by omega))
  · show va_cpy (M 28) (M 9) 0 0 2 = M 28
    exact tz_cpy (hT 28 2 (by decide) (by omega)) (hT 9 2 (by decide) (by omega))
theorem eE_10_29 (hT : ∀ c L, (c, L) ∈ zTc → (10 ≤ c ∧ c ≤ 17) ∨ (29 ≤ c ∧ c ≤ 36) → tz (M c) L) : ∃ M', qE_copy_10_29 M = some M' ∧ (∀ c, ¬ (10 ≤ c ∧ c ≤ 17) → M' c = M c) ∧ M' 10 0 = M 29 0 ∧ M' 11 = M 30 ∧ M' 12 = M 31 ∧ M' 13 = M 32 ∧ M' 14 = M 33 ∧ M' 15 = M 34 ∧ M' 16 = M 35 ∧ M' 17 = M 36 := by
  refine ⟨_, rfl, ?_, ?_, ?_, ?_, ?_, ?_, ?_, ?_, ?_⟩
  · intro c hc
    rw [zA_ne (by omega), zA_ne (by omega), zA_ne (by omega), zA_ne (by omega), zA_ne (by omega), zA_ne (by omega), zA_ne (by omega), zw_ne (by omega)]
  · show M 29 0 = M 29 0
    rfl
  · show va_cpy (M 30) (M 11) 0 0 5 = M 30
    exact tz_cpy (hT 30 5 (by decide) (by omega)) (hT 11 5 (by decide) (by omega))
  · show va_cpy (M 31) (M 12) 0 0 10 = M 31
    exact tz_cpy (hT 31 10 (by decide) (by omega)) (hT 12 10 (by decide) (by omega))
  · show va_cpy (M 32) (M 13) 0 0 5 = M 32
    exact tz_cpy (hT 32 5 (by decide) (by omega)) (hT 13 5 (by decide) (by omega))
  · show va_cpy (M 33) (M 14) 0 0 5 = M 33
    exact tz_cpy (hT 33 5 (by decide) (by omega)) (hT 14 5 (by decide) (by omega))
  · show va_cpy (M 34) (M 15) 0 0 20 = M 34
    exact tz_cpy (hT 34 20 (by decide) (by omega)) (hT 15 20 (by decide) (by omega))
  · show va_cpy (M 35) (M 16) 0 0 20 = M 35
    exact tz_cpy (hT 35 20 (by decide) (by omega)) (hT 16 20 (by decide) (by omega))
  · show va_cpy (M 36) (M 17) 0 0 20 = M 36
    exact tz_cpy (hT 36 20 (by decide) (by omega)) (hT 17 20 (by decide) (by omega))
theorem eT_18_37 (hT : ∀ c L, (c, L) ∈ zTc → (18 ≤ c ∧ c ≤ 19) ∨ (37 ≤ c ∧ c ≤ 38) → tz (M c) L) : ∃ M', qT_copy_18_37 M = some M' ∧ (∀ c, ¬ (18 ≤ c ∧ c ≤ 19) → M' c = M c) ∧ M' 18 0 = M 37 0 ∧ M' 19 = M 38 := by
  refine ⟨_, rfl, ?_, ?_, ?_⟩
  · intro c hc
    rw [zA_ne (by omega), zw_ne (by omega)]
  · show M 37 0 = M 37 0
    rfl
  · show va_cpy (M 38) (M 19) 0 0 30 = M 38
    exact tz_cpy (hT 38 30 (by decide) (by omega)) (hT 19 30 (by decide) (by omega))
theorem eO_2_21 (hT : tT M) (h : tO M 21 n m k law A) : ∃ M', qO_copy_2_21 M = some M' ∧ (∀ c, ¬ (2 ≤ c ∧ c ≤ 19) → M' c = M c) ∧ tO M' 2 n m k law A ∧ (∀ c L, (c, L) ∈ zTc → 2 ≤ c → c ≤ 19 → tz (M' c) L) := by
  obtain ⟨M1, a1, a2, g0, g1, g2, g3, g4, g5, g6⟩ := eG_3_22 (M := M) (fun c L hc _ => hT (c, L) hc)
  obtain ⟨M2, b1, b2, p0, p1, p2, p3, p4, p5, p6, p7⟩ := eE_10_29 (M := M1) (fun c L hc hr => by rw [a2 c (by omega)]; exact hT (c, L) hc)
  obtain ⟨M3, c1, c2, t0, t1⟩ := eT_18_37 (M := M2) (fun c L hc hr => by rw [b2 c (by omega), a2 c (by omega)]; exact hT (c, L) hc)
  have hl : M3 21 3 = M 21 3 := by rw [c2 21 (by omega), b2 21 (by omega), a2 21 (by omega)]
  refine ⟨zw M3 2 3 (M3 21 3), ?_, fun c hc => ?_, ?_, ?_⟩
  · unfold qO_copy_2_21
    rw [zb_ok a1, zb_ok b1, zb_ok c1]
  · rw [zw_ne (by omega), c2 c (by omega), b2 c (by omega), a2 c (by omega)]
  · exact ⟨(by rw [zw_same, hl]; exact h.l), (by rw [zw_ne (by decide), c2 3 (by omega), b2 3 (by omega), g0]; exact h.n), (by rw [zw_ne (by decide), c2 4 (by omega), b2 4 (by omega), g1]; exact h.c0), (by rw [zw_ne (by decide), c2 5 (by omega), b2 5 (by omega), g2]; exact h.c1), (by rw [zw_ne (by decide), c2 6 (by omega), b2 6 (by omega), g3]; exact h.c2), (by rw [zw_ne (by decide), c2 7 (by omega), b2 7 (by omega), g4]; exact h.c3), (by rw [zw_ne (by decide), c2 8 (by omega), b2 8 (by omega), g5]; exact h.c4), (by rw [zw_ne (by decide), c2 9 (by omega), b2 9 (by omega), g6]; exact h.c5), (by rw [zw_ne (by decide), c2 10 (by omega), p0, a2 29 (by omega)]; exact h.m), (by rw [zw_ne (by decide), c2 11 (by omega), p1, a2 30 (by omega)]; exact h.c6), (by rw [zw_ne (by decide), c2 12 (by omega), p2, a2 31 (by omega)]; exact h.c7), (by rw [zw_ne (by decide), c2 13 (by omega), p3, a2 32 (by omega)]; exact h.c8), (by rw [zw_ne (by decide), c2 14 (by omega), p4, a2 33 (by omega)]; exact h.c9), (by rw [zw_ne (by decide), c2 15 (by omega), p5, a2 34 (by omega)]; exact h.c10), (by rw [zw_ne (by decide), c2 16 (by omega), p6, a2 35 (by omega)]; exact h.c11), (by rw [zw_ne (by decide), c2 17 (by omega), p7, a2 36 (by omega)]; exact h.c12), (by rw [zw_ne (by decide), t0, b2 37 (by omega), a2 37 (by omega)]; exact h.k), (by rw [zw_ne (by decide), t1, b2 38 (by omega), a2 38 (by omega)]; exact h.c13)⟩
  · intro c L hc h1 h2
    have hh : ∀ p, p ∈ zTc → 2 ≤ p.1 → p.1 ≤ 19 → p = (4, 4) ∨ p = (5, 12) ∨ p = (6, 8) ∨ p = (7, 8) ∨ p = (8, 8) ∨ p = (9, 2) ∨ p = (11, 5) ∨ p = (12, 10) ∨ p = (13, 5) ∨ p = (14, 5) ∨ p = (15, 20) ∨ p = (16, 20) ∨ p = (17, 20) ∨ p = (19, 30) := by decide
    rcases hh (c, L) hc h1 h2 with h | h | h | h | h | h | h | h | h | h | h | h | h | h
    · cases h
      rw [zw_ne (by decide), c2 4 (by omega), b2 4 (by omega), g1]
      exact hT (23, 4) (by decide)
    · cases h
      rw [zw_ne (by decide), c2 5 (by omega), b2 5 (by omega), g2]
      exact hT (24, 12) (by decide)
    · cases h
      rw [zw_ne (by decide), c2 6 (by omega), b2 6 (by omega), g3]
      exact hT (25, 8) (by decide)
    · cases h
      rw [zw_ne (by decide), c2 7 (by omega), b2 7 (by omega), g4]
      exact hT (26, 8) (by decide)
    · cases h
      rw [zw_ne (by decide), c2 8 (by omega), b2 8 (by omega), g5]
      exact hT (27, 8) (by decide)
    · cases h
      rw [zw_ne (by decide), c2 9 (by omega), b2 9 (by omega), g6]
      exact hT (28, 2) (by decide)
    · cases h
      rw [zw_ne (by decide), c2 11 (by omega), p1, a2 30 (by omega)]
      exact hT (30, 5) (by decide)
    · cases h
      rw [zw_ne (by decide), c2 12 (by omega), p2, a2 31 (by omega)]
      exact hT (31, 10) (by decide)
    · cases h
      rw [zw_ne (by decide), c2 13 (by omega), p3, a2 32 (by omega)]
      exact hT (32, 5) (by decide)
    · cases h
      rw [zw_ne (by decide), c2 14 (by omega), p4, a2 33 (by omega)]
      exact hT (33, 5) (by decide)
    · cases h
      rw [zw_ne (by decide), c2 15 (by omega), p5, a2 34 (by omega)]
      exact hT (34, 20) (by decide)
    · cases h
      rw [zw_ne (by decide), c2 16 (by omega), p6, a2 35 (by omega)]
      exact hT (35, 20) (by decide)
    · cases h
      rw [zw_ne (by decide), c2 17 (by omega), p7, a2 36 (by omega)]
      exact hT (36, 20) (by decide)
    · cases h
      rw [zw_ne (by decide), t1, b2 38 (by omega), a2 38 (by omega)]
      exact hT (38, 30) (by decide)
theorem eG_3_40 (hT : ∀ c L, (c, L) ∈ zTc → (3 ≤ c ∧ c ≤ 9) ∨ (40 ≤ c ∧ c ≤ 46) → tz (M c) L) : ∃ M', qG_copy_3_40 M = some M' ∧ (∀ c, ¬ (3 ≤ c ∧ c ≤ 9) → M' c = M c) ∧ M' 3 0 = M 40 0 ∧ M' 4 = M 41 ∧ M' 5 = M 42 ∧ M' 6 = M 43 ∧ M' 7 = M 44 ∧ M' 8 = M 45 ∧ M' 9 = M 46 := by
  refine ⟨_, rfl, ?_, ?_, ?_, ?_, ?_, ?_, ?_, ?_⟩
  · intro c hc
    rw [zA_ne (by omega), zA_ne (by omega), zA_ne (by omega), zA_ne (by omega), zA_ne (by omega), zA_ne (by omega), zw_ne (by omega)]
  · show M 40 0 = M 40 0
    rfl
  · show va_cpy (M 41) (M 4) 0 0 4 = M 41
    exact tz_cpy (hT 41 4 (by decide) (by omega)) (hT 4 4 (by decide) (by omega))
  · show va_cpy (M 42) (M 5) 0 0 12 = M 42
    exact tz_cpy (hT 42 12 (by decide) (by omega)) (hT 5 12 (by decide) (by omega))
  · show va_cpy (M 43) (M 6) 0 0 8 = M 43
    exact tz_cpy (hT 43 8 (by decide) (by omega)) (hT 6 8 (by decide) (by omega))
  · show va_cpy (M 44) (M 7) 0 0 8 = M 44
    exact tz_cpy (hT 44 8 (by decide) (by omega)) (hT 7 8 (by decide) (by omega))
  · show va_cpy (M 45) (M 8) 0 0 8 = M 45
    exact tz_cpy (hT 45 8 (by decide) (by omega)) (hT 8 8 (by decide) (by omega))
  · show va_cpy (M 46) (M 9) 0 0 2 = M 46
    exact tz_cpy (hT 46 2 (by decide) (by omega)) (hT 9 2 (by decide) (by omega))
theorem eE_10_47 (hT : ∀ c L, (c, L) ∈ zTc → (10 ≤ c ∧ c ≤ 17) ∨ (47 ≤ c ∧ c ≤ 54) → tz (M c) L) : ∃ M', qE_copy_10_47 M = some M' ∧ (∀ c, ¬ (10 ≤ c ∧ c ≤ 17) → M' c = M c) ∧ M' 10 0 = M 47 0 ∧ M' 11 = M 48 ∧ M' 12 = M 49 ∧ M' 13 = M 50 ∧ M' 14 = M 51 ∧ M' 15 = M 52 ∧ M' 16 = M 53 ∧ M' 17 = M 54 := by
  refine ⟨_, rfl, ?_, ?_, ?_, ?_, ?_, ?_, ?_, ?_, ?_⟩
  · intro c hc
    rw [zA_ne (by omega), zA_ne (by omega), zA_ne (by omega), zA_ne (by omega), zA_ne (by omega), zA_ne (by omega), zA_ne (by omega), zw_ne (by omega)]
  · show M 47 0 = M 47 0
    rfl
  · show va_cpy (M 48) (M 11) 0 0 5 = M 48
    exact tz_cpy (hT 48 5 (by decide) (by omega)) (hT 11 5 (by decide) (by omega))
  · show va_cpy (M 49) (M 12) 0 0 10 = M 49
    exact tz_cpy (hT 49 10 (by decide) (by omega)) (hT 12 10 (by decide) (by omega))
  · show va_cpy (M 50) (M 13) 0 0 5 = M 50
    exact tz_cpy (hT 50 5 (by decide) (by omega)) (hT 13 5 (by decide) (by omega))
  · show va_cpy (M 51) (M 14) 0 0 5 = M 51
    exact tz_cpy (hT 51 5 (by decide) (by omega)) (hT 14 5 (by decide) (by omega))
  · show va_cpy (M 52) (M 15) 0 0 20 = M 52
    exact tz_cpy (hT 52 20 (by decide) (by omega)) (hT 15 20 (by decide) (by omega))
  · show va_cpy (M 53) (M 16) 0 0 20 = M 53
    exact tz_cpy (hT 53 20 (by decide) (by omega)) (hT 16 20 (by decide) (by omega))
  · show va_cpy (M 54) (M 17) 0 0 20 = M 54
    exact tz_cpy (hT 54 20 (by decide) (by omega)) (hT 17 20 (by decide) (by omega))
theorem eT_18_55 (hT : ∀ c L, (c, L) ∈ zTc → (18 ≤ c ∧ c ≤ 19) ∨ (55 ≤ c ∧ c ≤ 56) → tz (M c) L) : ∃ M', qT_copy_18_55 M = some M' ∧ (∀ c, ¬ (18 ≤ c ∧ c ≤ 19) → M' c = M c) ∧ M' 18 0 = M 55 0 ∧ M' 19 = M 56 := by
  refine ⟨_, rfl, ?_, ?_, ?_⟩
  · intro c hc
    rw [zA_ne (by omega), zw_ne (by omega)]
  · show M 55 0 = M 55 0
    rfl
  · show va_cpy (M 56) (M 19) 0 0 30 = M 56
    exact tz_cpy (hT 56 30 (by decide) (by omega)) (hT 19 30 (by decide) (by omega))
theorem eO_2_39 (hT : tT M) (h : tO M 39 n m k law A) : ∃ M', qO_copy_2_39 M = some M' ∧ (∀ c, ¬ (2 ≤ c ∧ c ≤ 19) → M' c = M c) ∧ tO M' 2 n m k law A ∧ (∀ c L, (c, L) ∈ zTc → 2 ≤ c → c ≤ 19 → tz (M' c) L) := by
  obtain ⟨M1, a1, a2, g0, g1, g2, g3, g4, g5, g6⟩ := eG_3_40 (M := M) (fun c L hc _ => hT (c, L) hc)
  obtain ⟨M2, b1, b2, p0, p1, p2, p3, p4, p5, p6, p7⟩ := eE_10_47 (M := M1) (fun c L hc hr => by rw [a2 c (by omega)]; exact hT (c, L) hc)
  obtain ⟨M3, c1, c2, t0, t1⟩ := eT_18_55 (M := M2) (fun c L hc hr => by rw [b2 c (by omega), a2 c (by omega)]; exact hT (c, L) hc)
  have hl : M3 39 3 = M 39 3 := by rw [c2 39 (by omega), b2 39 (by omega), a2 39 (by omega)]
  refine ⟨zw M3 2 3 (M3 39 3), ?_, fun c hc => ?_, ?_, ?_⟩
  · unfold qO_copy_2_39
    rw [zb_ok a1, zb_ok b1, zb_ok c1]
  · rw [zw_ne (by omega), c2 c (by omega), b2 c (by omega), a2 c (by omega)]
  · exact ⟨(by rw [zw_same, hl]; exact h.l), (by rw [zw_ne (by decide), c2 3 (by omega), b2 3 (by omega), g0]; exact h.n), (by rw [zw_ne (by decide), c2 4 (by omega), b2 4 (by omega), g1]; exact h.c0), (by rw [zw_ne (by decide), c2 5 (by omega), b2 5 (by omega), g2]; exact h.c1), (by rw [zw_ne (by decide), c2 6 (by omega), b2 6 (by omega), g3]; exact h.c2), (by rw [zw_ne (by decide), c2 7 (by omega), b2 7 (by omega), g4]; exact h.c3), (by rw [zw_ne (by decide), c2 8 (by omega), b2 8 (by omega), g5]; exact h.c4), (by rw [zw_ne (by decide), c2 9 (by omega), b2 9 (by omega), g6]; exact h.c5), (by rw [zw_ne (by decide), c2 10 (by omega), p0, a2 47 (by omega)]; exact h.m), (by rw [zw_ne (by decide), c2 11 (by omega), p1, a2 48 (by omega)]; exact h.c6), (by rw [zw_ne (by decide), c2 12 (by omega), p2, a2 49 (by omega)]; exact h.c7), (by rw [zw_ne (by decide), c2 13 (by omega), p3, a2 50 (by omega)]; exact h.c8), (by rw [zw_ne (by decide), c2 14 (by omega), p4, a2 51 (by omega)]; exact h.c9), (by rw [zw_ne (by decide), c2 15 (by omega), p5, a2 52 (by omega)]; exact h.c10), (by rw [zw_ne (by decide), c2 16 (by omega), p6, a2 53 (by omega)]; exact h.c11), (by rw [zw_ne (by decide), c2 17 (by omega), p7, a2 54 (by omega)]; exact h.c12), (by rw [zw_ne (by decide), t0, b2 55 (by omega), a2 55 (by omega)]; exact h.k), (by rw [zw_ne (by decide), t1, b2 56 (by omega), a2 56 (by omega)]; exact h.c13)⟩
  · intro c L hc h1 h2
    have hh : ∀ p, p ∈ zTc → 2 ≤ p.1 → p.1 ≤ 19 → p = (4, 4) ∨ p = (5, 12) ∨ p = (6, 8) ∨ p = (7, 8) ∨ p = (8, 8) ∨ p = (9, 2) ∨ p = (11, 5) ∨ p = (12, 10) ∨ p = (13, 5) ∨ p = (14, 5) ∨ p = (15, 20) ∨ p = (16, 20) ∨ p = (17, 20) ∨ p = (19, 30) := by decide
    rcases hh (c, L) hc h1 h2 with h | h | h | h | h | h | h | h | h | h | h | h | h | h
    · cases h
      rw [zw_ne (by decide), c2 4 (by omega), b2 4 (by omega), g1]
      exact hT (41, 4) (by decide)
    · cases h
      rw [zw_ne (by decide), c2 5 (by omega), b2 5 (by omega), g2]
      exact hT (42, 12) (by decide)
    · cases h
      rw [zw_ne (by decide), c2 6 (by omega), b2 6 (by omega), g3]
      exact hT (43, 8) (by decide)
    · cases h
      rw [zw_ne (by decide), c2 7 (by omega), b2 7 (by omega), g4]
      exact hT (44, 8) (by decide)
    · cases h
      rw [zw_ne (by decide), c2 8 (by omega), b2 8 (by omega), g5]
      exact hT (45, 8) (by decide)
    · cases h
      rw [zw_ne (by decide), c2 9 (by omega), b2 9 (by omega), g6]
      exact hT (46, 2) (by decide)
    · cases h
      rw [zw_ne (by decide), c2 11 (by omega), p1, a2 48 (by omega)]
      exact hT (48, 5) (by decide)
    · cases h
      rw [zw_ne (by decide), c2 12 (by omega), p2, a2 49 (by omega)]
      exact hT (49, 10) (by decide)
    · cases h
      rw [zw_ne (by decide), c2 13 (by omega), p3, a2 50 (by omega)]
      exact hT (50, 5) (by decide)
    · cases h
      rw [zw_ne (by decide), c2 14 (by omega), p4, a2 51 (by omega)]
      exact hT (51, 5) (by decide)
    · cases h
      rw [zw_ne (by decide), c2 15 (by omega), p5, a2 52 (by omega)]
      exact hT (52, 20) (by decide)
    · cases h
      rw [zw_ne (by decide), c2 16 (by omega), p6, a2 53 (by omega)]
      exact hT (53, 20) (by decide)
    · cases h
      rw [zw_ne (by decide), c2 17 (by omega), p7, a2 54 (by omega)]
      exact hT (54, 20) (by decide)
    · cases h
      rw [zw_ne (by decide), t1, b2 56 (by omega), a2 56 (by omega)]
      exact hT (56, 30) (by decide)
end ZCopy
