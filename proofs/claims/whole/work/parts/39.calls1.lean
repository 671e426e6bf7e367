section ZCalls1
variable {M : zM} {n m k : Nat} {law : Int32} {A : zM} {q s t : Nat}
theorem sIn_n {h : Nat} {v : Int32} (hh : h < 2147483648) (hv : sIn 0 (nI h) v) : ∃ j, j ≤ h ∧ v = nI j := by
  obtain ⟨j, h1, h2⟩ := nI_of hv.1
  refine ⟨j, ?_, h2⟩
  have := hv.2
  rw [h2] at this
  by_cases c : h < j
  · exact absurd (nI_lt c h1) this
  · omega
theorem sIn_m {h : Nat} {v : Int32} (hh : h < 2147483648) (hv : sIn 0 (nI h - 1) v) : ∃ j, j < h ∧ v = nI j := by
  cases h with
  | zero =>
    obtain ⟨j, h1, h2⟩ := nI_of hv.1
    exfalso
    apply hv.2
    rw [h2]
    have h0 : (0 : Int32) ≤ nI j := nI_pos' h1
    exact Int32.lt_of_lt_of_le (show nI 0 - 1 < 0 by decide) h0
  | succ h =>
    rw [nI_pred] at hv
    obtain ⟨j, h1, h2⟩ := sIn_n (by omega) hv
    exact ⟨j, by omega, h2⟩
theorem c_noShop {v : Int32} : qS_noShop v = some (@ite _ (sIn 0 1 v) (Classical.propDecidable _) 0 1) := by
  unfold qS_noShop
  rw [zb_ok c_out]
  by_cases h : sIn 0 1 v
  · rw [if_pos h]; exact zq_b (Or.inl rfl)
  · rw [if_neg h]; exact zq_b (Or.inr rfl)
theorem m_isShop {v : Int32} : qM_isShop v = some (@ite _ (sIn 0 1 v) (Classical.propDecidable _) 1 0) := by
  unfold qM_isShop
  rw [zb_ok (m_in (lo := 0) (hi := 1) (L := 0) (H := 1) rfl rfl)]
  by_cases h : sIn 0 1 v
  · rw [if_pos h]; exact zq_b (Or.inr rfl)
  · rw [if_neg h]; exact zq_b (Or.inl rfl)
theorem c_noLetter {v : Int32} : qS_noLetter v = some (@ite _ (sIn 0 3 v) (Classical.propDecidable _) 0 1) := by
  unfold qS_noLetter
  rw [zb_ok c_out]
  by_cases h : sIn 0 3 v
  · rw [if_pos h]; exact zq_b (Or.inl rfl)
  · rw [if_neg h]; exact zq_b (Or.inr rfl)
theorem m_isLetter {v : Int32} : qM_isLetter v = some (@ite _ (sIn 0 3 v) (Classical.propDecidable _) 1 0) := by
  unfold qM_isLetter
  rw [zb_ok (m_in (lo := 0) (hi := 3) (L := 0) (H := 3) rfl rfl)]
  by_cases h : sIn 0 3 v
  · rw [if_pos h]; exact zq_b (Or.inr rfl)
  · rw [if_neg h]; exact zq_b (Or.inl rfl)
theorem m_isPrice {v : Int32} : qM_isPrice v = some (@ite _ (sIn 0 99 v) (Classical.propDecidable _) 1 0) := by
  unfold qM_isPrice
  rw [zb_ok (m_in (lo := 0) (hi := 99) (L := 0) (H := 99) rfl rfl)]
  by_cases h : sIn 0 99 v
  · rw [if_pos h]; exact zq_b (Or.inr rfl)
  · rw [if_neg h]; exact zq_b (Or.inl rfl)
theorem c_noThing {v : Int32} (hn : M 3 0 = nI n) : qS_noThing M v = some (@ite _ (sIn 0 (nI n - 1) v) (Classical.propDecidable _) 0 1) := by
  unfold qS_noThing
  rw [zb_ok c_out, hn]
  by_cases h : sIn 0 (nI n - 1) v
  · rw [if_pos h]; exact zq_b (Or.inl rfl)
  · rw [if_neg h]; exact zq_b (Or.inr rfl)
theorem m_isThing {v : Int32} (hn : M 86 6 = nI n) : qM_isThing M v = some (@ite _ (sIn 0 (nI n - 1) v) (Classical.propDecidable _) 1 0) := by
  unfold qM_isThing
  rw [zb_ok (m_in (lo := 0) (hi := M 86 6 - 1) (L := 0) rfl rfl), hn]
  by_cases h : sIn 0 (nI n - 1) v
  · rw [if_pos h]; exact zq_b (Or.inr rfl)
  · rw [if_neg h]; exact zq_b (Or.inl rfl)
theorem c_noSort {v : Int32} (hn : M 10 0 = nI m) : qS_noSort M v = some (@ite _ (sIn 0 (nI m - 1) v) (Classical.propDecidable _) 0 1) := by
  unfold qS_noSort
  rw [zb_ok c_out, hn]
  by_cases h : sIn 0 (nI m - 1) v
  · rw [if_pos h]; exact zq_b (Or.inl rfl)
  · rw [if_neg h]; exact zq_b (Or.inr rfl)
theorem m_isSort {v : Int32} (hn : M 86 14 = nI m) : qM_isSort M v = some (@ite _ (sIn 0 (nI m - 1) v) (Classical.propDecidable _) 1 0) := by
  unfold qM_isSort
  rw [zb_ok (m_in (lo := 0) (hi := M 86 14 - 1) (L := 0) rfl rfl), hn]
  by_cases h : sIn 0 (nI m - 1) v
  · rw [if_pos h]; exact zq_b (Or.inr rfl)
  · rw [if_neg h]; exact zq_b (Or.inl rfl)
/-- what the class's computing leaves -/
theorem kp_cls {M' : zM} (h : ∀ c, c ≤ 59 ∨ 86 ≤ c → M' c = M c) (ht : ∀ c L, (c, L) ∈ zTc → 63 ≤ c → tz (M c) L → tz (M' c) L) : kp M M' := by
  refine ⟨fun c hc => h c (by unfold kc at hc; omega), by rw [h 58 (by omega)], fun j _ => by rw [h 86 (by omega)], fun c L hc hz => ?_⟩
  by_cases c63 : 63 ≤ c
  · exact ht c L hc c63 hz
  · have h59 : c ≤ 59 := by
      have : ∀ p, p ∈ zTc → 63 ≤ p.1 ∨ p.1 ≤ 59 := by decide
      have := this _ hc
      omega
    rw [h c (Or.inl h59)]
    exact hz
theorem zTc_69 : ∀ p, p ∈ zTc → p.1 ≤ 69 := by decide
theorem kp_mod {M' : zM} (h : ∀ c, c ≤ 85 ∨ (87 ≤ c ∧ c ≤ 100) ∨ 105 ≤ c → M' c = M c) (hm : ∀ j, j = 6 ∨ j = 14 ∨ j = 16 ∨ j = 18 ∨ j = 29 → M' 86 j = M 86 j) : kp M M' := by
  refine ⟨fun c hc => h c (by unfold kc at hc; omega), by rw [h 58 (by omega)], hm, fun c L hc hz => ?_⟩
  have := zTc_69 _ hc
  dsimp only at this
  rw [h c (by omega)]
  exact hz
/-- the trial's ends -/
theorem tz_upd {f : Nat → Int32} {L j : Nat} {x : Int32} (h : tz f L) (hj : j < L) : tz (upd f j x) L := fun i hi => by
  rw [pk_un (by omega)]
  exact h i hi
theorem tz_cpy {f g : Nat → Int32} {L : Nat} (hf : tz f L) (hg : tz g L) : va_cpy f g 0 0 L = f := by
  funext j
  by_cases hj : j < L
  · rw [pk_cpy_in (by omega) (by omega)]
    congr 1
    omega
  · rw [pk_cpy_out (by omega), hg j (by omega), hf j (by omega)]
theorem trial_tails {P : Nat → Nat → Prop} (h4 : P 64 4) (h5 : P 65 12) (h6 : P 66 8) (h7 : P 67 8) (h8 : P 68 8) (h9 : P 69 2) : ∀ c L, (c, L) ∈ zTc → 63 ≤ c → P c L := by
  intro c L hc h63
  have : ∀ p, p ∈ zTc → 63 ≤ p.1 → p = (64, 4) ∨ p = (65, 12) ∨ p = (66, 8) ∨ p = (67, 8) ∨ p = (68, 8) ∨ p = (69, 2) := by decide
  rcases this _ hc h63 with h | h | h | h | h | h
  all_goals
    cases h
    assumption
theorem c_copy (hI : zIn M n m k law A) : ∃ M', qG_copy_63_3 M = some M' ∧ (∀ c, ¬ (63 ≤ c ∧ c ≤ 69) → M' c = M c) ∧ M' 63 0 = nI n ∧ M' 64 = A 0 ∧ M' 65 = A 1 ∧ M' 66 = A 2 ∧ M' 67 = A 3 ∧ M' 68 = A 4 ∧ M' 69 = A 5 := by
  have hT := hI.c
  have tt := hI.t
  refine ⟨_, rfl, ?_, ?_, ?_, ?_, ?_, ?_, ?_, ?_⟩
  · intro c hc
    rw [zA_ne (by omega), zA_ne (by omega), zA_ne (by omega), zA_ne (by omega), zA_ne (by omega), zA_ne (by omega), zw_ne (by omega)]
  · show M 3 0 = nI n
    exact hT.n
  · show va_cpy (M 4) (M 64) 0 0 4 = A 0
    rw [tz_cpy (tt (4, 4) (by decide)) (tt (64, 4) (by decide))]
    exact hT.c0
  · show va_cpy (M 5) (M 65) 0 0 12 = A 1
    rw [tz_cpy (tt (5, 12) (by decide)) (tt (65, 12) (by decide))]
    exact hT.c1
  · show va_cpy (M 6) (M 66) 0 0 8 = A 2
    rw [tz_cpy (tt (6, 8) (by decide)) (tt (66, 8) (by decide))]
    exact hT.c2
  · show va_cpy (M 7) (M 67) 0 0 8 = A 3
    rw [tz_cpy (tt (7, 8) (by decide)) (tt (67, 8) (by decide))]
    exact hT.c3
  · show va_cpy (M 8) (M 68) 0 0 8 = A 4
    rw [tz_cpy (tt (8, 8) (by decide)) (tt (68, 8) (by decide))]
    exact hT.c4
  · show va_cpy (M 9) (M 69) 0 0 2 = A 5
    rw [tz_cpy (tt (9, 2) (by decide)) (tt (69, 2) (by decide))]
    exact hT.c5
theorem c_look (hI : zIn M n m k law A) : ∃ M', qS_lookAsItIs M = some M' ∧ (∀ c, ¬ (63 ≤ c ∧ c ≤ 69) → c ≠ 71 → c ≠ 72 → M' c = M c) ∧ cT M' n m A ∧ lT M' n m A ∧ kp M M' := by
  obtain ⟨M1, h1, h2, h3, h4, h5, h6, h7, h8, h9⟩ := c_copy hI
  have hT := hI.c
  have tt := hI.t
  have hc1 : cT M1 n m A := by
    refine ⟨h3, ?_, h4, h5, h6, h7, h8, h9, ?_, ?_, ?_, ?_, fun j _ => ?_, fun j _ => ?_⟩
    · rw [h2 10 (by omega)]; exact hT.m
    · rw [h2 11 (by omega)]; exact hT.c6
    · rw [h2 12 (by omega)]; exact hT.c7
    · rw [h2 13 (by omega)]; exact hT.c8
    · rw [h2 15 (by omega)]; exact hT.c10
    · rw [h2 16 (by omega)]; exact congrFun hT.c11 j
    · rw [h2 17 (by omega)]; exact congrFun hT.c12 j
  obtain ⟨M2, g1, g2, g3⟩ := c_learn hc1 hI.w.wf
  have fr : ∀ c, ¬ (63 ≤ c ∧ c ≤ 69) → c ≠ 71 → c ≠ 72 → M2 c = M c := fun c a1 a2 a3 => (g2 c a2 a3).trans (h2 c a1)
  refine ⟨M2, ?_, fr, cT_eT g2 hc1, g3, kp_cls (fun c hc => fr c (by omega) (by omega) (by omega)) (trial_tails ?_ ?_ ?_ ?_ ?_ ?_)⟩
  · unfold qS_lookAsItIs
    rw [zb_ok h1, zb_ok g1]
  · intro _
    rw [g2 64 (by decide) (by decide), h4, ← hT.c0]
    exact tt (4, 4) (by decide)
  · intro _
    rw [g2 65 (by decide) (by decide), h5, ← hT.c1]
    exact tt (5, 12) (by decide)
  · intro _
    rw [g2 66 (by decide) (by decide), h6, ← hT.c2]
    exact tt (6, 8) (by decide)
  · intro _
    rw [g2 67 (by decide) (by decide), h7, ← hT.c3]
    exact tt (7, 8) (by decide)
  · intro _
    rw [g2 68 (by decide) (by decide), h8, ← hT.c4]
    exact tt (8, 8) (by decide)
  · intro _
    rw [g2 69 (by decide) (by decide), h9, ← hT.c5]
    exact tt (9, 2) (by decide)
end ZCalls1
