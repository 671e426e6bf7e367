section ZCalls5
variable {M : zM} {n m k : Nat} {law : Int32} {A : zM} {q s t : Nat}
/-- the pad has changed -/
theorem zIn_pad {M' : zM} (hI : zIn M n m k law A) (fr : ∀ c, c ≤ 57 ∨ (63 ≤ c ∧ c ≤ 69) ∨ c = 78 ∨ c = 80 ∨ c = 81 ∨ (87 ≤ c ∧ c ≤ 99) ∨ 105 ≤ c → M' c = M c) (f86 : ∀ j, j = 6 ∨ j = 14 ∨ j = 18 ∨ j = 29 → M' 86 j = M 86 j) (p : pD M') : zIn M' n m k law A := by
  refine ⟨hI.w, tO_eq (fun c a b => fr c (by omega)) hI.c, ⟨mT_eq (f86 6 (by omega)) (f86 14 (by omega)) (fun c a b => fr c (by omega)) hI.m.t, (f86 18 (by omega)).trans hI.m.l, (f86 29 (by omega)).trans hI.m.k, (fr 105 (by omega)).trans hI.m.c13⟩, fun p hp => ?_, p, ?_, ?_, ?_⟩
  · have h : ∀ p, p ∈ zTc → p.1 ≤ 57 ∨ (63 ≤ p.1 ∧ p.1 ≤ 69) := by decide
    have := h p hp
    rw [fr _ (by omega)]
    exact hI.t p hp
  · exact iM_eq (by rw [fr 57 (by omega)]) (by rw [fr 107 (by omega)]) (fr 106 (by omega)) (fun c a b => fr c (by omega)) hI.i0
  · exact iM_eq (by rw [fr 57 (by omega)]) (by rw [fr 107 (by omega)]) (fr 106 (by omega)) (fun c a b => fr c (by omega)) hI.i1
  · rw [fr 78 (by omega)]
    rcases hI.d with d | ⟨d1, d2⟩
    · exact Or.inl d
    · exact Or.inr ⟨d1, dT_eq (fr 80 (by omega)) (fr 81 (by omega)) d2⟩
theorem k_wipe (hI : zI M) : ∃ x M1 M2, qS_wipe M = some (x, M1) ∧ qM_wipe M1 = some (x, M2) ∧ zI M2 := by
  obtain ⟨n, m, k, law, A, hI⟩ := hI
  obtain ⟨⟨w, y1, y2, y3, y4⟩, y5⟩ := hI.p
  have e : (zw M 58 0 0) 86 16 = M 58 0 := by
    rw [zw_ne (by decide)]
    exact y3.trans y2.symm
  refine ⟨_, _, zw (zw M 58 0 0) 86 16 0, rfl, ?_, (zIn_pad hI (fun c hc => ?_) (fun j hj => ?_) ⟨⟨0, by omega, ?_, ?_, fun j h => by omega⟩, ?_⟩).z⟩
  · unfold qM_wipe
    rw [e]
  · rw [zw_ne (by omega), zw_ne (by omega)]
  · rw [zw_other (by omega), zw_ne (by omega)]
  · rw [zw_ne (by decide)]
    exact zw_same _ _ _ _
  · exact zw_same _ _ _ _
  · rw [zw_ne (by decide), zw_ne (by decide), zw_ne (by decide), zw_ne (by decide)]
    exact y5
theorem k_say (hI : zI M) (v : Int32) : ∃ x M1 M2, qS_say M v = some (x, M1) ∧ qM_say M1 v = some (x, M2) ∧ zI M2 := by
  obtain ⟨n, m, k, law, A, hI⟩ := hI
  obtain ⟨⟨w, y1, y2, y3, y4⟩, y5⟩ := hI.p
  have hin : qM_in v.toInt64 33 126 = _ := m_in (v := v) (lo := 33) (hi := 126) (L := 33) (H := 126) rfl rfl
  unfold qS_say qM_say
  rw [zb_ok c_out]
  by_cases c : sIn 33 126 v
  · rw [if_pos c, if_pos rfl, y2]
    by_cases c2 : w < 40
    · rw [if_pos (show nI w < 40 from nI_lt (b := 40) c2 (by omega))]
      unfold qA_put
      simp (disch := omega) only [y2, zn_cl, zq_in, zb2_s, nI_1, zw_same]
      have e : (zw (zw M 59 w v) 58 0 (nI (w + 1))) 86 16 = nI w := by
        rw [zw_ne (by decide), zw_ne (by decide)]
        exact y3
      refine ⟨_, _, zw (zw (zw (zw M 59 w v) 58 0 (nI (w + 1))) 100 w v) 86 16 (nI (w + 1)), rfl, ?_, (zIn_pad hI (fun c hc => ?_) (fun j hj => ?_) ⟨⟨w + 1, by omega, ?_, ?_, fun j h => ?_⟩, ?_⟩).z⟩
      · rw [zb_ok hin, if_pos c, if_neg z10, e, if_neg (show ¬ nI w = 40 from fun h => absurd ((nI_eq (b := 40) (by omega) (by omega)).mp h) (by omega))]
        simp (disch := omega) only [zn_cl, zq_in, nI_1, zw_same]
      · rw [zw_ne (by omega), zw_ne (by omega), zw_ne (by omega), zw_ne (by omega)]
      · rw [zw_other (by omega), zw_ne (by omega), zw_ne (by omega), zw_ne (by omega)]
      · rw [zw_ne (by decide), zw_ne (by decide)]
        exact zw_same _ _ _ _
      · exact zw_same _ _ _ _
      · rw [zw_ne (by decide), zw_ne (by decide), zw_ne (by decide)]
        by_cases hj : j = w
        · subst hj
          rw [zw_same]
          exact c
        · rw [zw_other hj]
          exact y4 j (by omega)
      · rw [zw_ne (by decide), zw_at, zw_ne (by decide), zw_ne (by decide), y5, zw_ne (by decide), zw_ne (by decide), zw_ne (by decide), zw_at]
    · have hw : w = 40 := by omega
      rw [if_neg (show ¬ nI w < 40 from nI_nlt (b := 40) (by omega) (by omega))]
      refine ⟨_, _, _, rfl, ?_, hI.z⟩
      rw [zb_ok hin, if_pos c, if_neg z10, y3, hw, if_pos (show nI 40 = 40 from rfl)]
  · rw [if_neg c, if_neg z10]
    refine ⟨_, _, _, rfl, ?_, hI.z⟩
    rw [zb_ok hin, if_neg c, if_pos rfl]
theorem k_item (hI : zI M) (a b c : Int32) : ∃ x, qS_item M a b c = some x ∧ qM_item M a b c = some x := by
  obtain ⟨n, m, k, law, A, hI⟩ := hI
  have hm := hI.m5
  have hin : qM_in c.toInt64 0 2 = _ := m_in (v := c) (lo := 0) (hi := 2) (L := 0) (H := 2) rfl rfl
  unfold qS_item qM_item
  rw [zb_ok (c_noSort hI.c.m), zb_ok (m_isSort hI.m.t.2.1)]
  by_cases c1 : sIn 0 (nI m - 1) a
  · rw [if_pos c1, if_pos rfl, if_pos c1, if_neg z10, zb_ok c_noLetter, zb_ok m_isLetter]
    by_cases c2 : sIn 0 3 b
    · rw [if_pos c2, if_pos rfl, if_pos c2, if_neg z10, zb_ok c_out, zb_ok hin]
      by_cases c3 : sIn 0 2 c
      · obtain ⟨q, hq, rfl⟩ := sIn_m (by omega) c1
        obtain ⟨t, ht, rfl⟩ := sIn_n (h := 3) (by omega) c2
        rw [if_pos c3, if_pos rfl, if_pos c3, if_neg z10]
        simp (disch := omega) only [zc_m4, zn_4m, nI_add, zn_cl, zq_in, m_c10 hI]
        by_cases c4 : M 15 (4 * q + t) = 0
        · rw [if_pos c4, if_pos c4]
          exact ⟨_, rfl, rfl⟩
        · have c5 : A 10 (4 * q + t) ≠ 0 := by rw [← hI.c.c10]; exact c4
          have w1 : M 98 (4 * q + t) = M 16 (4 * q + t) := (hI.m.t.2.2.2.2.2.2.2.2.2.2.2.2.2.1 _ c5).trans (congrFun hI.c.c11 _).symm
          have w2 : M 99 (4 * q + t) = M 17 (4 * q + t) := (hI.m.t.2.2.2.2.2.2.2.2.2.2.2.2.2.2 _ c5).trans (congrFun hI.c.c12 _).symm
          rw [if_neg c4, if_neg c4, w1, w2]
          by_cases d0 : c = 0
          · rw [if_pos d0]
            exact ⟨_, rfl, rfl⟩
          · rw [if_neg d0]
            by_cases d1 : c = 1
            · rw [if_pos d1]
              exact ⟨_, rfl, rfl⟩
            · rw [if_neg d1]
              exact ⟨_, rfl, rfl⟩
      · rw [if_neg c3, if_neg z10, if_neg c3, if_pos rfl]
        exact ⟨_, rfl, rfl⟩
    · rw [if_neg c2, if_neg z10, if_neg c2, if_pos rfl]
      exact ⟨_, rfl, rfl⟩
  · rw [if_neg c1, if_neg z10, if_neg c1, if_pos rfl]
    exact ⟨_, rfl, rfl⟩
end ZCalls5
