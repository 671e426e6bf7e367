section ZCalls6
variable {M : zM} {n m k : Nat} {law : Int32} {A : zM} {q s t : Nat}
theorem m_change0 (hm : M 86 14 = nI m) (hm5 : m ≤ 5) (hq : q < m) {d : Int32} (e : sIn 1 99 d) : qM_change M (nI q) 0 d = some (M 93 q, zw M 93 q d) := by
  unfold qM_change
  rw [zb_ok (m_isSort hm), if_pos (sIn_t (by omega) hq), if_neg z10, zb_ok (m_in (lo := 0) (hi := 4) (L := 0) (H := 4) rfl rfl), if_pos (show sIn 0 4 0 from ⟨by decide, by decide⟩), if_neg z10]
  simp only [if_true, if_pos (show (0 : Int32) < 3 by decide)]
  rw [zb_ok (m_in (lo := 1) (hi := 99) (L := 1) (H := 99) rfl rfl), if_pos e, if_neg z10]
  have e1 : 2 * nI q + 1 - 1 = nI (2 * q) := by rw [zn_2m, nI_1, nI_pred]
  have e2 : 2 * nI q + 2 - 1 = nI (2 * q + 1) := by rw [zn_2m, show (2 : Int32) = nI 2 from rfl, nI_add, show 2 * q + 2 = 2 * q + 1 + 1 from rfl, nI_pred]
  simp (disch := omega) only [zn_cl, zq_in, zb_s]
theorem m_change0n (hm : M 86 14 = nI m) (hm5 : m ≤ 5) (hq : q < m) {d : Int32} (e : ¬ sIn 1 99 d) : qM_change M (nI q) 0 d = some (-2, M) := by
  unfold qM_change
  rw [zb_ok (m_isSort hm), if_pos (sIn_t (by omega) hq), if_neg z10, zb_ok (m_in (lo := 0) (hi := 4) (L := 0) (H := 4) rfl rfl), if_pos (show sIn 0 4 0 from ⟨by decide, by decide⟩), if_neg z10]
  simp only [if_true, if_pos (show (0 : Int32) < 3 by decide)]
  rw [zb_ok (m_in (lo := 1) (hi := 99) (L := 1) (H := 99) rfl rfl), if_neg e, if_pos rfl]
theorem m_change1 (hm : M 86 14 = nI m) (hm5 : m ≤ 5) (hq : q < m) {d : Int32} (e : sIn 0 99 d) : qM_change M (nI q) 1 d = some (M 94 (2 * q), zw M 94 (2 * q) d) := by
  unfold qM_change
  rw [zb_ok (m_isSort hm), if_pos (sIn_t (by omega) hq), if_neg z10, zb_ok (m_in (lo := 0) (hi := 4) (L := 0) (H := 4) rfl rfl), if_pos (show sIn 0 4 1 from ⟨by decide, by decide⟩), if_neg z10]
  simp only [if_neg (show ¬ (1 : Int32) = 0 by decide), if_pos (show (1 : Int32) < 3 by decide)]
  rw [zb_ok (m_in (lo := 0) (hi := 99) (L := 0) (H := 99) rfl rfl), if_pos e, if_neg z10]
  have e1 : 2 * nI q + 1 - 1 = nI (2 * q) := by rw [zn_2m, nI_1, nI_pred]
  have e2 : 2 * nI q + 2 - 1 = nI (2 * q + 1) := by rw [zn_2m, show (2 : Int32) = nI 2 from rfl, nI_add, show 2 * q + 2 = 2 * q + 1 + 1 from rfl, nI_pred]
  simp (disch := omega) only [e1, zn_cl, zq_in, zb_s]
theorem m_change1n (hm : M 86 14 = nI m) (hm5 : m ≤ 5) (hq : q < m) {d : Int32} (e : ¬ sIn 0 99 d) : qM_change M (nI q) 1 d = some (-2, M) := by
  unfold qM_change
  rw [zb_ok (m_isSort hm), if_pos (sIn_t (by omega) hq), if_neg z10, zb_ok (m_in (lo := 0) (hi := 4) (L := 0) (H := 4) rfl rfl), if_pos (show sIn 0 4 1 from ⟨by decide, by decide⟩), if_neg z10]
  simp only [if_neg (show ¬ (1 : Int32) = 0 by decide), if_pos (show (1 : Int32) < 3 by decide)]
  rw [zb_ok (m_in (lo := 0) (hi := 99) (L := 0) (H := 99) rfl rfl), if_neg e, if_pos rfl]
theorem m_change2 (hm : M 86 14 = nI m) (hm5 : m ≤ 5) (hq : q < m) {d : Int32} (e : sIn 0 99 d) : qM_change M (nI q) 2 d = some (M 94 (2 * q + 1), zw M 94 (2 * q + 1) d) := by
  unfold qM_change
  rw [zb_ok (m_isSort hm), if_pos (sIn_t (by omega) hq), if_neg z10, zb_ok (m_in (lo := 0) (hi := 4) (L := 0) (H := 4) rfl rfl), if_pos (show sIn 0 4 2 from ⟨by decide, by decide⟩), if_neg z10]
  simp only [if_neg (show ¬ (2 : Int32) = 0 by decide), if_pos (show (2 : Int32) < 3 by decide)]
  rw [zb_ok (m_in (lo := 0) (hi := 99) (L := 0) (H := 99) rfl rfl), if_pos e, if_neg z10]
  have e1 : 2 * nI q + 1 - 1 = nI (2 * q) := by rw [zn_2m, nI_1, nI_pred]
  have e2 : 2 * nI q + 2 - 1 = nI (2 * q + 1) := by rw [zn_2m, show (2 : Int32) = nI 2 from rfl, nI_add, show 2 * q + 2 = 2 * q + 1 + 1 from rfl, nI_pred]
  simp (disch := omega) only [e2, zn_cl, zq_in, zb_s]
theorem m_change2n (hm : M 86 14 = nI m) (hm5 : m ≤ 5) (hq : q < m) {d : Int32} (e : ¬ sIn 0 99 d) : qM_change M (nI q) 2 d = some (-2, M) := by
  unfold qM_change
  rw [zb_ok (m_isSort hm), if_pos (sIn_t (by omega) hq), if_neg z10, zb_ok (m_in (lo := 0) (hi := 4) (L := 0) (H := 4) rfl rfl), if_pos (show sIn 0 4 2 from ⟨by decide, by decide⟩), if_neg z10]
  simp only [if_neg (show ¬ (2 : Int32) = 0 by decide), if_pos (show (2 : Int32) < 3 by decide)]
  rw [zb_ok (m_in (lo := 0) (hi := 99) (L := 0) (H := 99) rfl rfl), if_neg e, if_pos rfl]
theorem m_change3 (hm : M 86 14 = nI m) (hm5 : m ≤ 5) (hq : q < m) {d : Int32} (e : sIn 0 2 d) : qM_change M (nI q) 3 d = some (M 95 q, zw M 95 q d) := by
  unfold qM_change
  rw [zb_ok (m_isSort hm), if_pos (sIn_t (by omega) hq), if_neg z10, zb_ok (m_in (lo := 0) (hi := 4) (L := 0) (H := 4) rfl rfl), if_pos (show sIn 0 4 3 from ⟨by decide, by decide⟩), if_neg z10]
  simp only [if_neg (show ¬ (3 : Int32) = 0 by decide), if_neg (show ¬ (3 : Int32) < 3 by decide), if_true]
  rw [zb_ok (m_in (lo := 0) (hi := 2) (L := 0) (H := 2) rfl rfl), if_pos e, if_neg z10]
  have e1 : 2 * nI q + 1 - 1 = nI (2 * q) := by rw [zn_2m, nI_1, nI_pred]
  have e2 : 2 * nI q + 2 - 1 = nI (2 * q + 1) := by rw [zn_2m, show (2 : Int32) = nI 2 from rfl, nI_add, show 2 * q + 2 = 2 * q + 1 + 1 from rfl, nI_pred]
  simp (disch := omega) only [zn_cl, zq_in, zb_s]
theorem m_change3n (hm : M 86 14 = nI m) (hm5 : m ≤ 5) (hq : q < m) {d : Int32} (e : ¬ sIn 0 2 d) : qM_change M (nI q) 3 d = some (-2, M) := by
  unfold qM_change
  rw [zb_ok (m_isSort hm), if_pos (sIn_t (by omega) hq), if_neg z10, zb_ok (m_in (lo := 0) (hi := 4) (L := 0) (H := 4) rfl rfl), if_pos (show sIn 0 4 3 from ⟨by decide, by decide⟩), if_neg z10]
  simp only [if_neg (show ¬ (3 : Int32) = 0 by decide), if_neg (show ¬ (3 : Int32) < 3 by decide), if_true]
  rw [zb_ok (m_in (lo := 0) (hi := 2) (L := 0) (H := 2) rfl rfl), if_neg e, if_pos rfl]
theorem m_change4 (hm : M 86 14 = nI m) (hm5 : m ≤ 5) (hq : q < m) {d : Int32} (e : sIn 0 6 d) : qM_change M (nI q) 4 d = some (M 96 q, zw M 96 q d) := by
  unfold qM_change
  rw [zb_ok (m_isSort hm), if_pos (sIn_t (by omega) hq), if_neg z10, zb_ok (m_in (lo := 0) (hi := 4) (L := 0) (H := 4) rfl rfl), if_pos (show sIn 0 4 4 from ⟨by decide, by decide⟩), if_neg z10]
  simp only [if_neg (show ¬ (4 : Int32) = 0 by decide), if_neg (show ¬ (4 : Int32) < 3 by decide), if_neg (show ¬ (4 : Int32) = 3 by decide)]
  rw [zb_ok (m_in (lo := 0) (hi := 6) (L := 0) (H := 6) rfl rfl), if_pos e, if_neg z10]
  have e1 : 2 * nI q + 1 - 1 = nI (2 * q) := by rw [zn_2m, nI_1, nI_pred]
  have e2 : 2 * nI q + 2 - 1 = nI (2 * q + 1) := by rw [zn_2m, show (2 : Int32) = nI 2 from rfl, nI_add, show 2 * q + 2 = 2 * q + 1 + 1 from rfl, nI_pred]
  simp (disch := omega) only [zn_cl, zq_in, zb_s]
theorem m_change4n (hm : M 86 14 = nI m) (hm5 : m ≤ 5) (hq : q < m) {d : Int32} (e : ¬ sIn 0 6 d) : qM_change M (nI q) 4 d = some (-2, M) := by
  unfold qM_change
  rw [zb_ok (m_isSort hm), if_pos (sIn_t (by omega) hq), if_neg z10, zb_ok (m_in (lo := 0) (hi := 4) (L := 0) (H := 4) rfl rfl), if_pos (show sIn 0 4 4 from ⟨by decide, by decide⟩), if_neg z10]
  simp only [if_neg (show ¬ (4 : Int32) = 0 by decide), if_neg (show ¬ (4 : Int32) < 3 by decide), if_neg (show ¬ (4 : Int32) = 3 by decide)]
  rw [zb_ok (m_in (lo := 0) (hi := 6) (L := 0) (H := 6) rfl rfl), if_neg e, if_pos rfl]
theorem sIn_1 {hi x : Int32} (h : sIn 1 hi x) : sIn 0 hi x := ⟨fun q => h.1 (Int32.lt_trans q (by decide)), h.2⟩
theorem k_change (hI : zI M) (a c d : Int32) : ∃ x M1 M2, qS_change M a c d = some (x, M1) ∧ qM_change M1 a c d = some (x, M2) ∧ zI M2 := by
  obtain ⟨n, m, k, law, A, hI⟩ := hI
  have hm := hI.m5
  have h6 := hI.m.t.2.1
  unfold qS_change
  rw [zb_ok (c_noSort hI.c.m)]
  by_cases c1 : sIn 0 (nI m - 1) a
  · rw [if_pos c1, if_pos rfl]
    obtain ⟨q, hq, rfl⟩ := sIn_m (by omega) c1
    have e1 : nI q * 2 + 1 - 1 = nI (2 * q) := by rw [zc_m2, nI_1, nI_pred]
    have e2 : nI q * 2 + 2 - 1 = nI (2 * q + 1) := by rw [zc_m2, show (2 : Int32) = nI 2 from rfl, nI_add, show 2 * q + 2 = 2 * q + 1 + 1 from rfl, nI_pred]
    by_cases d0 : c = 0
    · subst d0
      rw [if_pos rfl, zb_ok c_out]
      by_cases e : sIn 1 99 d
      · rw [if_pos e, if_pos rfl, zb2_ok (x_11 (by omega) d)]
        refine ⟨_, _, _, rfl, ?_, (z_w6 (j := q) hI (wF_w6 hI.w (sIn_1 e)) (by omega)).z⟩
        rw [m_change0 (m := m) (by rw [zw_ne (by decide), zw_ne (by decide)]; exact h6) hm hq e, zw_ne (by decide), zw_ne (by decide), m_c6 hI]
      · rw [if_neg e, if_neg z10]
        exact ⟨_, _, _, rfl, m_change0n h6 hm hq e, hI.z⟩
    · rw [if_neg d0]
      by_cases d1 : c = 1
      · subst d1
        rw [if_pos rfl, zb_ok c_out]
        by_cases e : sIn 0 99 d
        · rw [if_pos e, if_pos rfl, e1, zb2_ok (x_12 (by omega) d)]
          refine ⟨_, _, _, rfl, ?_, (z_w7 (j := (2 * q)) hI (wF_w7 hI.w e) (by omega)).z⟩
          rw [m_change1 (m := m) (by rw [zw_ne (by decide), zw_ne (by decide)]; exact h6) hm hq e, zw_ne (by decide), zw_ne (by decide), m_c7 hI]
        · rw [if_neg e, if_neg z10]
          exact ⟨_, _, _, rfl, m_change1n h6 hm hq e, hI.z⟩
      · rw [if_neg d1]
        by_cases d2 : c = 2
        · subst d2
          rw [if_pos rfl, zb_ok c_out]
          by_cases e : sIn 0 99 d
          · rw [if_pos e, if_pos rfl, e2, zb2_ok (x_12 (by omega) d)]
            refine ⟨_, _, _, rfl, ?_, (z_w7 (j := (2 * q + 1)) hI (wF_w7 hI.w e) (by omega)).z⟩
            rw [m_change2 (m := m) (by rw [zw_ne (by decide), zw_ne (by decide)]; exact h6) hm hq e, zw_ne (by decide), zw_ne (by decide), m_c7 hI]
          · rw [if_neg e, if_neg z10]
            exact ⟨_, _, _, rfl, m_change2n h6 hm hq e, hI.z⟩
        · rw [if_neg d2]
          by_cases d3 : c = 3
          · subst d3
            rw [if_pos rfl, zb_ok c_out]
            by_cases e : sIn 0 2 d
            · rw [if_pos e, if_pos rfl, zb2_ok (x_13 (by omega) d)]
              refine ⟨_, _, _, rfl, ?_, (z_w8 (j := q) hI (wF_w8 hI.w e) (by omega)).z⟩
              rw [m_change3 (m := m) (by rw [zw_ne (by decide), zw_ne (by decide)]; exact h6) hm hq e, zw_ne (by decide), zw_ne (by decide), m_c8 hI]
            · rw [if_neg e, if_neg z10]
              exact ⟨_, _, _, rfl, m_change3n h6 hm hq e, hI.z⟩
          · rw [if_neg d3]
            by_cases d4 : c = 4
            · subst d4
              rw [if_pos rfl, zb_ok c_out]
              by_cases e : sIn 0 6 d
              · rw [if_pos e, if_pos rfl, zb2_ok (x_14 (by omega) d)]
                refine ⟨_, _, _, rfl, ?_, (z_w9 (j := q) hI (wF_w9 hI.w e) (by omega)).z⟩
                rw [m_change4 (m := m) (by rw [zw_ne (by decide), zw_ne (by decide)]; exact h6) hm hq e, zw_ne (by decide), zw_ne (by decide), m_c9 hI]
              · rw [if_neg e, if_neg z10]
                exact ⟨_, _, _, rfl, m_change4n h6 hm hq e, hI.z⟩
            · rw [if_neg d4]
              have hno : ¬ sIn 0 4 c := fun h => by
                obtain ⟨j, hj, rfl⟩ := sIn_n (h := 4) (by omega) h
                rcases (show j = 0 ∨ j = 1 ∨ j = 2 ∨ j = 3 ∨ j = 4 by omega) with rfl | rfl | rfl | rfl | rfl
                · exact d0 rfl
                · exact d1 rfl
                · exact d2 rfl
                · exact d3 rfl
                · exact d4 rfl
              refine ⟨_, _, _, rfl, ?_, hI.z⟩
              unfold qM_change
              rw [zb_ok (m_isSort h6), if_pos c1, if_neg z10, zb_ok (m_in (lo := 0) (hi := 4) (L := 0) (H := 4) rfl rfl), if_neg hno, if_pos rfl]
  · rw [if_neg c1, if_neg z10]
    refine ⟨_, _, _, rfl, ?_, hI.z⟩
    unfold qM_change
    rw [zb_ok (m_isSort h6), if_neg c1, if_pos rfl]
end ZCalls6
