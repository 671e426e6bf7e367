section ZCalls4
variable {M : zM} {n m k : Nat} {law : Int32} {A : zM} {q s t : Nat}
/-- the step of a thing is set -/
theorem wF_w4 (w : wF n m k law A) {x : Nat} (hs : s < 2) (ht : t < n) (hx : x < sK A t) : wF n m k law (zw A 4 (4 * s + t) (nI x)) := by
  refine ⟨?_, w.k30, w.law01, w.pr, w.up, w.co, w.he, w.wi, w.ma, w.fa, w.wa, w.sh, w.wn, w.wo, w.gu, w.sl⟩
  have hW := w.wf
  refine ⟨hW.1, hW.2.1, hW.2.2.1, fun s' t' hs' ht' => ?_, hW.2.2.2.2.1, hW.2.2.2.2.2⟩
  have w1 := hW.1
  obtain ⟨a, kk, h1, h2, h3, h4⟩ := hW.2.2.2.1 s' t' hs' ht'
  by_cases c : 4 * s' + t' = 4 * s + t
  · have e1 : s' = s := by omega
    have e2 : t' = t := by omega
    subst e1 e2
    obtain ⟨k1, k2, k3⟩ := wf_K hW ht'
    exact ⟨x, sK A t', (by rw [zw_same]), k1, hx, k3⟩
  · exact ⟨a, kk, (by rw [zw_other c]; exact h1), h2, h3, h4⟩
theorem m_c0 (hI : zIn M n m k law A) : M 92 = M 4 := hI.m.t.2.2.1.trans hI.c.c0.symm
theorem m_c1 (hI : zIn M n m k law A) : M 91 = M 5 := hI.m.t.2.2.2.1.trans hI.c.c1.symm
theorem m_c2 (hI : zIn M n m k law A) : M 87 = M 6 := hI.m.t.2.2.2.2.1.trans hI.c.c2.symm
theorem m_c3 (hI : zIn M n m k law A) : M 88 = M 7 := hI.m.t.2.2.2.2.2.1.trans hI.c.c3.symm
theorem m_c4 (hI : zIn M n m k law A) : M 89 = M 8 := hI.m.t.2.2.2.2.2.2.1.trans hI.c.c4.symm
theorem m_c6 (hI : zIn M n m k law A) : M 93 = M 11 := hI.m.t.2.2.2.2.2.2.2.2.1.trans hI.c.c6.symm
theorem m_c7 (hI : zIn M n m k law A) : M 94 = M 12 := hI.m.t.2.2.2.2.2.2.2.2.2.1.trans hI.c.c7.symm
theorem m_c8 (hI : zIn M n m k law A) : M 95 = M 13 := hI.m.t.2.2.2.2.2.2.2.2.2.2.1.trans hI.c.c8.symm
theorem m_c9 (hI : zIn M n m k law A) : M 96 = M 14 := hI.m.t.2.2.2.2.2.2.2.2.2.2.2.1.trans hI.c.c9.symm
theorem m_c10 (hI : zIn M n m k law A) : M 97 = M 15 := hI.m.t.2.2.2.2.2.2.2.2.2.2.2.2.1.trans hI.c.c10.symm
theorem t_K (hI : zIn M n m k law A) (ht : t < n) : M 4 t = nI (sK A t) ∧ 1 ≤ sK A t ∧ sK A t ≤ 3 := by
  have := wf_K hI.w.wf ht
  rw [← hI.c.c0] at this
  exact this
theorem z10 : ¬ (1 : Int32) = 0 := by decide
theorem m_set0 (hn : M 86 6 = nI n) (hn4 : n ≤ 4) (hs : s ≤ 1) (ht : t < n) {d : Int32} (e : sIn 0 99 d) : qM_set M (nI s) (nI t) 0 d = some (M 87 (4 * s + t), zw M 87 (4 * s + t) d) := by
  unfold qM_set
  rw [zb_ok m_isShop, if_pos (show sIn 0 1 (nI s) from sIn_t (h := 2) (by omega) (by omega)), if_neg z10, zb_ok (m_isThing hn), if_pos (sIn_t (by omega) ht), if_neg z10]
  simp only [zlj_u, if_true]
  rw [if_neg (show ¬ (0 : Int32) = 2 by decide), zb_ok (m_in (lo := 0) (hi := 2) (L := 0) (H := 2) rfl rfl), if_pos (show sIn 0 2 0 from ⟨by decide, by decide⟩), if_neg z10, if_pos (show (0 : Int32) < 2 by decide), zb_ok (m_in (lo := 0) (hi := 99) (L := 0) (H := 99) rfl rfl), if_pos e, if_neg z10]
  simp (disch := omega) only [zn_4m, nI_add, zn_cl, zq_in, zb_s, if_true]
theorem m_set0n (hn : M 86 6 = nI n) (hn4 : n ≤ 4) (hs : s ≤ 1) (ht : t < n) {d : Int32} (e : ¬ sIn 0 99 d) : qM_set M (nI s) (nI t) 0 d = some (-2, M) := by
  unfold qM_set
  rw [zb_ok m_isShop, if_pos (show sIn 0 1 (nI s) from sIn_t (h := 2) (by omega) (by omega)), if_neg z10, zb_ok (m_isThing hn), if_pos (sIn_t (by omega) ht), if_neg z10]
  simp only [zlj_u, if_true]
  rw [if_neg (show ¬ (0 : Int32) = 2 by decide), zb_ok (m_in (lo := 0) (hi := 2) (L := 0) (H := 2) rfl rfl), if_pos (show sIn 0 2 0 from ⟨by decide, by decide⟩), if_neg z10, if_pos (show (0 : Int32) < 2 by decide), zb_ok (m_in (lo := 0) (hi := 99) (L := 0) (H := 99) rfl rfl), if_neg e, if_pos (show (0 : Int32) = 0 from rfl)]
theorem m_set1 (hn : M 86 6 = nI n) (hn4 : n ≤ 4) (hs : s ≤ 1) (ht : t < n) {d : Int32} (e : sIn 0 3 d) : qM_set M (nI s) (nI t) 1 d = some (M 88 (4 * s + t), zw M 88 (4 * s + t) d) := by
  unfold qM_set
  rw [zb_ok m_isShop, if_pos (show sIn 0 1 (nI s) from sIn_t (h := 2) (by omega) (by omega)), if_neg z10, zb_ok (m_isThing hn), if_pos (sIn_t (by omega) ht), if_neg z10]
  simp only [zlj_u, if_true]
  rw [if_neg (show ¬ (1 : Int32) = 2 by decide), zb_ok (m_in (lo := 0) (hi := 2) (L := 0) (H := 2) rfl rfl), if_pos (show sIn 0 2 1 from ⟨by decide, by decide⟩), if_neg z10, if_pos (show (1 : Int32) < 2 by decide), if_neg z10, zb_ok (m_in (lo := 0) (hi := 3) (L := 0) (H := 3) rfl rfl), if_pos e, if_neg z10]
  simp (disch := omega) only [zn_4m, nI_add, zn_cl, zq_in, zb_s, if_neg z10, if_true]
theorem m_set1n (hn : M 86 6 = nI n) (hn4 : n ≤ 4) (hs : s ≤ 1) (ht : t < n) {d : Int32} (e : ¬ sIn 0 3 d) : qM_set M (nI s) (nI t) 1 d = some (-2, M) := by
  unfold qM_set
  rw [zb_ok m_isShop, if_pos (show sIn 0 1 (nI s) from sIn_t (h := 2) (by omega) (by omega)), if_neg z10, zb_ok (m_isThing hn), if_pos (sIn_t (by omega) ht), if_neg z10]
  simp only [zlj_u, if_true]
  rw [if_neg (show ¬ (1 : Int32) = 2 by decide), zb_ok (m_in (lo := 0) (hi := 2) (L := 0) (H := 2) rfl rfl), if_pos (show sIn 0 2 1 from ⟨by decide, by decide⟩), if_neg z10, if_pos (show (1 : Int32) < 2 by decide), if_neg z10, zb_ok (m_in (lo := 0) (hi := 3) (L := 0) (H := 3) rfl rfl), if_neg e, if_pos (show (0 : Int32) = 0 from rfl)]
theorem m_set2 (hn : M 86 6 = nI n) (hn4 : n ≤ 4) (hs : s ≤ 1) (ht : t < n) {d : Int32} {kk : Nat} (hk : M 92 t = nI kk) (e : sIn 0 (nI kk - 1) d) : qM_set M (nI s) (nI t) 2 d = some (M 89 (4 * s + t), zw M 89 (4 * s + t) d) := by
  unfold qM_set
  rw [zb_ok m_isShop, if_pos (show sIn 0 1 (nI s) from sIn_t (h := 2) (by omega) (by omega)), if_neg z10, zb_ok (m_isThing hn), if_pos (sIn_t (by omega) ht), if_neg z10]
  simp only [zlj_u, if_true]
  simp (disch := omega) only [zn_cl, zq_in, hk]
  rw [zb_ok (m_in (lo := 0) (hi := nI kk - 1) (L := 0) rfl rfl), if_pos e, if_neg z10, zb_ok (m_in (lo := 0) (hi := 2) (L := 0) (H := 2) rfl rfl), if_pos (show sIn 0 2 2 from ⟨by decide, by decide⟩), if_neg z10, if_neg (show ¬ (2 : Int32) < 2 by decide)]
  simp (disch := omega) only [zn_4m, nI_add, zn_cl, zq_in, zb_s, if_neg (show ¬ (2 : Int32) = 0 by decide), if_neg (show ¬ (2 : Int32) = 1 by decide)]
theorem m_set2n (hn : M 86 6 = nI n) (hn4 : n ≤ 4) (hs : s ≤ 1) (ht : t < n) {d : Int32} {kk : Nat} (hk : M 92 t = nI kk) (e : ¬ sIn 0 (nI kk - 1) d) : qM_set M (nI s) (nI t) 2 d = some (-1, M) := by
  unfold qM_set
  rw [zb_ok m_isShop, if_pos (show sIn 0 1 (nI s) from sIn_t (h := 2) (by omega) (by omega)), if_neg z10, zb_ok (m_isThing hn), if_pos (sIn_t (by omega) ht), if_neg z10]
  simp only [zlj_u, if_true]
  simp (disch := omega) only [zn_cl, zq_in, hk]
  rw [zb_ok (m_in (lo := 0) (hi := nI kk - 1) (L := 0) rfl rfl), if_neg e, if_pos rfl]
theorem m_set3 (hn : M 86 6 = nI n) (hn4 : n ≤ 4) (hs : s ≤ 1) (ht : t < n) {d : Int32} {c : Int32} (d2 : ¬ c = 2) (hno : ¬ sIn 0 2 c) : qM_set M (nI s) (nI t) c d = some (-2, M) := by
  unfold qM_set
  rw [zb_ok m_isShop, if_pos (show sIn 0 1 (nI s) from sIn_t (h := 2) (by omega) (by omega)), if_neg z10, zb_ok (m_isThing hn), if_pos (sIn_t (by omega) ht), if_neg z10]
  simp only [zlj_u, if_true]
  rw [if_neg d2, zb_ok (m_in (lo := 0) (hi := 2) (L := 0) (H := 2) rfl rfl), if_neg hno, if_pos rfl]
theorem k_set (hI : zI M) (a b c d : Int32) : ∃ x M1 M2, qS_set M a b c d = some (x, M1) ∧ qM_set M1 a b c d = some (x, M2) ∧ zI M2 := by
  obtain ⟨n, m, k, law, A, hI⟩ := hI
  have hn := hI.n4
  have h6 := hI.m.t.1
  unfold qS_set
  rw [zb_ok c_noShop]
  by_cases c1 : sIn 0 1 a
  · rw [if_pos c1, if_pos rfl, zb_ok (c_noThing hI.c.n)]
    by_cases c2 : sIn 0 (nI n - 1) b
    · rw [if_pos c2, if_pos rfl]
      obtain ⟨s, hs, rfl⟩ := sIn_n (h := 1) (by omega) c1
      obtain ⟨t, ht, rfl⟩ := sIn_m (by omega) c2
      obtain ⟨kk1, kk2, kk3⟩ := t_K hI ht
      have mk : M 92 t = nI (sK A t) := by rw [m_c0 hI]; exact kk1
      by_cases d0 : c = 0
      · subst d0
        rw [if_pos rfl, zb_ok c_out]
        by_cases e : sIn 0 99 d
        · rw [if_pos e, if_pos rfl]
          simp (disch := omega) only [zc_m4, nI_add]
          rw [zb2_ok (x_6 (by omega) d)]
          refine ⟨_, _, _, rfl, ?_, (z_w2 (j := 4 * s + t) hI (wF_w2 hI.w e) (by omega)).z⟩
          rw [m_set0 (n := n) (by rw [zw_ne (by decide), zw_ne (by decide)]; exact h6) hn hs ht e, zw_ne (by decide), zw_ne (by decide), m_c2 hI]
        · rw [if_neg e, if_neg (by decide)]
          exact ⟨_, _, _, rfl, m_set0n h6 hn hs ht e, hI.z⟩
      · rw [if_neg d0]
        by_cases d1 : c = 1
        · subst d1
          rw [if_pos rfl, zb_ok c_out]
          by_cases e : sIn 0 3 d
          · rw [if_pos e, if_pos rfl]
            simp (disch := omega) only [zc_m4, nI_add]
            rw [zb2_ok (x_7 (by omega) d)]
            refine ⟨_, _, _, rfl, ?_, (z_w3 (j := 4 * s + t) hI (wF_w3 hI.w e) (by omega)).z⟩
            rw [m_set1 (n := n) (by rw [zw_ne (by decide), zw_ne (by decide)]; exact h6) hn hs ht e, zw_ne (by decide), zw_ne (by decide), m_c3 hI]
          · rw [if_neg e, if_neg (by decide)]
            exact ⟨_, _, _, rfl, m_set1n h6 hn hs ht e, hI.z⟩
        · rw [if_neg d1]
          by_cases d2 : c = 2
          · subst d2
            rw [if_pos rfl]
            simp (disch := omega) only [zn_cl, zq_in]
            rw [zb_ok c_out, kk1]
            by_cases e : sIn 0 (nI (sK A t) - 1) d
            · obtain ⟨x, hx, rfl⟩ := sIn_m (by omega) e
              rw [if_pos e, if_pos rfl]
              simp (disch := omega) only [zc_m4, nI_add]
              rw [zb2_ok (x_8 (by omega) (nI x))]
              refine ⟨_, _, _, rfl, ?_, (z_w4 (j := 4 * s + t) hI (wF_w4 hI.w (by omega) ht hx) (by omega)).z⟩
              rw [m_set2 (n := n) (kk := sK A t) (by rw [zw_ne (by decide), zw_ne (by decide)]; exact h6) hn hs ht (by rw [zw_ne (by decide), zw_ne (by decide)]; exact mk) e, zw_ne (by decide), zw_ne (by decide), m_c4 hI]
            · rw [if_neg e, if_neg (by decide)]
              exact ⟨_, _, _, rfl, m_set2n h6 hn hs ht mk e, hI.z⟩
          · rw [if_neg d2]
            have hno : ¬ sIn 0 2 c := fun h => by
              obtain ⟨j, hj, rfl⟩ := sIn_n (h := 2) (by omega) h
              rcases (show j = 0 ∨ j = 1 ∨ j = 2 by omega) with rfl | rfl | rfl
              · exact d0 rfl
              · exact d1 rfl
              · exact d2 rfl
            exact ⟨_, _, _, rfl, m_set3 h6 hn hs ht d2 hno, hI.z⟩
    · rw [if_neg c2, if_neg (by decide)]
      refine ⟨_, _, _, rfl, ?_, hI.z⟩
      unfold qM_set
      rw [zb_ok m_isShop, if_pos c1, if_neg (by decide), zb_ok (m_isThing hI.m.t.1), if_neg c2, if_pos rfl]
  · rw [if_neg c1, if_neg (by decide)]
    refine ⟨_, _, _, rfl, ?_, hI.z⟩
    unfold qM_set
    rw [zb_ok m_isShop, if_neg c1, if_pos rfl]
end ZCalls4
