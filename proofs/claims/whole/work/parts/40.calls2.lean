section ZCalls2
variable {M : zM} {n m k : Nat} {law : Int32} {A : zM} {q s t : Nat}
theorem dT_eq {M' : zM} (h80 : M' 80 = M 80) (h81 : M' 81 = M 81) (h : dT M n m A) : dT M' n m A := by
  intro a b ha hb
  rw [h80, h81]
  exact h a b ha hb
/-- the class has computed -/
theorem zIn_c {M' : zM} (hI : zIn M n m k law A) (h : kp M M') (h78 : M' 78 = M 78) (h80 : M' 80 = M 80) (h81 : M' 81 = M 81) : zIn M' n m k law A :=
  zIn_kp h (by
    rw [h78]
    rcases hI.d with d | ⟨d1, d2⟩
    · exact Or.inl d
    · exact Or.inr ⟨d1, dT_eq h80 h81 d2⟩) hI
theorem kp_wk {M' : zM} (h : wk M M') : kp M M' := kp_cls (fun c hc => h c (by omega) (by omega)) (trial_tails (fun z => by rw [h 64 (by decide) (by decide)]; exact z) (fun z => by rw [h 65 (by decide) (by decide)]; exact z) (fun z => by rw [h 66 (by decide) (by decide)]; exact z) (fun z => by rw [h 67 (by decide) (by decide)]; exact z) (fun z => by rw [h 68 (by decide) (by decide)]; exact z) (fun z => by rw [h 69 (by decide) (by decide)]; exact z))
/-- the class looks and walks: the invariant stays -/
theorem zIn_lw {M1 M2 : zM} (hI : zIn M n m k law A) (f1 : ∀ c, ¬ (63 ≤ c ∧ c ≤ 69) → c ≠ 71 → c ≠ 72 → M1 c = M c) (f2 : kp M M1) (f3 : wk M1 M2) : zIn M2 n m k law A :=
  zIn_c hI (f2.tr (kp_wk f3)) ((f3 78 (by decide) (by decide)).trans (f1 78 (by omega) (by decide) (by decide))) ((f3 80 (by decide) (by decide)).trans (f1 80 (by omega) (by decide) (by decide))) ((f3 81 (by decide) (by decide)).trans (f1 81 (by omega) (by decide) (by decide)))
theorem zIn_look {M1 : zM} (hI : zIn M n m k law A) (f1 : ∀ c, ¬ (63 ≤ c ∧ c ≤ 69) → c ≠ 71 → c ≠ 72 → M1 c = M c) (f2 : kp M M1) : zIn M1 n m k law A := zIn_lw hI f1 f2 (wk.rf M1)
theorem zIn.z (h : zIn M n m k law A) : zI M := ⟨n, m, k, law, A, h⟩
theorem zIn.n4 (h : zIn M n m k law A) : n ≤ 4 := h.w.wf.1
theorem zIn.m5 (h : zIn M n m k law A) : m ≤ 5 := h.w.wf.2.1
theorem k_left (hI : zI M) (v : Int32) : ∃ x M1, qS_left M v = some (x, M1) ∧ qM_left M1 v = some x ∧ zI M1 := by
  obtain ⟨n, m, k, law, A, hI⟩ := hI
  unfold qS_left
  rw [zb_ok c_noShop]
  by_cases c : sIn 0 1 v
  · rw [if_pos c, if_pos rfl]
    obtain ⟨s, hs, rfl⟩ := sIn_n (h := 1) (by omega) c
    obtain ⟨M1, g1, g2, g3, g4, g5⟩ := c_look hI
    obtain ⟨M2, e1, e2⟩ := c_leftOf g3 g4 hI.w.wf (s := s) (by omega)
    have hI2 := zIn_lw hI g2 g5 e2
    rw [zb_ok g1, zb2_ok e1]
    refine ⟨_, _, rfl, ?_, hI2.z⟩
    unfold qM_left
    rw [zb_ok m_isShop, if_pos c, if_neg (by decide), zb_ok (m_leftOf hI2.m.t hI2.w.wf (by omega))]
  · rw [if_neg c, if_neg (by decide)]
    refine ⟨_, _, rfl, ?_, hI.z⟩
    unfold qM_left
    rw [zb_ok m_isShop, if_neg c, if_pos rfl]
theorem k_goes (hI : zI M) (v : Int32) : ∃ x M1, qS_goes M v = some (x, M1) ∧ qM_goes M1 v = some x ∧ zI M1 := by
  obtain ⟨n, m, k, law, A, hI⟩ := hI
  have hm := hI.m5
  unfold qS_goes
  rw [zb_ok (c_noSort hI.c.m)]
  by_cases c : sIn 0 (nI m - 1) v
  · rw [if_pos c, if_pos rfl]
    obtain ⟨s, hs, rfl⟩ := sIn_m (by omega) c
    obtain ⟨M1, g1, g2, g3, g4, g5⟩ := c_look hI
    obtain ⟨M2, e1, e2, e3⟩ := c_placeOf g3 g4 hI.w.wf hs
    have hI2 := zIn_lw hI g2 g5 (fun r a _ => e2 r a)
    rw [zb_ok g1, zb2_ok e1]
    refine ⟨_, _, rfl, ?_, hI2.z⟩
    unfold qM_goes
    rw [zb_ok (m_isSort hI2.m.t.2.1), if_pos c, if_neg (by decide), zb_ok (m_goesTo hI2.m.t hI2.w.wf hs)]
  · rw [if_neg c, if_neg (by decide)]
    refine ⟨_, _, rfl, ?_, hI.z⟩
    unfold qM_goes
    rw [zb_ok (m_isSort hI.m.t.2.1), if_neg c, if_pos rfl]
theorem k_buys (hI : zI M) (v u w : Int32) : ∃ x M1, qS_buys M v u w = some (x, M1) ∧ qM_buys M1 v u w = some x ∧ zI M1 := by
  obtain ⟨n, m, k, law, A, hI⟩ := hI
  have hm := hI.m5
  have hn := hI.n4
  unfold qS_buys
  rw [zb_ok (c_noSort hI.c.m)]
  by_cases c : sIn 0 (nI m - 1) v
  · rw [if_pos c, if_pos rfl, zb_ok c_noShop]
    by_cases c2 : sIn 0 1 u
    · rw [if_pos c2, if_pos rfl, zb_ok (c_noThing hI.c.n)]
      by_cases c3 : sIn 0 (nI n - 1) w
      · rw [if_pos c3, if_pos rfl]
        obtain ⟨q, hq, rfl⟩ := sIn_m (by omega) c
        obtain ⟨s, hs, rfl⟩ := sIn_n (h := 1) (by omega) c2
        obtain ⟨t, ht, rfl⟩ := sIn_m (by omega) c3
        obtain ⟨M1, g1, g2, g3, g4, g5⟩ := c_look hI
        obtain ⟨M2, e1, e2, e3⟩ := c_send g3 g4 hI.w.wf hq
        have hI2 := zIn_lw hI g2 g5 e2
        rw [zb_ok g1, zb2_ok e1]
        simp (disch := omega) only [zc_m4, nI_add, zn_cl, zq_in]
        refine ⟨_, _, rfl, ?_, hI2.z⟩
        unfold qM_buys
        rw [zb_ok (m_isSort hI2.m.t.2.1), if_pos c, if_neg (by decide), zb_ok m_isShop, if_pos c2, if_neg (by decide), zb_ok (m_isThing hI2.m.t.1), if_pos c3, if_neg (by decide), zb_ok (m_goesTo hI2.m.t hI2.w.wf hq), zb_ok (m_bought hI2.m.t hI2.w.wf hq (by omega) ht), e3 s t (by omega) ht]
      · rw [if_neg c3, if_neg (by decide)]
        refine ⟨_, _, rfl, ?_, hI.z⟩
        unfold qM_buys
        rw [zb_ok (m_isSort hI.m.t.2.1), if_pos c, if_neg (by decide), zb_ok m_isShop, if_pos c2, if_neg (by decide), zb_ok (m_isThing hI.m.t.1), if_neg c3, if_pos rfl]
    · rw [if_neg c2, if_neg (by decide)]
      refine ⟨_, _, rfl, ?_, hI.z⟩
      unfold qM_buys
      rw [zb_ok (m_isSort hI.m.t.2.1), if_pos c, if_neg (by decide), zb_ok m_isShop, if_neg c2, if_pos rfl]
  · rw [if_neg c, if_neg (by decide)]
    refine ⟨_, _, rfl, ?_, hI.z⟩
    unfold qM_buys
    rw [zb_ok (m_isSort hI.m.t.2.1), if_neg c, if_pos rfl]
theorem t_rowOf (hI : zIn M n m k law A) (hs : s < 2) : qG_rowOf_3 M (nI s) = some (nI (sRw (sK A) (sAt A s) n)) := by
  have h1 : M 3 0 = nI n := hI.c.n
  have h3 : M 4 = A 0 := hI.c.c0
  have h7 : M 8 = A 4 := hI.c.c4
  have hW := hI.w.wf
  have w1 := hI.n4
  unfold qG_rowOf_3
  refine zlp_run (b := qG_rowOf_3_L4 M (nI s)) (s := fun i => (nI (sRw (sK A) (sAt A s) i), nI i)) n (zfu_gt (by omega)) (fun i hi rc => ?_) (fun rc => ?_)
  · unfold qG_rowOf_3_L4
    simp (disch := omega) only [h1, zn_lt, if_pos hi, zc_m4, nI_add, nI_1, zn_cl, zq_in, h3, h7, (wf_K hW hi).1, (wf_A hW hs hi).1, pk_mul]
    rfl
  · unfold qG_rowOf_3_L4
    simp (disch := omega) only [h1, zn_lt, Nat.lt_irrefl, if_false]
theorem t_rowCount (hI : zIn M n m k law A) : qG_rowCount_3 M = some (nI (sRc (sK A) n)) := by
  have h1 : M 3 0 = nI n := hI.c.n
  have h3 : M 4 = A 0 := hI.c.c0
  have hW := hI.w.wf
  have w1 := hI.n4
  unfold qG_rowCount_3
  refine zlp_run (b := qG_rowCount_3_L4 M) (s := fun i => (nI (sRc (sK A) i), nI i)) n (zfu_gt (by omega)) (fun i hi rc => ?_) (fun rc => ?_)
  · unfold qG_rowCount_3_L4
    simp (disch := omega) only [h1, zn_lt, if_pos hi, nI_1, zn_cl, zq_in, h3, (wf_K hW hi).1, pk_mul]
    rfl
  · unfold qG_rowCount_3_L4
    simp (disch := omega) only [h1, zn_lt, Nat.lt_irrefl, if_false]
theorem k_row (hI : zI M) (v : Int32) : ∃ x, qS_row M v = some x ∧ qM_row M v = some x := by
  obtain ⟨n, m, k, law, A, hI⟩ := hI
  unfold qS_row qM_row
  rw [zb_ok c_noShop, zb_ok m_isShop]
  by_cases c : sIn 0 1 v
  · obtain ⟨s, hs, rfl⟩ := sIn_n (h := 1) (by omega) c
    rw [if_pos c, if_pos rfl, if_pos c, if_neg (by decide), zb_ok (t_rowOf hI (by omega)), zb_ok (m_rowOf hI.m.t hI.w.wf (by omega))]
    exact ⟨_, rfl, rfl⟩
  · rw [if_neg c, if_neg (by decide), if_neg c, if_pos rfl]
    exact ⟨_, rfl, rfl⟩
end ZCalls2
