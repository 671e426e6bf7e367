section ZCalls9
variable {M : zM} {n m k : Nat} {law : Int32} {A : zM} {q s t : Nat}
theorem best_some (h : ¬ sBest law A n m s = none) : ∃ b x, sBest law A n m s = some (b, x) ∧ b < sRc (sK A) n ∧ sO law A n s b ∧ x = sL A n m s b := by
  cases hb : sBest law A n m s with
  | none => exact absurd hb h
  | some p =>
    obtain ⟨b, x⟩ := p
    exact ⟨b, x, rfl, sBs_lt hb⟩
/-- laid, then laid back -/
theorem m_back {M5 : zM} {f : Nat → Int32} (hM : mT M n m A) (hW : sWF n m A) (hs : s < 2) (h5 : ∀ c, c ≠ 89 → M5 c = M c) (h9 : M5 89 = f) (hWf : sWF n m (zA A 4 f)) (hl : ∀ r, sLay (zA A 4 f) n s r = sLay A n s r) : qM_lay M5 (nI s) (nI (sRw (sK A) (sAt A s) n)) = some M := by
  have hr := wf_rows hW
  have hwas : sRw (sK A) (sAt A s) n < sRc (sK A) n := sRw_lt (fun t ht => (wf_A hW hs ht).2)
  obtain ⟨M9, g1, g2, g3⟩ := m_lay (mT_lay h5 h9 hM) hWf hs (sRw (sK A) (sAt A s) n) (by omega)
  have e : M9 = M := by
    funext c
    by_cases hc : c = 89
    · subst hc
      rw [g3, hl, sLay_id hW hs]
      exact hM.2.2.2.2.2.2.1.symm
    · rw [g2 c hc, h5 c hc]
  rw [g1, e]
theorem i32_or_0 (x : Int32) : x ||| 0 = x := by
  apply Int32.toBitVec_inj.mp
  rw [Int32.toBitVec_or]
  exact BitVec.or_zero
theorem k_lures (hI : zI M) (v : Int32) : ∃ x M1 M2, qS_lures M v = some (x, M1) ∧ qM_lures M1 v = some (x, M2) ∧ zI M2 := by
  obtain ⟨n, m, k, law, A, hI⟩ := hI
  have hn := hI.n4
  unfold qS_lures qM_lures
  rw [zb_ok c_noShop]
  by_cases c : sIn 0 1 v
  · rw [if_pos c, if_pos rfl]
    obtain ⟨s, hs, rfl⟩ := sIn_n (h := 1) (by omega) c
    have hs2 : s < 2 := by omega
    rw [hI.l2, zb_ok (c_forbids hI hs2 hI.w.law01)]
    by_cases hb : sBest law A n m s = none
    · rw [pB_t hb, if_neg z10]
      obtain ⟨M3, g1, g2, g3⟩ := m_bestOf hI.m.t hI.w.wf hs2 hI.m.l hI.w.law01
      refine ⟨_, _, M3, rfl, ?_, (zIn_19 hI g2).z⟩
      rw [zb_ok m_isShop, if_pos c, if_neg z10, zb2_ok g1, hb, if_pos (show bV none < 0 by decide)]
    · rw [pB_f hb, if_pos rfl]
      obtain ⟨b, x, hbx, hbl, -, -⟩ := best_some hb
      have hr := wf_rows hI.w.wf
      obtain ⟨M1, g1, g2, g3, g4, g5⟩ := c_look hI
      have hI1 := zIn_look hI g2 g5
      rw [zb_ok g1, hI1.l2]
      obtain ⟨M2, e1, e2⟩ := c_bestRow g3 g4 hI.w.wf hs2 law
      have hc2 := cT_wk e2 g3
      rw [zb2_ok e1, hbx, show bV (some (b, x)) = nI b from rfl]
      obtain ⟨M6, p1, p2, p3⟩ := c_putRow hc2 hI.w.wf hs2 b (by omega)
      have hc6 := cT_lay p2 p3 hc2
      have hW6 := wf_lay hI.w.wf b hs2
      rw [zb_ok p1, zb_ok (c_belowCost hc6 hW6 hs2)]
      have hI6 : zIn M6 n m k law A := zIn_t hI ((cf_look g2).tr ((cf_wk e2).tr (cf_68 p2))) hc6 (az_lay (az_of hI) hn hs2 b)
      obtain ⟨M3, f1, f2, f3⟩ := m_bestOf hI6.m.t hI6.w.wf hs2 hI6.m.l hI6.w.law01
      have hI3 := zIn_19 hI6 f2
      refine ⟨_, _, M3, rfl, ?_, hI3.z⟩
      rw [zb_ok m_isShop, if_pos c, if_neg z10, zb2_ok f1, hbx, if_neg (show ¬ bV (some (b, x)) < 0 from nI_nn b (by omega)), zb_ok (m_rowOf hI3.m.t hI3.w.wf hs2), show bV (some (b, x)) = nI b from rfl]
      obtain ⟨M5, l1, l2, l3⟩ := m_lay hI3.m.t hI3.w.wf hs2 b (by omega)
      have hm5 := mT_lay l2 l3 hI3.m.t
      rw [zb_ok l1]
      refine zlp_run (b := qM_lures_L40 M5 (nI s) (nI (sRw (sK A) (sAt A s) n))) (s := fun i => (sBl (zA A 4 (sLay A n s b)) s i, nI i)) n (zfu_gt (by omega)) (fun i hi rc => ?_) (fun rc => ?_)
      · unfold qM_lures_L40
        simp (disch := omega) only [hm5.1, zn_lt, if_pos hi, nI_1]
        rw [zb_ok (m_isBelow hm5 hW6 hs2 hi), sBl_s]
        by_cases z : sPr (zA A 4 (sLay A n s b)) s i < (zA A 4 (sLay A n s b)) 2 (4 * s + i)
        · rw [if_pos z, if_pos z, if_neg z10]
        · rw [if_neg z, if_neg z, if_pos rfl, i32_or_0]
      · unfold qM_lures_L40
        simp (disch := omega) only [hm5.1, zn_lt, Nat.lt_irrefl, if_false]
        rw [m_back hI3.m.t hI3.w.wf hs2 l2 l3 hW6 (fun r => sLay_lay b r), zb_s]
  · rw [if_neg c, if_neg z10]
    refine ⟨_, _, _, rfl, ?_, hI.z⟩
    rw [zb_ok m_isShop, if_neg c, if_pos rfl]
/-- a step of one thing set in the trial, in the reference -/
theorem cT_w4 (h : cT M n m A) (j : Nat) (x : Int32) : cT (zw M 68 j x) n m (zw A 4 j x) := by
  have := cT_lay (M' := zw M 68 j x) (f := zw A 4 j x 4) (fun c hc => zw_ne hc) (by rw [zw_at, zw_at, h.2.2.2.2.2.2.1]) h
  have e : zA A 4 (zw A 4 j x 4) = zw A 4 j x := by rw [zw_at]; rfl
  rw [e] at this
  exact this
theorem lT_w4 (h : lT M n m A) (j : Nat) (x : Int32) : lT (zw M 68 j x) n m (zw A 4 j x) := by
  have := lT_lay (M' := zw M 68 j x) (f := zw A 4 j x 4) (fun c hc => zw_ne hc) h
  have e : zA A 4 (zw A 4 j x 4) = zw A 4 j x := by rw [zw_at]; rfl
  rw [e] at this
  exact this
theorem k_brings (hI : zI M) (u v : Int32) : ∃ x M1 M2, qS_brings M u v = some (x, M1) ∧ qM_brings M1 u v = some (x, M2) ∧ zI M2 := by
  obtain ⟨n, m, k, law, A, hI⟩ := hI
  have hn := hI.n4
  unfold qS_brings qM_brings
  rw [zb_ok c_noShop]
  by_cases c : sIn 0 1 u
  · rw [if_pos c, if_pos rfl, zb_ok (c_noThing hI.c.n)]
    by_cases c2 : sIn 0 (nI n - 1) v
    · rw [if_pos c2, if_pos rfl]
      obtain ⟨s, hs, rfl⟩ := sIn_n (h := 1) (by omega) c
      obtain ⟨t, ht, rfl⟩ := sIn_m (by omega) c2
      have hs2 : s < 2 := by omega
      obtain ⟨M1, g1, g2, g3, g4, g5⟩ := c_look hI
      obtain ⟨M2, e1, e2⟩ := c_leftOf g3 g4 hI.w.wf hs2
      have hc2 := cT_wk e2 g3
      have hl2 := lT_wk e2 g4
      obtain ⟨k1, k2, k3⟩ := wf_K hI.w.wf ht
      have w4 : wF n m k law (zw A 4 (4 * s + t) (nI (sK A t - 1))) := wF_w4 hI.w hs2 ht (by omega)
      obtain ⟨M7, f1, f2⟩ := c_leftOf (cT_w4 hc2 (4 * s + t) (nI (sK A t - 1))) (lT_w4 hl2 (4 * s + t) (nI (sK A t - 1))) w4.wf hs2
      have hc7 := cT_wk f2 (cT_w4 hc2 (4 * s + t) (nI (sK A t - 1)))
      have hI7 : zIn M7 n m k law A := zIn_t hI ((cf_look g2).tr ((cf_wk e2).tr ((cf_zw (by omega)).tr (cf_wk f2)))) hc7 (az_w4 (az_of hI) (by omega) _)
      have ek : M2 64 t = nI (sK A t) := by rw [hc2.2.2.1]; exact k1
      have ek7 : M7 92 t = nI (sK A t) := by rw [hI7.m.t.2.2.1]; exact k1
      rw [zb_ok g1, zb2_ok e1]
      simp (disch := omega) only [zc_m4, nI_add, zn_cl, zq_in, ek, zn_s1]
      rw [zb2_ok f1]
      refine ⟨_, _, _, rfl, ?_, hI7.z⟩
      rw [zb_ok m_isShop, if_pos c, if_neg z10, zb_ok (m_isThing hI7.m.t.1), if_pos c2, if_neg z10]
      simp (disch := omega) only [zn_4m, nI_add, zn_cl, zq_in, ek7, zn_s1]
      rw [zb_ok (m_leftOf hI7.m.t hI7.w.wf hs2), zb_ok (m_leftOf (mT_w4 hI7.m.t (4 * s + t) (nI (sK A t - 1))) w4.wf hs2), zw_back, l_sub (lf_bd hI.w hs2) (lf_bd w4 hs2) (by omega)]
    · rw [if_neg c2, if_neg z10]
      refine ⟨_, _, _, rfl, ?_, hI.z⟩
      rw [zb_ok m_isShop, if_pos c, if_neg z10, zb_ok (m_isThing hI.m.t.1), if_neg c2, if_pos rfl]
  · rw [if_neg c, if_neg z10]
    refine ⟨_, _, _, rfl, ?_, hI.z⟩
    rw [zb_ok m_isShop, if_neg c, if_pos rfl]
/-! ONLY -/
def sOn (A : zM) (n s q : Nat) : Prop := (∃ t, t < n ∧ (0 : Int32) < sBy A n q s t) ∧ ∀ t, t < n → (0 : Int32) < sBy A n q s t → sPr A s t < A 2 (4 * s + t)
noncomputable def sOb (A : zM) (n s : Nat) : Nat → Int32
  | 0 => 0
  | q + 1 => @ite _ (sOn A n s q) (Classical.propDecidable _) (sOb A n s q ||| (1 <<< (nI q &&& 31))) (sOb A n s q)
theorem sOb_s (A : zM) (n s q : Nat) : sOb A n s (q + 1) = @ite _ (sOn A n s q) (Classical.propDecidable _) (sOb A n s q ||| (1 <<< (nI q &&& 31))) (sOb A n s q) := rfl
theorem c_bba (hM : cT M n m A) (hL : lT M n m A) (hW : sWF n m A) (hq : q < m) (hs : s < 2) : ∃ M', qW_buysBelowAlone M (nI q) (nI s) = some (pB (sOn A n s q), M') ∧ wk M M' := by
  obtain ⟨M2, g1, g2, g3⟩ := c_send hM hL hW hq
  have hM2 := cT_wk g2 hM
  have w1 := hW.1
  refine ⟨M2, ?_, g2⟩
  unfold qW_buysBelowAlone
  rw [zb2_ok g1]
  refine zlp_ex (b := qW_buysBelowAlone_L11 M2 (nI s)) (I := fun i v => v = (pB (∃ t, t < i ∧ (0 : Int32) < sBy A n q s t), nI i) ∧ ∀ t, t < i → (0 : Int32) < sBy A n q s t → sPr A s t < A 2 (4 * s + t)) n (E := fun o => o = some (pB (sOn A n s q), M2)) (zfu_gt (by omega)) (fun i hi v hv => ?_) (fun v hv => ?_) (s := (0, 0)) ⟨by rw [pB_f (fun h => by obtain ⟨t, h, -⟩ := h; omega)]; rfl, fun t h => by omega⟩
  · obtain ⟨rfl, hv⟩ := hv
    have hb := g3 s i hs hi
    have hbl := c_isBelow hM2 hW hs hi
    by_cases c : (0 : Int32) < sBy A n q s i
    · by_cases c2 : sPr A s i < A 2 (4 * s + i)
      · refine Or.inl ⟨(pB (∃ t, t < i + 1 ∧ (0 : Int32) < sBy A n q s t), nI (i + 1)), ⟨rfl, fun t ht h => ?_⟩, fun rc => ?_⟩
        · by_cases z : t = i
          · subst z; exact c2
          · exact hv t (by omega) h
        · rw [if_pos c2] at hbl
          rw [pB_t (show ∃ t, t < i + 1 ∧ (0 : Int32) < sBy A n q s t from ⟨i, by omega, c⟩)]
          unfold qW_buysBelowAlone_L11
          simp (disch := omega) only [hM2.1, zn_lt, if_pos hi, zc_m4, nI_add, nI_1, zn_cl, zq_in, hb, if_pos c]
          rw [zb_ok hbl, if_neg z10]
      · refine Or.inr ⟨some (0, M2), ?_, fun rc => ?_⟩
        · rw [pB_f (fun h => c2 (h.2 i hi c))]
        · rw [if_neg c2] at hbl
          unfold qW_buysBelowAlone_L11
          simp (disch := omega) only [hM2.1, zn_lt, if_pos hi, zc_m4, nI_add, nI_1, zn_cl, zq_in, hb, if_pos c]
          rw [zb_ok hbl, if_pos rfl]
    · refine Or.inl ⟨(pB (∃ t, t < i + 1 ∧ (0 : Int32) < sBy A n q s t), nI (i + 1)), ⟨rfl, fun t ht h => ?_⟩, fun rc => ?_⟩
      · by_cases z : t = i
        · subst z; exact absurd h c
        · exact hv t (by omega) h
      · have e : (∃ t, t < i + 1 ∧ (0 : Int32) < sBy A n q s t) = (∃ t, t < i ∧ (0 : Int32) < sBy A n q s t) := propext ⟨fun ⟨t, h1, h2⟩ => ⟨t, by
            by_cases z : t = i
            · subst z; exact absurd h2 c
            · omega, h2⟩, fun ⟨t, h1, h2⟩ => ⟨t, by omega, h2⟩⟩
        rw [e]
        unfold qW_buysBelowAlone_L11
        simp (disch := omega) only [hM2.1, zn_lt, if_pos hi, zc_m4, nI_add, nI_1, zn_cl, zq_in, hb, if_neg c]
  · obtain ⟨rfl, hv⟩ := hv
    refine ⟨_, rfl, fun rc => ?_⟩
    have e : (∃ t, t < n ∧ (0 : Int32) < sBy A n q s t) = sOn A n s q := propext ⟨fun h => ⟨h, hv⟩, fun h => h.1⟩
    unfold qW_buysBelowAlone_L11
    simp (disch := omega) only [hM2.1, zn_lt, Nat.lt_irrefl, if_false]
    rw [e, zq_b (pB_01 _)]
theorem m_only1 (hM : mT M n m A) (hW : sWF n m A) (hq : q < m) (hs : s < 2) (rc : (Int32 × Int32) → Option Int32) (v : Int32) : zlp (qM_only_L37 M (nI q) (sGo A n q) (nI s) rc v) zfu (0, 1, 0) = rc (@ite _ (sOn A n s q) (Classical.propDecidable _) (v ||| (1 <<< (nI q &&& 31))) v, nI (q + 1)) := by
  have w1 := hW.1
  refine (congrArg (zlp (qM_only_L37 M (nI q) (sGo A n q) (nI s) rc v) zfu) ?_).trans (zlp_run (b := qM_only_L37 M (nI q) (sGo A n q) (nI s) rc v) (s := fun i => (pB (∃ t, t < i ∧ (0 : Int32) < sBy A n q s t), pB (∀ t, t < i → (0 : Int32) < sBy A n q s t → sPr A s t < A 2 (4 * s + t)), nI i)) n (zfu_gt (by omega)) (fun i hi rc2 => ?_) (fun rc2 => ?_))
  · show ((0 : Int32), (1 : Int32), (0 : Int32)) = (pB _, pB _, nI 0)
    rw [pB_f (fun h => by obtain ⟨t, h, -⟩ := h; omega), pB_t (fun t h => by omega)]
    rfl
  · have hbl := m_isBelow hM hW hs hi
    unfold qM_only_L37
    simp (disch := omega) only [hM.1, zn_lt, if_pos hi, nI_1, zlj_u]
    rw [zb_ok (m_bought hM hW hq hs hi)]
    by_cases c : (0 : Int32) < sBy A n q s i
    · have e1 : pB (∃ t, t < i + 1 ∧ (0 : Int32) < sBy A n q s t) = 1 := pB_t ⟨i, by omega, c⟩
      have e0 : (if pB (∃ t, t < i ∧ (0 : Int32) < sBy A n q s t) = 0 then (if ((if (0 : Int32) < sBy A n q s i then 1 else 0) : Int32) = 0 then some (0 : Int32) else some 1) else some 1) = some 1 := by
        rw [if_pos c, if_neg z10]
        split <;> rfl
      rw [e0, zb_s, e1, if_pos c, if_neg z10, zb_ok hbl]
      by_cases c2 : ∀ t, t < i → (0 : Int32) < sBy A n q s t → sPr A s t < A 2 (4 * s + t)
      · rw [pB_t c2, if_neg z10]
        by_cases c3 : sPr A s i < A 2 (4 * s + i)
        · rw [if_pos c3, if_neg z10, pB_t]
          intro t ht h
          by_cases z : t = i
          · subst z; exact c3
          · exact c2 t (by omega) h
        · rw [if_neg c3, if_pos rfl, pB_f (fun h => c3 (h i (by omega) c))]
      · rw [pB_f c2, if_pos rfl, pB_f (fun h => c2 (fun t ht => h t (by omega)))]
    · have e1 : (∃ t, t < i + 1 ∧ (0 : Int32) < sBy A n q s t) = (∃ t, t < i ∧ (0 : Int32) < sBy A n q s t) := propext ⟨fun ⟨t, h1, h2⟩ => ⟨t, by
          by_cases z : t = i
          · subst z; exact absurd h2 c
          · omega, h2⟩, fun ⟨t, h1, h2⟩ => ⟨t, by omega, h2⟩⟩
      have e2 : (∀ t, t < i + 1 → (0 : Int32) < sBy A n q s t → sPr A s t < A 2 (4 * s + t)) = (∀ t, t < i → (0 : Int32) < sBy A n q s t → sPr A s t < A 2 (4 * s + t)) := propext ⟨fun h t ht => h t (by omega), fun h t ht h2 => by
          by_cases z : t = i
          · subst z; exact absurd h2 c
          · exact h t (by omega) h2⟩
      have e0 : (if pB (∃ t, t < i ∧ (0 : Int32) < sBy A n q s t) = 0 then (if ((if (0 : Int32) < sBy A n q s i then 1 else 0) : Int32) = 0 then some (0 : Int32) else some 1) else some 1) = some (pB (∃ t, t < i ∧ (0 : Int32) < sBy A n q s t)) := by
        rw [if_neg c, if_pos rfl]
        rcases pB_01 (∃ t, t < i ∧ (0 : Int32) < sBy A n q s t) with z | z
        · rw [z, if_pos rfl]
        · rw [z, if_neg z10]
      rw [e0, zb_s, e1, e2, if_neg c, if_pos rfl]
      rcases pB_01 (∀ t, t < i → (0 : Int32) < sBy A n q s t → sPr A s t < A 2 (4 * s + t)) with z | z
      · rw [z, if_pos rfl]
      · rw [z, if_neg z10]
  · unfold qM_only_L37
    simp (disch := omega) only [hM.1, zn_lt, Nat.lt_irrefl, if_false, nI_1, i32_or_0]
    by_cases c : ∃ t, t < n ∧ (0 : Int32) < sBy A n q s t
    · rw [pB_t c, if_neg z10]
      by_cases c2 : ∀ t, t < n → (0 : Int32) < sBy A n q s t → sPr A s t < A 2 (4 * s + t)
      · rw [pB_t c2, if_neg z10, if_pos (show sOn A n s q from ⟨c, c2⟩)]
      · rw [pB_f c2, if_pos rfl, if_neg (show ¬ sOn A n s q from fun h => c2 h.2)]
    · rw [pB_f c, if_pos rfl, if_neg (show ¬ sOn A n s q from fun h => c h.1)]
theorem k_only (hI : zI M) (v : Int32) : ∃ x M1, qS_only M v = some (x, M1) ∧ qM_only M1 v = some x ∧ zI M1 := by
  obtain ⟨n, m, k, law, A, hI⟩ := hI
  have hn := hI.n4
  have hm := hI.m5
  unfold qS_only qM_only
  rw [zb_ok c_noShop]
  by_cases c : sIn 0 1 v
  · rw [if_pos c, if_pos rfl]
    obtain ⟨s, hs, rfl⟩ := sIn_n (h := 1) (by omega) c
    have hs2 : s < 2 := by omega
    obtain ⟨M1, g1, g2, g3, g4, g5⟩ := c_look hI
    rw [zb_ok g1]
    have key : ∃ M2, zlp (qS_only_L17 (nI s)) zfu (0, 0, M1) = some (sOb A n s m, M2) ∧ wk M1 M2 := by
      refine zlp_inv (b := qS_only_L17 (nI s)) (I := fun i v => v.1 = sOb A n s i ∧ v.2.1 = nI i ∧ wk M1 v.2.2) m (E := fun o => ∃ M2, o = some (sOb A n s m, M2) ∧ wk M1 M2) (zfu_gt (by omega)) (fun i hi v hv => ?_) (fun v hv => ?_) (s := (0, 0, M1)) ⟨rfl, rfl, wk.rf M1⟩
      · obtain ⟨v1, v2, M5⟩ := v
        obtain ⟨e1, e2, e3⟩ := hv
        dsimp only at e1 e2 e3
        subst e1 e2
        have hM5 := cT_wk e3 g3
        obtain ⟨M8, f1, f2⟩ := c_bba hM5 (lT_wk e3 g4) hI.w.wf hi hs2
        refine ⟨(sOb A n s (i + 1), nI (i + 1), M8), ⟨rfl, rfl, e3.tr f2⟩, fun rc => ?_⟩
        unfold qS_only_L17
        simp (disch := omega) only [hM5.2.1, zn_lt, if_pos hi, nI_1]
        rw [zb2_ok f1]
        rw [sOb_s]
        by_cases z : sOn A n s i
        · rw [pB_t z, if_neg z10, if_pos z]
        · rw [pB_f z, if_pos rfl, if_neg z]
      · obtain ⟨v1, v2, M5⟩ := v
        obtain ⟨e1, e2, e3⟩ := hv
        dsimp only at e1 e2 e3
        subst e1 e2
        have hM5 := cT_wk e3 g3
        refine ⟨_, ⟨M5, rfl, e3⟩, fun rc => ?_⟩
        unfold qS_only_L17
        simp (disch := omega) only [hM5.2.1, zn_lt, Nat.lt_irrefl, if_false]
    obtain ⟨M2, k1, k2⟩ := key
    have hI2 := zIn_lw hI g2 g5 k2
    rw [k1]
    refine ⟨_, _, rfl, ?_, hI2.z⟩
    rw [zb_ok m_isShop, if_pos c, if_neg z10]
    refine zlp_run (b := qM_only_L13 M2 (nI s)) (s := fun i => (sOb A n s i, nI i)) m (zfu_gt (by omega)) (fun i hi rc => ?_) (fun rc => ?_)
    · unfold qM_only_L13
      simp (disch := omega) only [hI2.m.t.2.1, zn_lt, if_pos hi]
      rw [zb_ok (m_goesTo hI2.m.t hI2.w.wf hi), m_only1 hI2.m.t hI2.w.wf hi hs2]
      rfl
    · unfold qM_only_L13
      simp (disch := omega) only [hI2.m.t.2.1, zn_lt, Nat.lt_irrefl, if_false]
  · rw [if_neg c, if_neg z10]
    refine ⟨_, _, rfl, ?_, hI.z⟩
    rw [zb_ok m_isShop, if_neg c, if_pos rfl]
end ZCalls9
