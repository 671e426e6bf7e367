section ZCalls8
variable {M : zM} {n m k : Nat} {law : Int32} {A : zM} {q s t : Nat}
theorem c_thoughtOf (hM : cT M n m A) (hL : lT M n m A) (hW : sWF n m A) (hq : q < m) (hs : s < 2) : qW_thoughtOf M (nI q) (nI s) = some (sTh A n q s) := by
  have h1 := hM.1
  have h10 : M 12 = A 7 := hM.2.2.2.2.2.2.2.2.2.1
  have w1 := hW.1
  have w2 := hW.2.1
  unfold qW_thoughtOf
  simp (disch := omega) only [zc_m2, nI_add, zn_cl, zq_in, h10]
  have key := zlp_run (b := qW_thoughtOf_L18 M (nI q) (nI s)) (s := fun i => (-(A 7 (2 * q + s)) + sSum (sTg A (A 8 q) q s) i, nI i)) n (e := some (sTh A n q s)) (zfu_gt (by omega)) (fun i hi rc => ?_) (fun rc => ?_)
  · rw [← key]
    show _ = zlp _ _ (_ + 0, _)
    rw [Int32.add_zero]
    rfl
  · obtain ⟨a, k, ha, hk, hak, hk3⟩ := hW.2.2.2.1 s i hs hi
    have t1 := (tab_now hL hW hq hs hi ha (by omega)).1
    have l0 : cPos q s i a < 120 := by unfold cPos; omega
    unfold qW_thoughtOf_L18
    simp (disch := omega) only [h1, zn_lt, if_pos hi, nI_1]
    rw [zb_ok (c_cell hM hW hq hs hi ha (by omega))]
    simp (disch := omega) only [zn_cl, zq_in, t1]
    rw [Int32.add_assoc]
    rfl
  · unfold qW_thoughtOf_L18
    simp (disch := omega) only [h1, zn_lt, Nat.lt_irrefl, if_false]
    rfl
theorem c_freeGain (hM : cT M n m A) (hW : sWF n m A) (hq : q < m) (hs : s < 2) (ht : t < n) : qW_freeGain M (nI q) (nI s) (nI t) = some (sTg A 1 q s t) := by
  obtain ⟨v, h1, h2⟩ := c_thought hM hW hq hs ht (sPr A s t) 1
  unfold qW_freeGain
  rw [zb_ok (c_priceNow hM hW hs ht), zb_ok h1, zb_ok h2]
  rfl
theorem c_thoughtOfBoth (hM : cT M n m A) (hW : sWF n m A) (hq : q < m) : qW_thoughtOfBoth M (nI q) = some (sBo A n 1 q) := by
  have h1 := hM.1
  have h10 : M 12 = A 7 := hM.2.2.2.2.2.2.2.2.2.1
  have w1 := hW.1
  have w2 := hW.2.1
  unfold qW_thoughtOfBoth
  simp (disch := omega) only [zc_m2, nI_1, zn_cl, zq_in, h10]
  have key := zlp_run (b := qW_thoughtOfBoth_L29 M (nI q)) (s := fun i => (-(A 7 (2 * q)) - A 7 (2 * q + 1) + sSum (fun t => sTg A 1 q (sSd A 1 q t) t) i, nI i)) n (e := some (sBo A n 1 q)) (zfu_gt (by omega)) (fun i hi rc => ?_) (fun rc => ?_)
  · rw [← key]
    show _ = zlp _ _ (_ + 0, _)
    rw [Int32.add_zero]
    rfl
  · have e0 : qW_freeGain M (nI q) 0 (nI i) = _ := c_freeGain (s := 0) hM hW hq (by omega) hi
    have e1 : qW_freeGain M (nI q) 1 (nI i) = _ := c_freeGain (s := 1) hM hW hq (by omega) hi
    unfold qW_thoughtOfBoth_L29
    simp (disch := omega) only [h1, zn_lt, if_pos hi, nI_1]
    rw [zb_ok e0, zb_ok e1]
    have hx : (if sTg A 1 q 0 i < sTg A 1 q 1 i then sTg A 1 q 1 i else sTg A 1 q 0 i) = sTg A 1 q (sSd A 1 q i) i := by
      unfold sSd
      split <;> rfl
    rw [hx, Int32.add_assoc]
    rfl
  · unfold qW_thoughtOfBoth_L29
    simp (disch := omega) only [h1, zn_lt, Nat.lt_irrefl, if_false]
    rfl
theorem k_thinks (hI : zI M) (a b : Int32) : ∃ x M1 M2, qS_thinks M a b = some (x, M1) ∧ qM_thinks M1 a b = some (x, M2) ∧ zI M2 := by
  obtain ⟨n, m, k, law, A, hI⟩ := hI
  have hm := hI.m5
  have hin : qM_in b.toInt64 0 2 = _ := m_in (v := b) (lo := 0) (hi := 2) (L := 0) (H := 2) rfl rfl
  unfold qS_thinks qM_thinks
  rw [zb_ok (c_noSort hI.c.m)]
  by_cases c1 : sIn 0 (nI m - 1) a
  · rw [if_pos c1, if_pos rfl, zb_ok c_out]
    by_cases c2 : sIn 0 2 b
    · rw [if_pos c2, if_pos rfl]
      obtain ⟨q, hq, rfl⟩ := sIn_m (by omega) c1
      obtain ⟨w, hw, rfl⟩ := sIn_n (h := 2) (by omega) c2
      obtain ⟨M1, g1, g2, g3, g4, g5⟩ := c_look hI
      have hI1 := zIn_look hI g2 g5
      rw [zb_ok g1]
      by_cases c3 : w = 2
      · subst c3
        rw [if_pos (show nI 2 = 2 from rfl), zb_ok (c_thoughtOfBoth g3 hI.w.wf hq)]
        refine ⟨_, _, _, rfl, ?_, hI1.z⟩
        rw [zb_ok (m_isSort hI1.m.t.2.1), if_pos c1, if_neg z10, zb_ok hin, if_pos c2, if_neg z10, if_neg (show ¬ nI 2 < 2 by decide)]
        simp (disch := omega) only [zn_cl, zq_in]
        have h := m_thinksBoth (M := zw M1 95 q 1) (A := zw A 8 q 1) (n := n) (m := m) (mT_w8 hI1.m.t q 1) hI.w.wf hq
        rw [zw_same] at h
        have h' : qM_thinksBoth (zw M1 95 q 1) (nI q) = some (sBo A n 1 q) := h
        rw [zb_ok h', zw_back]
      · have hw2 : w < 2 := by omega
        rw [if_neg (show ¬ nI w = 2 from fun h => c3 ((nI_eq (b := 2) (by omega) (by omega)).mp h)), zb_ok (c_thoughtOf g3 g4 hI.w.wf hq hw2)]
        refine ⟨_, _, _, rfl, ?_, hI1.z⟩
        rw [zb_ok (m_isSort hI1.m.t.2.1), if_pos c1, if_neg z10, zb_ok hin, if_pos c2, if_neg z10, if_pos (show nI w < 2 from nI_lt (b := 2) hw2 (by omega)), zb_ok (m_thinksOf hI1.m.t hI.w.wf hq hw2)]
    · rw [if_neg c2, if_neg z10]
      refine ⟨_, _, _, rfl, ?_, hI.z⟩
      rw [zb_ok (m_isSort hI.m.t.2.1), if_pos c1, if_neg z10, zb_ok hin, if_neg c2, if_pos rfl]
  · rw [if_neg c1, if_neg z10]
    refine ⟨_, _, _, rfl, ?_, hI.z⟩
    rw [zb_ok (m_isSort hI.m.t.2.1), if_neg c1, if_pos rfl]
/-! SAVES -/
noncomputable def sGa (A : zM) (n q s : Nat) : Int32 := sSum (fun t => sBy A n q s t * (A 11 (4 * q + t) - sPr A s t)) n
noncomputable def sFa (A : zM) (n q s : Nat) : Int32 := @ite _ (sVs (sGo A n q) s) (Classical.propDecidable _) (A 7 (2 * q + s)) 0
noncomputable def sSv (A : zM) (n q : Nat) : Int32 := sSum (fun s => sGa A n q s - sFa A n q s) 2
theorem sSum_0 : ∀ n, sSum (fun _ => 0) n = 0
  | 0 => rfl
  | n + 1 => by
    show sSum _ n + 0 = 0
    rw [sSum_0 n]
    rfl
theorem sBy_0 (h : ¬ sVs (sGo A n q) s) : sBy A n q s t = 0 := by
  unfold sBy
  rw [if_neg (fun q => h q.1)]
theorem sBy_w0 (h : A 10 (4 * q + t) = 0) : sBy A n q s t = 0 := by
  unfold sBy
  split
  · exact sWt_0 h
  · rfl
theorem sGa_0 (h : ¬ sVs (sGo A n q) s) : sGa A n q s = 0 := by
  unfold sGa
  rw [sSum_congr (g := fun _ => 0) (fun i _ => by rw [sBy_0 h, Int32.zero_mul]), sSum_0]
theorem i32_r1 (a f g : Int32) : a - f + g = a + (g - f) := by grind
theorem c_gained (hM : cT M n m A) (hW : sWF n m A) (hB : bT M n A q) (hq : q < m) (hs : s < 2) : qW_gained M (nI q) (nI s) = some (sGa A n q s) := by
  have w1 := hW.1
  have w2 := hW.2.1
  have hM' := hM
  obtain ⟨h1, h2, h3, h4, h5, h6, h7, h8, h9, h10, h11, h12, h13, h14⟩ := hM'
  unfold qW_gained
  refine zlp_run (b := qW_gained_L5 M (nI q) (nI s)) (s := fun i => (sSum (fun t => sBy A n q s t * (A 11 (4 * q + t) - sPr A s t)) i, nI i)) n (e := some (sGa A n q s)) (zfu_gt (by omega)) (fun i hi rc => ?_) (fun rc => ?_)
  · have hb := hB s i hs hi
    unfold qW_gained_L5
    simp (disch := omega) only [h1, zn_lt, if_pos hi, zc_m4, nI_add, nI_1, zn_cl, zq_in, hb]
    rw [zb_ok (c_priceNow hM hW hs hi)]
    show rc (_ + _, _) = rc (_ + sBy A n q s i * (A 11 (4 * q + i) - sPr A s i), _)
    by_cases c : A 10 (4 * q + i) = 0
    · rw [sBy_w0 c, Int32.zero_mul, Int32.zero_mul]
    · rw [h13 _ c]
  · unfold qW_gained_L5
    simp (disch := omega) only [h1, zn_lt, Nat.lt_irrefl, if_false]
    rfl
theorem c_savedBy (hM : cT M n m A) (hL : lT M n m A) (hW : sWF n m A) (hq : q < m) : ∃ M', qW_savedBy M (nI q) = some (sSv A n q, M') ∧ wk M M' := by
  obtain ⟨M2, g1, g2, g3⟩ := c_send hM hL hW hq
  have hM2 := cT_wk g2 hM
  have w2 := hW.2.1
  have h10 : M2 12 = A 7 := hM2.2.2.2.2.2.2.2.2.2.1
  refine ⟨M2, ?_, g2⟩
  unfold qW_savedBy
  rw [zb2_ok g1]
  refine zlp_run (b := qW_savedBy_L11 (sGo A n q) M2 (nI q)) (s := fun i => (sSum (fun s => sGa A n q s - sFa A n q s) i, nI i)) 2 (e := some (sSv A n q, M2)) (zfu_gt (by omega)) (fun i hi rc => ?_) (fun rc => ?_)
  · unfold qW_savedBy_L11
    simp (disch := omega) only [zn_lt2, if_pos hi, nI_1]
    rw [zb_ok (c_visits (s := i) (sGo A n q))]
    show _ = rc (sSum (fun s => sGa A n q s - sFa A n q s) i + (sGa A n q i - sFa A n q i), _)
    by_cases c : sVs (sGo A n q) i
    · have hf : sFa A n q i = A 7 (2 * q + i) := by unfold sFa; rw [if_pos c]
      rw [if_pos c, if_neg z10, zb_ok (c_gained hM2 hW g3 hq hi), hf]
      simp (disch := omega) only [zc_m2, nI_add, zn_cl, zq_in, h10]
    · have hf : sFa A n q i = 0 := by unfold sFa; rw [if_neg c]
      rw [if_neg c, if_pos rfl, hf, sGa_0 c, show (0 : Int32) - 0 = 0 from rfl, Int32.add_zero]
  · unfold qW_savedBy_L11
    simp (disch := omega) only [zn_lt2, Nat.lt_irrefl, if_false]
    rfl
theorem m_savesOf (hM : mT M n m A) (hW : sWF n m A) (hq : q < m) : qM_savesOf M (nI q) = some (sSv A n q) := by
  have w1 := hW.1
  have w2 := hW.2.1
  have hM' := hM
  obtain ⟨h1, h2, h3, h4, h5, h6, h7, h8, h9, h10, h11, h12, h13, h14, h15⟩ := hM'
  unfold qM_savesOf
  rw [zb_ok (m_goesTo hM hW hq)]
  refine zlp_run (b := qM_savesOf_L11 (sGo A n q) (nI q) M) (s := fun i => (sSum (fun s => sGa A n q s - sFa A n q s) i, nI i)) 2 (e := some (sSv A n q)) (zfu_gt (by omega)) (fun i hi rc => ?_) (fun rc => ?_)
  · have hf : (if ((sGo A n q >>> (nI i &&& 31)) &&& 1) = 1 then some (A 7 (2 * q + i)) else some 0) = some (sFa A n q i) := by
      unfold sFa
      by_cases c : sVs (sGo A n q) i
      · rw [if_pos c]; exact if_pos c
      · rw [if_neg c]; exact if_neg c
    unfold qM_savesOf_L11
    simp (disch := omega) only [zn_lt2, if_pos hi, zn_2m, nI_add, zn_cl, zq_in, h10]
    rw [hf, zb_s]
    have key := zlp_run (b := qM_savesOf_L48 M (nI q) (sGo A n q) (nI i) rc) (s := fun j => (sSum (fun s => sGa A n q s - sFa A n q s) i - sFa A n q i + sSum (fun t => sBy A n q i t * (A 11 (4 * q + t) - sPr A i t)) j, nI j)) n (e := rc (sSum (fun s => sGa A n q s - sFa A n q s) (i + 1), nI (i + 1))) (F := zfu) (zfu_gt (by omega)) (fun j hj rc2 => ?_) (fun rc2 => ?_)
    · rw [← key]
      show _ = zlp _ _ (_ + 0, _)
      rw [Int32.add_zero]
      rfl
    · unfold qM_savesOf_L48
      simp (disch := omega) only [h1, zn_lt, if_pos hj, nI_1]
      rw [zb_ok (m_bought hM hW hq hi hj)]
      simp (disch := omega) only [zn_4m, nI_add, zn_cl, zq_in]
      rw [zb_ok (m_priceOf hM hW hi hj)]
      show rc2 (_ - _ + _ + _, _) = rc2 (_ - _ + (_ + sBy A n q i j * (A 11 (4 * q + j) - sPr A i j)), _)
      rw [Int32.add_assoc]
      by_cases c : A 10 (4 * q + j) = 0
      · rw [sBy_w0 c, Int32.zero_mul, Int32.zero_mul]
      · rw [h14 _ c]
    · unfold qM_savesOf_L48
      simp (disch := omega) only [h1, zn_lt, Nat.lt_irrefl, if_false, nI_1]
      rw [i32_r1]
      rfl
  · unfold qM_savesOf_L11
    simp (disch := omega) only [zn_lt2, Nat.lt_irrefl, if_false]
    rfl
theorem k_saves (hI : zI M) (v : Int32) : ∃ x M1, qS_saves M v = some (x, M1) ∧ qM_saves M1 v = some x ∧ zI M1 := by
  obtain ⟨n, m, k, law, A, hI⟩ := hI
  have hm := hI.m5
  unfold qS_saves qM_saves
  rw [zb_ok (c_noSort hI.c.m)]
  by_cases c : sIn 0 (nI m - 1) v
  · rw [if_pos c, if_pos rfl]
    obtain ⟨q, hq, rfl⟩ := sIn_m (by omega) c
    obtain ⟨M1, g1, g2, g3, g4, g5⟩ := c_look hI
    obtain ⟨M2, e1, e2⟩ := c_savedBy g3 g4 hI.w.wf hq
    have hI2 := zIn_lw hI g2 g5 e2
    rw [zb_ok g1, zb2_ok e1]
    refine ⟨_, _, rfl, ?_, hI2.z⟩
    rw [zb_ok (m_isSort hI2.m.t.2.1), if_pos c, if_neg z10, zb_ok (m_savesOf hI2.m.t hI2.w.wf hq)]
  · rw [if_neg c, if_neg z10]
    refine ⟨_, _, rfl, ?_, hI.z⟩
    rw [zb_ok (m_isSort hI.m.t.2.1), if_neg c, if_pos rfl]
/-! whether the law leaves a row -/
theorem sBs_none {ok : Nat → Prop} {L : Nat → Int32} : ∀ {r : Nat}, sBs ok L r = none ↔ ∀ i, i < r → ¬ ok i
  | 0 => ⟨fun _ i h => by omega, fun _ => rfl⟩
  | r + 1 => by
    have ih := sBs_none (ok := ok) (L := L) (r := r)
    unfold sBs
    cases hr : sBs ok L r with
    | none =>
      have h := ih.mp hr
      dsimp only
      by_cases c : ok r
      · rw [if_pos c]
        exact ⟨(fun z => by cases z), fun z => absurd c (z r (by omega))⟩
      · rw [if_neg c]
        refine ⟨fun _ i hi => ?_, fun _ => rfl⟩
        by_cases e : i = r
        · subst e; exact c
        · exact h i (by omega)
    | some p =>
      obtain ⟨b, x⟩ := p
      dsimp only
      have hb := sBs_lt hr
      constructor
      · intro z
        split at z <;> cases z
      · intro z
        exact absurd hb.2.1 (z b (by omega))
def sLp (A : zM) (t : Nat) : Int32 := A 1 (3 * t + (sK A t - 1))
def sHas (A : zM) (n s : Nat) : Prop := ∀ t, t < n → ¬ sLp A t < A 2 (4 * s + t)
theorem sPr_lay (hn : n ≤ 4) (hW : sWF n m A) (ht : t < n) (r : Nat) : sPr (zA A 4 (sLay A n s r)) s t = A 1 (3 * t + sDg (sK A) n r t) := by
  have hd : sDg (sK A) n r t < sK A t := sDg_lt ht (fun t ht => (wf_K hW ht).2.1)
  have h3 := (wf_K hW ht).2.2
  show A 1 (3 * t + (sLay A n s r (4 * s + t)).toNatClampNeg) = _
  unfold sLay
  rw [if_pos (by omega), show 4 * s + t - 4 * s = t by omega, zn_cl (by omega)]
theorem up_le (w : wF n m k law A) (ht : t < n) : ∀ d i, i + d + 1 = sK A t → A 1 (3 * t + i) ≤ sLp A t := by
  intro d
  induction d with
  | zero =>
    intro i h
    unfold sLp
    rw [show sK A t - 1 = i by omega]
    exact Int32.le_refl _
  | succ d ih =>
    intro i h
    have h1 := ih (i + 1) (by omega)
    have h2 := w.up t i ht (by omega)
    exact Int32.le_of_lt (Int32.lt_of_lt_of_le h2 h1)
theorem sO_1 (hn : n ≤ 4) (hW : sWF n m A) {r : Nat} : sO 1 A n s r ↔ ∀ t, t < n → ¬ A 1 (3 * t + sDg (sK A) n r t) < A 2 (4 * s + t) := by
  constructor
  · intro h t ht
    rcases h with h | h
    · exact absurd h (by decide)
    · have := h t ht
      rw [sPr_lay hn hW ht] at this
      exact this
  · intro h
    refine Or.inr (fun t ht => ?_)
    rw [sPr_lay hn hW ht]
    exact h t ht
theorem best_none (w : wF n m k law A) {law' : Int32} (h01 : law' = 0 ∨ law' = 1) : sBest law' A n m s = none ↔ law' = 1 ∧ ¬ sHas A n s := by
  have hn := w.wf.1
  have hrows := wf_rows w.wf
  unfold sBest
  rw [sBs_none]
  rcases h01 with rfl | rfl
  · constructor
    · intro h
      exact absurd (Or.inl rfl) (h 0 (by omega))
    · intro h
      exact absurd h.1 (by decide)
  · constructor
    · intro h
      refine ⟨rfl, fun hh => ?_⟩
      have hd : ∀ t, t < n → sK A t - 1 < sK A t := fun t ht => by have := (wf_K w.wf ht).2.1; omega
      apply h (sRw (sK A) (fun t => sK A t - 1) n) (sRw_lt hd)
      rw [sO_1 hn w.wf]
      intro t ht
      rw [sDg_Rw hd t ht]
      exact hh t ht
    · rintro ⟨-, h⟩ r hr ho
      rw [sO_1 hn w.wf] at ho
      apply h
      intro t ht hlt
      have hd : sDg (sK A) n r t < sK A t := sDg_lt ht (fun t ht => (wf_K w.wf ht).2.1)
      have := up_le w ht (sK A t - 1 - sDg (sK A) n r t) (sDg (sK A) n r t) (by omega)
      exact ho t ht (Int32.lt_of_le_of_lt this hlt)
theorem c_lastPrice (hI : zIn M n m k law A) (ht : t < n) : qG_lastPrice M (nI t) = some (sLp A t) := by
  have hn := hI.n4
  obtain ⟨k1, k2, k3⟩ := t_K hI ht
  have e : nI (3 * t) + nI (sK A t) - 1 = nI (3 * t + (sK A t - 1)) := by
    rw [nI_add, zn_s1 (by omega)]
    congr 1
    omega
  unfold qG_lastPrice
  simp (disch := omega) only [zn_cl, zq_in, zc_m3, k1, e]
  rw [show M 5 = A 1 from hI.c.c1]
  rfl
theorem c_hasLawful (hI : zIn M n m k law A) (hs : s < 2) : qG_hasLawfulRow M (nI s) = some (pB (sHas A n s)) := by
  have hn := hI.n4
  have h1 : M 3 0 = nI n := hI.c.n
  have h5 : M 6 = A 2 := hI.c.c2
  unfold qG_hasLawfulRow
  refine zlp_ex (b := qG_hasLawfulRow_L2 M (nI s)) (I := fun i v => v = nI i ∧ ∀ t, t < i → ¬ sLp A t < A 2 (4 * s + t)) n (E := fun o => o = some (pB (sHas A n s))) (zfu_gt (by omega)) (fun i hi v hv => ?_) (fun v hv => ?_) (s := 0) ⟨rfl, fun t h => by omega⟩
  · obtain ⟨rfl, hv⟩ := hv
    have e := c_lastPrice hI hi
    by_cases c : sLp A i < A 2 (4 * s + i)
    · refine Or.inr ⟨some 0, ?_, fun rc => ?_⟩
      · rw [pB_f (fun h => h i hi c)]
      · unfold qG_hasLawfulRow_L2
        simp (disch := omega) only [h1, zn_lt, if_pos hi, e, zb_s, zc_m4, nI_add, zn_cl, zq_in, h5, if_pos c]
    · refine Or.inl ⟨nI (i + 1), ⟨rfl, fun t ht => ?_⟩, fun rc => ?_⟩
      · by_cases z : t = i
        · subst z; exact c
        · exact hv t (by omega)
      · unfold qG_hasLawfulRow_L2
        simp (disch := omega) only [h1, zn_lt, if_pos hi, e, zb_s, zc_m4, nI_add, nI_1, zn_cl, zq_in, h5, if_neg c]
  · obtain ⟨rfl, hv⟩ := hv
    refine ⟨some 1, by rw [pB_t (show sHas A n s from hv)], fun rc => ?_⟩
    unfold qG_hasLawfulRow_L2
    simp (disch := omega) only [h1, zn_lt, Nat.lt_irrefl, if_false]
theorem c_forbids (hI : zIn M n m k law A) (hs : s < 2) {law' : Int32} (h01 : law' = 0 ∨ law' = 1) : qS_forbidsAll M (nI s) law' = some (pB (sBest law' A n m s = none)) := by
  have hb := best_none (s := s) (m := m) hI.w h01
  unfold qS_forbidsAll
  by_cases c : law' = 1
  · rw [if_pos c, zb_ok (c_hasLawful hI hs)]
    by_cases c2 : sHas A n s
    · rw [pB_t c2, if_neg z10, pB_f (fun h => (hb.mp h).2 c2)]
    · rw [pB_f c2, if_pos rfl, pB_t (hb.mpr ⟨c, c2⟩)]
  · rw [if_neg c, pB_f (fun h => c (hb.mp h).1)]
theorem zIn.l2 (h : zIn M n m k law A) : M 2 3 = law := h.c.l
theorem k_best (hI : zI M) (v : Int32) : ∃ x M1 M2, qS_best M v = some (x, M1) ∧ qM_best M1 v = some (x, M2) ∧ zI M2 := by
  obtain ⟨n, m, k, law, A, hI⟩ := hI
  unfold qS_best qM_best
  rw [zb_ok c_noShop]
  by_cases c : sIn 0 1 v
  · rw [if_pos c, if_pos rfl]
    obtain ⟨s, hs, rfl⟩ := sIn_n (h := 1) (by omega) c
    have hs2 : s < 2 := by omega
    rw [hI.l2, zb_ok (c_forbids hI hs2 hI.w.law01)]
    by_cases hb : sBest law A n m s = none
    · rw [pB_t hb, if_neg z10]
      obtain ⟨M3, g1, g2, g3⟩ := m_bestOf hI.m.t hI.w.wf hs2 hI.m.l hI.w.law01
      refine ⟨_, _, M3, rfl, ?_, (zIn_19 hI g2).z⟩
      rw [zb_ok m_isShop, if_pos c, if_neg z10, zb2_ok g1, hb, if_pos (show bV none < 0 by decide)]
    · rw [pB_f hb, if_pos rfl]
      obtain ⟨⟨b, x⟩, hbx⟩ : ∃ p, sBest law A n m s = some p := by
        cases h : sBest law A n m s with
        | none => exact absurd h hb
        | some p => exact ⟨p, rfl⟩
      have hbl := (sBs_lt hbx).1
      have hr := wf_rows hI.w.wf
      obtain ⟨M1, g1, g2, g3, g4, g5⟩ := c_look hI
      have hI1 := zIn_look hI g2 g5
      rw [zb_ok g1, hI1.l2]
      obtain ⟨M2, e1, e2⟩ := c_bestRow g3 g4 hI.w.wf hs2 law
      have hI2 := zIn_lw hI g2 g5 e2
      rw [zb2_ok e1, hbx]
      obtain ⟨M3, f1, f2, f3⟩ := m_bestOf hI2.m.t hI2.w.wf hs2 hI2.m.l hI2.w.law01
      refine ⟨_, _, M3, rfl, ?_, (zIn_19 hI2 f2).z⟩
      rw [zb_ok m_isShop, if_pos c, if_neg z10, zb2_ok f1, hbx, if_neg (show ¬ bV (some (b, x)) < 0 from nI_nn b (by omega))]
  · rw [if_neg c, if_neg z10]
    refine ⟨_, _, _, rfl, ?_, hI.z⟩
    rw [zb_ok m_isShop, if_neg c, if_pos rfl]
end ZCalls8
