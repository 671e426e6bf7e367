section ZDuel2
variable {M : zM} {n m k : Nat} {law : Int32} {A A' : zM} {q s t a b : Nat}
theorem LB_0 (own oth : Nat) : LB A n m 0 own oth = sLf (tw A n own oth) n m 0 := rfl
theorem LB_1 (own oth : Nat) : LB A n m 1 own oth = sLf (tw A n oth own) n m 1 := rfl
theorem c_lawRow (hM : cT M n m (tw A n a b)) (hL : lT M n m A) (w : wF n m k law A) {law' : Int32} (h01 : law' = 0 ∨ law' = 1) (hs : s < 2) {r : Nat} (hr : r < 2147483648) : ∃ M', qG_putRow M (nI s) (nI r) = some M' ∧ qG_isLawful M' (nI s) law' = some (pB (sO law' A n s r)) ∧ (∃ a b, cT M' n m (tw A n a b)) ∧ lT M' n m A ∧ ∀ c, c ≠ 68 → M' c = M c := by
  have hn := w.wf.1
  have w2 := tw_wf w a b
  obtain ⟨h0, h1⟩ := c_tw hM hL w r hr
  rcases (show s = 0 ∨ s = 1 by omega) with rfl | rfl
  · obtain ⟨M', g1, g2, g3, g4⟩ := h0
    refine ⟨M', g1, ?_, ⟨_, _, g2⟩, g3, g4⟩
    rw [c_isLawful (s := 0) g2 (tw_wf w r b).wf (by omega) law']
    have e : sOk law' (tw A n r b) n 0 = sO law' A n 0 r := by
      have := propext (ok_dep (s := 0) w h01 (twF A n a b) w2.wf r)
      rw [← this]
      show _ = sOk law' (zA (tw A n a b) 4 (sLay (tw A n a b) n 0 r)) n 0
      rw [tw_0 hn]
    rw [e]
  · obtain ⟨M', g1, g2, g3, g4⟩ := h1
    refine ⟨M', g1, ?_, ⟨_, _, g2⟩, g3, g4⟩
    rw [c_isLawful (s := 1) g2 (tw_wf w a r).wf (by omega) law']
    have e : sOk law' (tw A n a r) n 1 = sO law' A n 1 r := by
      have := propext (ok_dep (s := 1) w h01 (twF A n a b) w2.wf r)
      rw [← this]
      show _ = sOk law' (zA (tw A n a b) 4 (sLay (tw A n a b) n 1 r)) n 1
      rw [tw_1 hn]
    rw [e]
theorem c_leftBy (hd : dT M n m A) (w : wF n m k law A) (hs : s < 2) {own oth : Nat} (h1 : own < sRc (sK A) n) (h2 : oth < sRc (sK A) n) : qD_leftBy M (nI s) (nI own) (nI oth) = some (LB A n m s own oth) := by
  have hr := wf_rows w.wf
  have hn := w.wf.1
  unfold qD_leftBy
  rcases (show s = 0 ∨ s = 1 by omega) with rfl | rfl
  · have := (hd own oth h1 h2).1
    rw [tw_two hn] at this
    rw [if_pos (show nI 0 = 0 from rfl)]
    simp (disch := omega) only [zc_m81, nI_add, zn_cl, zq_in, this]
    rfl
  · have := (hd oth own h2 h1).2
    rw [tw_two hn] at this
    rw [if_neg (show ¬ nI 1 = 0 by decide)]
    simp (disch := omega) only [zc_m81, nI_add, zn_cl, zq_in, this]
    rfl
theorem c_bestAgainst (hd : dT M n m A) (w : wF n m k law A) {law' : Int32} (hs : s < 2) {oth c : Nat} {x : Int32} (h2 : oth < sRc (sK A) n) (h78 : M 78 5 = nI (sRc (sK A) n)) (h82 : ∀ r, r < sRc (sK A) n → M 82 (81 * s + r) = pB (sO law' A n s r)) (hg : gBs law' A n m s oth = some (c, x)) : qD_bestAgainst M (nI s) (nI oth) = some (nI c) := by
  have hr := wf_rows w.wf
  unfold qD_bestAgainst
  refine zlp_inv (b := qD_bestAgainst_L8 M (nI s) (nI oth)) (I := fun i v => v.2.2 = nI i ∧ v.2.1 = pB (∃ r, r < i ∧ sO law' A n s r) ∧ ∀ b x, sBs (sO law' A n s) (fun own => LB A n m s own oth) i = some (b, x) → v.1 = nI b) (sRc (sK A) n) (E := fun o => o = some (nI c)) (zfu_gt (by omega)) (fun i hi v hv => ?_) (fun v hv => ?_) (s := (0, 0, 0)) ⟨rfl, (by rw [pB_f (fun h => by obtain ⟨r, h, -⟩ := h; omega)]), (fun b x h => by cases h)⟩
  · obtain ⟨v3, v4, v5⟩ := v
    obtain ⟨e1, e2, e3⟩ := hv
    dsimp only at e1 e2 e3
    subst e1 e2
    have hl := h82 i hi
    have stp : sBs (sO law' A n s) (fun own => LB A n m s own oth) (i + 1) = match sBs (sO law' A n s) (fun own => LB A n m s own oth) i with
      | none => @ite _ (sO law' A n s i) (Classical.propDecidable _) (some (i, LB A n m s i oth)) none
      | some (b, x) => @ite _ (sO law' A n s i ∧ x < LB A n m s i oth) (Classical.propDecidable _) (some (i, LB A n m s i oth)) (some (b, x)) := rfl
    by_cases o : sO law' A n s i
    · cases hb : sBs (sO law' A n s) (fun own => LB A n m s own oth) i with
      | none =>
        have hno : ¬ ∃ r, r < i ∧ sO law' A n s r := fun ⟨r, z1, z2⟩ => sBs_none.mp hb r z1 z2
        rw [hb] at stp
        dsimp only at stp
        rw [if_pos o] at stp
        refine ⟨(nI i, 1, nI (i + 1)), ⟨rfl, (pB_t (any_s o)).symm, fun b x h => by rw [stp] at h; cases h; rfl⟩, fun rc => ?_⟩
        unfold qD_bestAgainst_L8
        simp (disch := omega) only [h78, zn_lt, if_pos hi, zc_m81, nI_add, nI_1, zn_cl, zq_in, hl]
        rw [pB_t o, if_neg z10, pB_f hno, if_pos rfl]
      | some p =>
        obtain ⟨b, x⟩ := p
        obtain ⟨q1, q2, q3⟩ := sBs_lt hb
        have ev := e3 b x hb
        subst ev
        have hyes : ∃ r, r < i ∧ sO law' A n s r := ⟨b, q1, q2⟩
        rw [hb] at stp
        dsimp only at stp
        have l1 := c_leftBy hd w hs hi h2
        have l2 := c_leftBy hd w hs (show b < sRc (sK A) n by omega) h2
        have hdd : ∀ rc, qD_bestAgainst_L8 M (nI s) (nI oth) rc (nI b, pB (∃ r, r < i ∧ sO law' A n s r), nI i) = if LB A n m s b oth < LB A n m s i oth then rc (nI i, 1, nI (i + 1)) else rc (nI b, 1, nI (i + 1)) := fun rc => by
          unfold qD_bestAgainst_L8
          simp (disch := omega) only [h78, zn_lt, if_pos hi, zc_m81, nI_add, nI_1, zn_cl, zq_in, hl]
          rw [pB_t o, if_neg z10, pB_t hyes, if_neg z10, zb_ok l1, zb_ok l2]
        have q3' : x = LB A n m s b oth := q3
        by_cases c2 : LB A n m s b oth < LB A n m s i oth
        · rw [if_pos ⟨o, by rw [q3']; exact c2⟩] at stp
          exact ⟨(nI i, 1, nI (i + 1)), ⟨rfl, (pB_t (any_s o)).symm, fun b x h => by rw [stp] at h; cases h; rfl⟩, fun rc => by rw [hdd rc, if_pos c2]⟩
        · rw [if_neg (fun h => c2 (by rw [← q3']; exact h.2))] at stp
          exact ⟨(nI b, 1, nI (i + 1)), ⟨rfl, (pB_t (any_s o)).symm, fun b x h => by rw [stp] at h; cases h; rfl⟩, fun rc => by rw [hdd rc, if_neg c2]⟩
    · have same : sBs (sO law' A n s) (fun own => LB A n m s own oth) (i + 1) = sBs (sO law' A n s) (fun own => LB A n m s own oth) i := by
        rw [stp]
        cases hb : sBs (sO law' A n s) (fun own => LB A n m s own oth) i with
        | none => dsimp only; rw [if_neg o]
        | some p => dsimp only; rw [if_neg (fun h => o h.1)]
      refine ⟨(v3, pB (∃ r, r < i ∧ sO law' A n s r), nI (i + 1)), ⟨rfl, by rw [any_n o], fun b x h => by rw [same] at h; exact e3 b x h⟩, fun rc => ?_⟩
      unfold qD_bestAgainst_L8
      simp (disch := omega) only [h78, zn_lt, if_pos hi, zc_m81, nI_add, nI_1, zn_cl, zq_in, hl]
      rw [pB_f o, if_pos rfl]
  · obtain ⟨v3, v4, v5⟩ := v
    obtain ⟨e1, e2, e3⟩ := hv
    dsimp only at e1 e2 e3
    subst e1 e2
    have ev := e3 c x hg
    subst ev
    refine ⟨_, rfl, fun rc => ?_⟩
    unfold qD_bestAgainst_L8
    simp (disch := omega) only [h78, zn_lt, Nat.lt_irrefl, if_false]
/-- what the class has prepared -/
def pT (M : zM) (law : Int32) (n m : Nat) (A : zM) : Prop := M 78 5 = nI (sRc (sK A) n) ∧ M 78 6 = 1 ∧ dT M n m A ∧ (∀ s r, s < 2 → r < sRc (sK A) n → M 82 (81 * s + r) = pB (sO law A n s r)) ∧ ∀ s r, s < 2 → r < sRc (sK A) n → ∃ c, c < sRc (sK A) n ∧ sO law A n s c ∧ gBs law A n m s r = some (c, LB A n m s c r) ∧ M 83 (81 * s + r) = nI c
theorem c_prepare (hM : cT M n m A) (hL : lT M n m A) (w : wF n m k law A) (hd : M 78 6 = 0 ∨ (M 78 6 = 1 ∧ dT M n m A)) (hb0 : ¬ sBest law A n m 0 = none) (hb1 : ¬ sBest law A n m 1 = none) : ∃ M', qD_prepare M law = some M' ∧ (∀ c, c ≠ 68 → c ≠ 73 → c ≠ 74 → c ≠ 75 → c ≠ 78 → ¬ (80 ≤ c ∧ c ≤ 83) → M' c = M c) ∧ (∃ a b, cT M' n m (tw A n a b)) ∧ pT M' law n m A := by
  have hn := w.wf.1
  have hr := wf_rows w.wf
  have h01 := w.law01
  obtain ⟨R, hRe⟩ : ∃ R, R = sRc (sK A) n := ⟨_, rfl⟩
  have hM' : cT M n m (tw A n (sRo A n 0) (sRo A n 1)) := by rw [tw_id w]; exact hM
  have hc0 := c_rowCount hM w.wf
  unfold qD_prepare
  rw [zb_ok hc0]
  rw [← hRe] at hr ⊢
  -- the tables
  have tab : ∃ M3, (if ((zw M 78 5 (nI R)) 78 6) = 0 then (zb (qD_fillTables (zw M 78 5 (nI R))) fun M4 => some (zw M4 78 6 1)) else (some (zw M 78 5 (nI R)))) = some M3 ∧ (∀ c, c ≠ 68 → c ≠ 73 → c ≠ 74 → c ≠ 75 → c ≠ 78 → ¬ (80 ≤ c ∧ c ≤ 83) → M3 c = M c) ∧ lT M3 n m A ∧ (∃ a b, cT M3 n m (tw A n a b)) ∧ dT M3 n m A ∧ M3 78 5 = nI R ∧ M3 78 6 = 1 := by
    rw [zw_other (show 6 ≠ 5 by decide)]
    have hM0 : cT (zw M 78 5 (nI R)) n m (tw A n (sRo A n 0) (sRo A n 1)) := cT_of (fun c hc => zw_ne (by omega)) hM'
    have hL0 : lT (zw M 78 5 (nI R)) n m A := lT_of (zw_ne (by decide)) (zw_ne (by decide)) hL
    rcases hd with d | ⟨d1, d2⟩
    · rw [if_pos d]
      obtain ⟨M4, g1, g2, g3, ⟨a, b, g4⟩, g5⟩ := c_fill hM0 hL0 w (by rw [zw_same, hRe])
      rw [zb_ok g1]
      refine ⟨_, rfl, fun c h1 h2 h3 h4 h5 h6 => ?_, lT_of (zw_ne (by decide)) (zw_ne (by decide)) g3, ⟨a, b, cT_of (fun c hc => zw_ne (by omega)) g4⟩, dT_eq (zw_ne (by decide)) (zw_ne (by decide)) g5, ?_, zw_same _ _ _ _⟩
      · rw [zw_ne h5, g2 c h1 h2 h3 h4 (by omega) (by omega), zw_ne h5]
      · rw [zw_other (by decide), g2 78 (by decide) (by decide) (by decide) (by decide) (by decide) (by decide), zw_same]
    · rw [d1, if_neg z10]
      exact ⟨_, rfl, fun c h1 h2 h3 h4 h5 h6 => zw_ne h5, hL0, ⟨_, _, hM0⟩, dT_eq (zw_ne (by decide)) (zw_ne (by decide)) d2, zw_same _ _ _ _, by rw [zw_other (by decide)]; exact d1⟩
  obtain ⟨M3, t1, t2, t3, t4, t5, t6, t7⟩ := tab
  rw [t1, zb_s]
  -- which rows are allowed
  have law1 : ∃ M5, zlp (qD_prepare_L29 law) zfu (0, M3) = zlp qD_prepare_L87 zfu (0, M5) ∧ (∀ c, c ≠ 68 → c ≠ 82 → M5 c = M3 c) ∧ (∃ a b, cT M5 n m (tw A n a b)) ∧ ∀ s r, s < 2 → r < R → M5 82 (81 * s + r) = pB (sO law A n s r) := by
    refine zlp_inv (b := qD_prepare_L29 law) (I := fun i v => v.1 = nI i ∧ (∀ c, c ≠ 68 → c ≠ 82 → v.2 c = M3 c) ∧ (∃ a b, cT v.2 n m (tw A n a b)) ∧ ∀ s r, s < i → r < R → v.2 82 (81 * s + r) = pB (sO law A n s r)) 2 (E := fun o => ∃ M5, o = zlp qD_prepare_L87 zfu (0, M5) ∧ (∀ c, c ≠ 68 → c ≠ 82 → M5 c = M3 c) ∧ (∃ a b, cT M5 n m (tw A n a b)) ∧ ∀ s r, s < 2 → r < R → M5 82 (81 * s + r) = pB (sO law A n s r)) (zfu_gt (by omega)) (fun i hi v hv => ?_) (fun v hv => ?_) (s := (0, M3)) ⟨rfl, fun _ _ _ => rfl, t4, fun s r h => by omega⟩
    · obtain ⟨v1, M6⟩ := v
      obtain ⟨e1, e2, ⟨a1, b1, e3⟩, e4⟩ := hv
      dsimp only at e1 e2 e3 e4
      subst e1
      have inner := zlp_fam (b := fun rc => qD_prepare_L36 (nI i) law rc) (I := fun j v => v.1 = nI j ∧ (∀ c, c ≠ 68 → c ≠ 82 → v.2 c = M3 c) ∧ (∃ a b, cT v.2 n m (tw A n a b)) ∧ (∀ s r, s < i → r < R → v.2 82 (81 * s + r) = pB (sO law A n s r)) ∧ ∀ r, r < j → v.2 82 (81 * i + r) = pB (sO law A n i r)) R (F := zfu) (zfu_gt (by omega)) (e := fun rc M' => rc (nI (i + 1), M')) (P := fun M' => (∀ c, c ≠ 68 → c ≠ 82 → M' c = M3 c) ∧ (∃ a b, cT M' n m (tw A n a b)) ∧ ∀ s r, s < i + 1 → r < R → M' 82 (81 * s + r) = pB (sO law A n s r)) (fun j hj v hv => ?_) (fun v hv => ?_) (s := (0, M6)) ⟨rfl, e2, ⟨a1, b1, e3⟩, e4, fun r h => by omega⟩
      · obtain ⟨M', ⟨f1, f2, f3⟩, f4⟩ := inner
        refine ⟨(nI (i + 1), M'), ⟨rfl, f1, f2, f3⟩, fun rc => ?_⟩
        unfold qD_prepare_L29
        simp (disch := omega) only [zn_lt2, if_pos hi]
        exact f4 rc
      · obtain ⟨v3, M16⟩ := v
        obtain ⟨d1, d2, ⟨a2, b2, d3⟩, d4, d5⟩ := hv
        dsimp only at d1 d2 d3 d4 d5
        subst d1
        have hL16 : lT M16 n m A := lT_of (d2 71 (by decide) (by decide)) (d2 72 (by decide) (by decide)) t3
        obtain ⟨M18, q1, q2, ⟨a3, b3, q3⟩, q4, q5⟩ := c_lawRow d3 hL16 w h01 hi (r := j) (by omega)
        have h78 : M16 78 5 = nI R := by rw [d2 78 (by decide) (by decide)]; exact t6
        have hx : 81 * i + j < 162 := by omega
        refine ⟨(nI (j + 1), zw M18 82 (81 * i + j) (pB (sO law A n i j))), ⟨rfl, fun c h1 h2 => ?_, ⟨a3, b3, ?_⟩, fun s r h1 h2 => ?_, fun r h1 => ?_⟩, fun g rc => ?_⟩
        · dsimp only
          rw [zw_ne h2, q5 c h1]; exact d2 c h1 h2
        · exact cT_of (fun c hc => zw_ne (by omega)) q3
        · dsimp only
          rw [zw_other (by omega), q5 82 (by decide)]; exact d4 s r h1 h2
        · dsimp only
          by_cases z : r = j
          · subst z; rw [zw_same]
          · rw [zw_other (by omega), q5 82 (by decide)]; exact d5 r (by omega)
        · unfold qD_prepare_L36
          simp (disch := omega) only [h78, zn_lt, if_pos hj, zc_m81, nI_add, nI_1, zn_cl, zq_in]
          rw [zb_ok q1, zb_ok q2, zq_b (pB_01 _)]
      · obtain ⟨v3, M16⟩ := v
        obtain ⟨d1, d2, d3, d4, d5⟩ := hv
        dsimp only at d1 d2 d3 d4 d5
        subst d1
        have h78 : M16 78 5 = nI R := by rw [d2 78 (by decide) (by decide)]; exact t6
        refine ⟨M16, ⟨d2, d3, fun s r h1 h2 => ?_⟩, fun g rc => ?_⟩
        · by_cases z : s = i
          · subst z; exact d5 r h2
          · exact d4 s r (by omega) h2
        · unfold qD_prepare_L36
          simp (disch := omega) only [h78, zn_lt, Nat.lt_irrefl, if_false, nI_1]
    · obtain ⟨v1, M6⟩ := v
      obtain ⟨e1, e2, e3, e4⟩ := hv
      dsimp only at e1 e2 e3 e4
      subst e1
      refine ⟨_, ⟨M6, rfl, e2, e3, e4⟩, fun rc => ?_⟩
      unfold qD_prepare_L29
      simp (disch := omega) only [zn_lt2, Nat.lt_irrefl, if_false]
  obtain ⟨M5, l1, l2, l3, l4⟩ := law1
  rw [l1]
  -- the answers
  have hb : ∀ s, s < 2 → ¬ sBest law A n m s = none := fun s hs => by
    rcases (show s = 0 ∨ s = 1 by omega) with rfl | rfl
    · exact hb0
    · exact hb1
  have d5' : dT M5 n m A := dT_eq (l2 80 (by decide) (by decide)) (l2 81 (by decide) (by decide)) t5
  refine zlp_inv (b := qD_prepare_L87) (I := fun i v => v.1 = nI i ∧ (∀ c, c ≠ 83 → v.2 c = M5 c) ∧ ∀ s r, s < i → r < R → ∃ c, c < R ∧ sO law A n s c ∧ gBs law A n m s r = some (c, LB A n m s c r) ∧ v.2 83 (81 * s + r) = nI c) 2 (E := fun o => ∃ M', o = some M' ∧ (∀ c, c ≠ 68 → c ≠ 73 → c ≠ 74 → c ≠ 75 → c ≠ 78 → ¬ (80 ≤ c ∧ c ≤ 83) → M' c = M c) ∧ (∃ a b, cT M' n m (tw A n a b)) ∧ pT M' law n m A) (zfu_gt (by omega)) (fun i hi v hv => ?_) (fun v hv => ?_) (s := (0, M5)) ⟨rfl, fun _ _ => rfl, fun s r h => by omega⟩
  · obtain ⟨v1, M9⟩ := v
    obtain ⟨e1, e2, e3⟩ := hv
    dsimp only at e1 e2 e3
    subst e1
    have inner := zlp_fam (b := fun rc => qD_prepare_L94 (nI i) rc) (I := fun j v => v.1 = nI j ∧ (∀ c, c ≠ 83 → v.2 c = M5 c) ∧ (∀ s r, s < i → r < R → ∃ c, c < R ∧ sO law A n s c ∧ gBs law A n m s r = some (c, LB A n m s c r) ∧ v.2 83 (81 * s + r) = nI c) ∧ ∀ r, r < j → ∃ c, c < R ∧ sO law A n i c ∧ gBs law A n m i r = some (c, LB A n m i c r) ∧ v.2 83 (81 * i + r) = nI c) R (F := zfu) (zfu_gt (by omega)) (e := fun rc M' => rc (nI (i + 1), M')) (P := fun M' => (∀ c, c ≠ 83 → M' c = M5 c) ∧ ∀ s r, s < i + 1 → r < R → ∃ c, c < R ∧ sO law A n s c ∧ gBs law A n m s r = some (c, LB A n m s c r) ∧ M' 83 (81 * s + r) = nI c) (fun j hj v hv => ?_) (fun v hv => ?_) (s := (0, M9)) ⟨rfl, e2, e3, fun r h => by omega⟩
    · obtain ⟨M', ⟨f1, f2⟩, f3⟩ := inner
      refine ⟨(nI (i + 1), M'), ⟨rfl, f1, f2⟩, fun rc => ?_⟩
      unfold qD_prepare_L87
      simp (disch := omega) only [zn_lt2, if_pos hi]
      exact f3 rc
    · obtain ⟨v3, M12⟩ := v
      obtain ⟨d1, d2, d3, d4⟩ := hv
      dsimp only at d1 d2 d3 d4
      subst d1
      have h78 : M12 78 5 = nI R := by rw [d2 78 (by decide), l2 78 (by decide) (by decide)]; exact t6
      obtain ⟨c, g1, g2, g3⟩ := gBs_some w h01 (hb i hi) j
      have hba := c_bestAgainst (M := M12) (dT_eq (d2 80 (by decide)) (d2 81 (by decide)) d5') w hi (oth := j) (by omega) (by rw [← hRe]; exact h78) (fun r hr => by rw [d2 82 (by decide)]; exact l4 i r hi (by omega)) g1
      have hx : 81 * i + j < 162 := by omega
      refine ⟨(nI (j + 1), zw M12 83 (81 * i + j) (nI c)), ⟨rfl, fun c h1 => ?_, fun s r h1 h2 => ?_, fun r h1 => ?_⟩, fun g rc => ?_⟩
      · dsimp only
        rw [zw_ne h1]; exact d2 c h1
      · obtain ⟨c', y1, y2, y3, y4⟩ := d3 s r h1 h2
        exact ⟨c', y1, y2, y3, by dsimp only; rw [zw_other (by omega)]; exact y4⟩
      · by_cases z : r = j
        · subst z
          exact ⟨c, by omega, g3, g1, by dsimp only; rw [zw_same]⟩
        · obtain ⟨c', y1, y2, y3, y4⟩ := d4 r (by omega)
          exact ⟨c', y1, y2, y3, by dsimp only; rw [zw_other (by omega)]; exact y4⟩
      · unfold qD_prepare_L94
        simp (disch := omega) only [h78, zn_lt, if_pos hj, zc_m81, nI_add, nI_1, zn_cl, zq_in]
        rw [zb_ok hba]
    · obtain ⟨v3, M12⟩ := v
      obtain ⟨d1, d2, d3, d4⟩ := hv
      dsimp only at d1 d2 d3 d4
      subst d1
      have h78 : M12 78 5 = nI R := by rw [d2 78 (by decide), l2 78 (by decide) (by decide)]; exact t6
      refine ⟨M12, ⟨d2, fun s r h1 h2 => ?_⟩, fun g rc => ?_⟩
      · by_cases z : s = i
        · subst z; exact d4 r h2
        · exact d3 s r (by omega) h2
      · unfold qD_prepare_L94
        simp (disch := omega) only [h78, zn_lt, Nat.lt_irrefl, if_false, nI_1]
  · obtain ⟨v1, M9⟩ := v
    obtain ⟨e1, e2, e3⟩ := hv
    dsimp only at e1 e2 e3
    subst e1
    obtain ⟨a3, b3, l3⟩ := l3
    refine ⟨_, ⟨M9, rfl, fun c h1 h2 h3 h4 h5 h6 => ?_, ⟨a3, b3, cT_of (fun c hc => e2 c (by omega)) l3⟩, ?_, ?_, dT_eq (e2 80 (by decide)) (e2 81 (by decide)) d5', fun s r h1 h2 => ?_, fun s r h1 h2 => ?_⟩, fun rc => ?_⟩
    · rw [e2 c (by omega), l2 c h1 (by omega)]; exact t2 c h1 h2 h3 h4 h5 h6
    · rw [e2 78 (by decide), l2 78 (by decide) (by decide), ← hRe]; exact t6
    · rw [e2 78 (by decide), l2 78 (by decide) (by decide)]; exact t7
    · rw [e2 82 (by decide)]; exact l4 s r h1 (by omega)
    · obtain ⟨c, y1, y2, y3, y4⟩ := e3 s r h1 (by omega)
      exact ⟨c, by omega, y2, y3, y4⟩
    · unfold qD_prepare_L87
      simp (disch := omega) only [zn_lt2, Nat.lt_irrefl, if_false]
/-! rests -/
def rP (law : Int32) (A : zM) (n m a b : Nat) : Prop := (sO law A n 0 a ∧ sO law A n 1 b) ∧ ∀ r, r < sRc (sK A) n → (sO law A n 0 r → ¬ LB A n m 0 a b < LB A n m 0 r b) ∧ (sO law A n 1 r → ¬ LB A n m 1 b a < LB A n m 1 r a)
theorem c_could (hp : pT M law n m A) (w : wF n m k law A) (hs : s < 2) {own oth : Nat} (h1 : own < sRc (sK A) n) (h2 : oth < sRc (sK A) n) : ∃ P : Prop, qD_couldHaveMore M (nI s) (nI own) (nI oth) = some (pB P) ∧ (¬ P ↔ ∀ r, r < sRc (sK A) n → sO law A n s r → ¬ LB A n m s own oth < LB A n m s r oth) ∧ ∀ c x, gBs law A n m s oth = some (c, x) → (P ↔ LB A n m s own oth < LB A n m s c oth) := by
  obtain ⟨p1, p2, p3, p4, p5⟩ := hp
  obtain ⟨c, c1, c2, c3, c4⟩ := p5 s oth hs h2
  have hr := wf_rows w.wf
  refine ⟨LB A n m s own oth < LB A n m s c oth, ?_, ⟨fun h r hr ho q => ?_, fun h q => h c c1 c2 q⟩, fun c' x' h => by rw [c3] at h; cases h; exact Iff.rfl⟩
  · unfold qD_couldHaveMore
    simp (disch := omega) only [zc_m81, nI_add, zn_cl, zq_in, c4]
    rw [zb_ok (c_leftBy p3 w hs c1 h2), zb_ok (c_leftBy p3 w hs h1 h2)]
    by_cases z : LB A n m s own oth < LB A n m s c oth
    · rw [if_pos z, pB_t z]
    · rw [if_neg z, pB_f z]
  · have hmx := sBs_max c3 r hr ho
    exact h (Int32.lt_of_lt_of_le q (Int32.not_lt.mp hmx))
theorem c_isRest (hp : pT M law n m A) (w : wF n m k law A) (ha : a < sRc (sK A) n) (hb : b < sRc (sK A) n) : qD_isRest M (nI a) (nI b) = some (pB (rP law A n m a b)) := by
  have hr := wf_rows w.wf
  have l0 := hp.2.2.2.1 0 a (by omega) ha
  have l1 := hp.2.2.2.1 1 b (by omega) hb
  rw [show 81 * 0 + a = a by omega] at l0
  rw [show 81 * 1 + b = 81 + b by omega] at l1
  obtain ⟨P0, x1, x2, -⟩ := c_could (s := 0) hp w (by omega) ha hb
  obtain ⟨P1, y1, y2, -⟩ := c_could (s := 1) hp w (by omega) hb ha
  have x1' : qD_couldHaveMore M 0 (nI a) (nI b) = some (pB P0) := x1
  have y1' : qD_couldHaveMore M 1 (nI b) (nI a) = some (pB P1) := y1
  have e81 : (81 : Int32) + nI b = nI (81 + b) := nI_add 81 b
  unfold qD_isRest
  rw [e81]
  simp (disch := omega) only [zn_cl, zq_in, l0, l1]
  by_cases o0 : sO law A n 0 a
  · rw [pB_t o0, if_neg z10]
    by_cases o1 : sO law A n 1 b
    · rw [pB_t o1, if_neg z10, zb_ok x1']
      by_cases z0 : P0
      · rw [pB_t z0, if_neg z10, pB_f (fun h => (x2.mpr (fun r hr => (h.2 r hr).1)) z0)]
      · rw [pB_f z0, if_pos rfl, zb_ok y1']
        by_cases z1 : P1
        · rw [pB_t z1, if_neg z10, pB_f (fun h => (y2.mpr (fun r hr => (h.2 r hr).2)) z1)]
        · rw [pB_f z1, if_pos rfl, pB_t]
          exact ⟨⟨o0, o1⟩, fun r hr => ⟨x2.mp z0 r hr, y2.mp z1 r hr⟩⟩
    · rw [pB_f o1, if_pos rfl, pB_f (fun h => o1 h.1.2)]
  · rw [pB_f o0, if_pos rfl, pB_f (fun h => o0 h.1.1)]
end ZDuel2
