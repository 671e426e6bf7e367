section ZMost
variable {M : zM} {n m k : Nat} {law : Int32} {A A' : zM} {q s t : Nat}
theorem cT_of {M' : zM} (h : ∀ c, c = 63 ∨ (10 ≤ c ∧ c ≤ 17) ∨ (64 ≤ c ∧ c ≤ 69) → M' c = M c) (hM : cT M n m A) : cT M' n m A := by
  unfold cT at *
  simp only [h 63 (by omega), h 10 (by omega), h 64 (by omega), h 65 (by omega), h 66 (by omega), h 67 (by omega), h 68 (by omega), h 69 (by omega), h 11 (by omega), h 12 (by omega), h 13 (by omega), h 15 (by omega), h 16 (by omega), h 17 (by omega)]
  exact hM
theorem lT_of {M' : zM} (h71 : M' 71 = M 71) (h72 : M' 72 = M 72) (hL : lT M n m A) : lT M' n m A := by
  intro q s t k k' a1 a2 a3 a4 a5 a6
  have := hL q s t k k' a1 a2 a3 a4 a5 a6
  unfold lT1 at *
  rw [h71, h72]
  exact this
/-- the greatest of those allowed -/
noncomputable def vB (ok : Nat → Prop) (L : Nat → Int32) : Nat → Int32
  | 0 => 0
  | i + 1 => @ite _ (ok i) (Classical.propDecidable _) (@ite _ (∃ r, r < i ∧ ok r) (Classical.propDecidable _) (if vB ok L i < L i then L i else vB ok L i) (L i)) (vB ok L i)
theorem vB_s (ok : Nat → Prop) (L : Nat → Int32) (i : Nat) : vB ok L (i + 1) = @ite _ (ok i) (Classical.propDecidable _) (@ite _ (∃ r, r < i ∧ ok r) (Classical.propDecidable _) (if vB ok L i < L i then L i else vB ok L i) (L i)) (vB ok L i) := rfl
theorem vB_bd {ok : Nat → Prop} {L : Nat → Int32} {b : Nat} (h : ∀ i, sB b (L i)) : ∀ i, sB b (vB ok L i)
  | 0 => bd_0 b
  | i + 1 => by
    have ih := vB_bd (ok := ok) h i
    rw [vB_s]
    split
    · split
      · split
        · exact h i
        · exact ih
      · exact h i
    · exact ih
noncomputable def sLq (A : zM) (n s q r : Nat) : Int32 := sBr (zA A 4 (sLay A n s r)) n q s
theorem any_s {ok : Nat → Prop} {i : Nat} (c : ok i) : ∃ r, r < i + 1 ∧ ok r := ⟨i, by omega, c⟩
theorem any_n {ok : Nat → Prop} {i : Nat} (c : ¬ ok i) : (∃ r, r < i + 1 ∧ ok r) = (∃ r, r < i ∧ ok r) := propext ⟨fun ⟨r, h1, h2⟩ => ⟨r, by
    by_cases z : r = i
    · subst z; exact absurd h2 c
    · omega, h2⟩, fun ⟨r, h1, h2⟩ => ⟨r, by omega, h2⟩⟩
/-- what each sort brings alone -/
theorem c_raise (hM : cT M n m A) (hL : lT M n m A) (hW : sWF n m A) (hs : s < 2) (first : Int32) : ∃ M', qP_raiseAlone M (nI s) first = some M' ∧ (∀ c, c ≠ 73 → c ≠ 74 → c ≠ 77 → M' c = M c) ∧ ∀ q, q < m → M' 77 q = if first = 0 then (if M 77 q < sBr A n q s then sBr A n q s else M 77 q) else sBr A n q s := by
  have w2 := hW.2.1
  unfold qP_raiseAlone
  refine zlp_inv (b := qP_raiseAlone_L2 (nI s) first) (I := fun i v => v.1 = nI i ∧ (∀ c, c ≠ 73 → c ≠ 74 → c ≠ 77 → v.2 c = M c) ∧ (∀ q, q < i → v.2 77 q = if first = 0 then (if M 77 q < sBr A n q s then sBr A n q s else M 77 q) else sBr A n q s) ∧ ∀ q, i ≤ q → v.2 77 q = M 77 q) m (E := fun o => ∃ M', o = some M' ∧ (∀ c, c ≠ 73 → c ≠ 74 → c ≠ 77 → M' c = M c) ∧ ∀ q, q < m → M' 77 q = if first = 0 then (if M 77 q < sBr A n q s then sBr A n q s else M 77 q) else sBr A n q s) (zfu_gt (by omega)) (fun i hi v hv => ?_) (fun v hv => ?_) (s := (0, M)) ⟨rfl, fun _ _ _ _ => rfl, fun q h => by omega, fun _ _ => rfl⟩
  · obtain ⟨v1, M2⟩ := v
    obtain ⟨e1, e2, e3, e4⟩ := hv
    dsimp only at e1 e2 e3 e4
    subst e1
    have hM2 : cT M2 n m A := cT_of (fun c hc => e2 c (by omega) (by omega) (by omega)) hM
    have hL2 : lT M2 n m A := lT_of (e2 71 (by decide) (by decide) (by decide)) (e2 72 (by decide) (by decide) (by decide)) hL
    obtain ⟨M5, g1, g2, g3⟩ := c_send hM2 hL2 hW hi
    have hM5 := cT_wk g2 hM2
    have h77 : M5 77 i = M 77 i := by rw [g2 77 (by decide) (by decide)]; exact e4 i (Nat.le_refl _)
    refine ⟨(nI (i + 1), zw M5 77 i (if first = 0 then (if M 77 i < sBr A n i s then sBr A n i s else M 77 i) else sBr A n i s)), ⟨rfl, fun c a b d => ?_, fun q hq => ?_, fun q hq => ?_⟩, fun rc => ?_⟩
    · show zw M5 77 i _ c = _
      rw [zw_ne d, g2 c a b]; exact e2 c a b d
    · show zw M5 77 i _ 77 q = _
      by_cases z : q = i
      · subst z; rw [zw_same]
      · rw [zw_other z, g2 77 (by decide) (by decide)]; exact e3 q (by omega)
    · show zw M5 77 i _ 77 q = _
      rw [zw_other (by omega), g2 77 (by decide) (by decide)]; exact e4 q (by omega)
    · unfold qP_raiseAlone_L2
      simp (disch := omega) only [hM2.2.1, zn_lt, if_pos hi, nI_1, zn_cl, zq_in]
      rw [zb2_ok g1, zb_ok (c_brought hM5 hW g3 hi hs), h77]
      by_cases c : first = 0
      · rw [if_pos c, if_pos c]
      · rw [if_neg c, if_neg c]
  · obtain ⟨v1, M2⟩ := v
    obtain ⟨e1, e2, e3, e4⟩ := hv
    dsimp only at e1 e2 e3 e4
    subst e1
    have hM2 : cT M2 n m A := cT_of (fun c hc => e2 c (by omega) (by omega) (by omega)) hM
    refine ⟨_, ⟨M2, rfl, e2, e3⟩, fun rc => ?_⟩
    unfold qP_raiseAlone_L2
    simp (disch := omega) only [hM2.2.1, zn_lt, Nat.lt_irrefl, if_false]
theorem c_boundOf (hM : cT M n m A) (hL : lT M n m A) (hW : sWF n m A) (hs : s < 2) (law : Int32) (hany : ∃ r, r < sRc (sK A) n ∧ sO law A n s r) : ∃ M', qP_boundOf M (nI s) law = some (sSum (fun q => vB (sO law A n s) (sLq A n s q) (sRc (sK A) n)) m, M') ∧ (∀ c, c ≠ 68 → c ≠ 73 → c ≠ 74 → c ≠ 77 → M' c = M c) ∧ ∃ f, cT M' n m (zA A 4 f) ∧ sE A (zA A 4 f) n s := by
  have hrows := wf_rows hW
  have hm := hW.2.1
  unfold qP_boundOf
  rw [zb_ok (c_rowCount hM hW)]
  refine zlp_inv (b := qP_boundOf_L14 (nI (sRc (sK A) n)) (nI s) law) (I := fun i v => v.1 = pB (∃ r, r < i ∧ sO law A n s r) ∧ v.2.1 = nI i ∧ (∀ c, c ≠ 68 → c ≠ 73 → c ≠ 74 → c ≠ 77 → v.2.2 c = M c) ∧ ((∃ r, r < i ∧ sO law A n s r) → ∀ q, q < m → v.2.2 77 q = vB (sO law A n s) (sLq A n s q) i) ∧ ∃ f, cT v.2.2 n m (zA A 4 f) ∧ lT v.2.2 n m (zA A 4 f) ∧ sWF n m (zA A 4 f) ∧ sE A (zA A 4 f) n s) (sRc (sK A) n) (E := fun o => ∃ M', o = some (sSum (fun q => vB (sO law A n s) (sLq A n s q) (sRc (sK A) n)) m, M') ∧ (∀ c, c ≠ 68 → c ≠ 73 → c ≠ 74 → c ≠ 77 → M' c = M c) ∧ ∃ f, cT M' n m (zA A 4 f) ∧ sE A (zA A 4 f) n s) (zfu_gt (by omega)) (fun i hi v hv => ?_) (fun v hv => ?_) (s := (0, 0, M)) ⟨(by rw [pB_f (fun h => by obtain ⟨r, h, -⟩ := h; omega)]), rfl, fun _ _ _ _ _ => rfl, (fun h => by obtain ⟨r, h, -⟩ := h; omega), A 4, by rw [zA_id rfl]; exact hM, by rw [zA_id rfl]; exact hL, by rw [zA_id rfl]; exact hW, by rw [zA_id rfl]; exact sE.rf A⟩
  · obtain ⟨v1, v2, M4⟩ := v
    obtain ⟨e1, e2, e3, e4, f, e5, e6, e7, e8⟩ := hv
    dsimp only at e1 e2 e3 e4 e5 e6
    subst e1 e2
    obtain ⟨M9, g1, g2, g3⟩ := c_putRow e5 e7 hs i (by omega)
    rw [sE_lay e8] at g3
    have hM9 : cT M9 n m (zA A 4 (sLay A n s i)) := by
      have := cT_lay g2 g3 e5
      rw [zA_zA] at this
      exact this
    have hL9 : lT M9 n m (zA A 4 (sLay A n s i)) := by
      have := lT_lay (f := sLay A n s i) g2 e6
      rw [zA_zA] at this
      exact this
    have hW9 := wf_lay hW i hs
    have hE9 : sE A (zA A 4 (sLay A n s i)) n s := ⟨fun c hc => zA_ne hc, fun j hj => by
      rw [zA_self]; unfold sLay; rw [if_neg hj]⟩
    have hlaw := c_isLawful hM9 hW9 hs law
    by_cases c : sO law A n s i
    · have hp : pB (sOk law (zA A 4 (sLay A n s i)) n s) = 1 := pB_t c
      obtain ⟨M12, r1, r2, r3⟩ := c_raise hM9 hL9 hW9 hs (if pB (∃ r, r < i ∧ sO law A n s r) = 0 then 1 else 0)
      refine ⟨(1, nI (i + 1), M12), ⟨(pB_t (any_s c)).symm, rfl, fun c a1 a2 a3 a4 => (r2 c a2 a3 a4).trans ((g2 c a1).trans (e3 c a1 a2 a3 a4)), fun _ q hq => ?_, sLay A n s i, cT_of (fun c hc => r2 c (by omega) (by omega) (by omega)) hM9, lT_of (r2 71 (by decide) (by decide) (by decide)) (r2 72 (by decide) (by decide) (by decide)) hL9, hW9, hE9⟩, fun rc => ?_⟩
      · show M12 77 q = _
        rw [r3 q hq, vB_s, if_pos c]
        have hsl : sBr (zA A 4 (sLay A n s i)) n q s = sLq A n s q i := rfl
        rw [hsl]
        by_cases z : ∃ r, r < i ∧ sO law A n s r
        · have e77 : M9 77 q = vB (sO law A n s) (sLq A n s q) i := by rw [g2 77 (by decide)]; exact e4 z q hq
          rw [pB_t z, if_neg z10, if_pos rfl, if_pos z, e77]
        · rw [pB_f z, if_pos rfl, if_neg z10, if_neg z]
      · unfold qP_boundOf_L14
        simp (disch := omega) only [zn_lt, if_pos hi, nI_1]
        rw [zb_ok g1, zb_ok hlaw, hp, if_neg z10, zb_ok r1]
    · have hp : pB (sOk law (zA A 4 (sLay A n s i)) n s) = 0 := pB_f c
      refine ⟨(pB (∃ r, r < i ∧ sO law A n s r), nI (i + 1), M9), ⟨by rw [any_n c], rfl, fun c a1 a2 a3 a4 => (g2 c a1).trans (e3 c a1 a2 a3 a4), fun h q hq => ?_, sLay A n s i, hM9, hL9, hW9, hE9⟩, fun rc => ?_⟩
      · show M9 77 q = _
        rw [any_n c] at h
        rw [vB_s, if_neg c, g2 77 (by decide)]
        exact e4 h q hq
      · unfold qP_boundOf_L14
        simp (disch := omega) only [zn_lt, if_pos hi, nI_1]
        rw [zb_ok g1, zb_ok hlaw, hp, if_pos rfl]
  · obtain ⟨v1, v2, M4⟩ := v
    obtain ⟨e1, e2, e3, e4, f, e5, e6, e7, e8⟩ := hv
    dsimp only at e1 e2 e3 e4 e5 e6
    subst e1 e2
    refine ⟨_, ⟨M4, rfl, e3, f, e5, e8⟩, fun rc => ?_⟩
    unfold qP_boundOf_L14
    simp (disch := omega) only [zn_lt, Nat.lt_irrefl, if_false]
    refine zlp_run (b := qP_boundOf_L72 M4 (pB (∃ r, r < sRc (sK A) n ∧ sO law A n s r))) (s := fun i => (sSum (fun q => vB (sO law A n s) (sLq A n s q) (sRc (sK A) n)) i, nI i)) m (zfu_gt (by omega)) (fun i hi rc => ?_) (fun rc => ?_)
    · unfold qP_boundOf_L72
      simp (disch := omega) only [e5.2.1, zn_lt, if_pos hi, nI_1, zn_cl, zq_in]
      rw [pB_t hany, if_neg z10, e4 hany i hi]
      rfl
    · unfold qP_boundOf_L72
      simp (disch := omega) only [e5.2.1, zn_lt, Nat.lt_irrefl, if_false]
def lSum (f : Nat → Int32) : Nat → Int64
  | 0 => 0
  | n + 1 => lSum f n + (f n).toInt64
theorem l_add {x w : Int32} {a b : Nat} (hx : sB a x) (hw : sB b w) (h : a + b < 2147483648) : x.toInt64 + w.toInt64 = (x + w).toInt64 := by
  apply Int64.toInt_inj.mp
  have h1 := (bd_add hx hw h).2
  obtain ⟨x1, x2⟩ := hx
  obtain ⟨w1, w2⟩ := hw
  rw [Int64.toInt_add, Int32.toInt_toInt64, Int32.toInt_toInt64, Int32.toInt_toInt64, h1]
  exact Int.bmod_eq_of_le (by omega) (by omega)
theorem lm_sum {b : Nat} {f : Nat → Int32} (h : ∀ i, sB b (f i)) : ∀ n, n * b < 2147483648 → lSum f n = (sSum f n).toInt64
  | 0, _ => rfl
  | n + 1, hb => by
    have e : (n + 1) * b = n * b + b := by rw [Nat.add_mul, Nat.one_mul]
    rw [e] at hb
    show lSum f n + (f n).toInt64 = (sSum f n + f n).toInt64
    rw [lm_sum h n (by omega), l_add (bd_sum (fun i _ => h i) (by omega)) (h n) (by omega)]
theorem m_boundOf (hM : mT M n m A) (hW : sWF n m A) (hs : s < 2) {law : Int32} (hlaw : M 86 18 = law) (h01 : law = 0 ∨ law = 1) : qM_boundOf M (nI s) = some (lSum (fun q => vB (sO law A n s) (sLq A n s q) (sRc (sK A) n)) m, M) := by
  have hrows := wf_rows hW
  have hm := hW.2.1
  unfold qM_boundOf
  rw [zb_ok (m_rowOf hM hW hs), zb_ok (m_rows hM hW)]
  refine zlp_inv (b := qM_boundOf_L17 (nI (sRc (sK A) n)) (nI s) (nI (sRw (sK A) (sAt A s) n))) (I := fun j v => v.1 = lSum (fun q => vB (sO law A n s) (sLq A n s q) (sRc (sK A) n)) j ∧ v.2.1 = nI j ∧ (∀ c, c ≠ 89 → v.2.2 c = M c) ∧ ∃ f, v.2.2 89 = f ∧ sWF n m (zA A 4 f) ∧ sE A (zA A 4 f) n s) m (E := fun o => o = some (lSum (fun q => vB (sO law A n s) (sLq A n s q) (sRc (sK A) n)) m, M)) (zfu_gt (by omega)) (fun j hj v hv => ?_) (fun v hv => ?_) (s := (0, 0, M)) ⟨rfl, rfl, fun _ _ => rfl, A 4, hM.2.2.2.2.2.2.1, by rw [zA_id rfl]; exact hW, by rw [zA_id rfl]; exact sE.rf A⟩
  · obtain ⟨v1, v2, M5⟩ := v
    obtain ⟨d1, d2, d3, f, d4, d5, d6⟩ := hv
    dsimp only at d1 d2 d3 d4
    subst d1 d2
    have inner := zlp_fam (b := fun rc => qM_boundOf_L35 (nI (sRc (sK A) n)) (nI s) (nI j) rc (lSum (fun q => vB (sO law A n s) (sLq A n s q) (sRc (sK A) n)) j)) (I := fun i v => v.1 = pB (∃ r, r < i ∧ sO law A n s r) ∧ v.2.1 = vB (sO law A n s) (sLq A n s j) i ∧ v.2.2.1 = nI i ∧ (∀ c, c ≠ 89 → v.2.2.2 c = M c) ∧ ∃ f, v.2.2.2 89 = f ∧ sWF n m (zA A 4 f) ∧ sE A (zA A 4 f) n s) (sRc (sK A) n) (F := zfu) (zfu_gt (by omega)) (e := fun rc M' => rc (lSum (fun q => vB (sO law A n s) (sLq A n s q) (sRc (sK A) n)) (j + 1), nI (j + 1), M')) (P := fun M' => (∀ c, c ≠ 89 → M' c = M c) ∧ ∃ f, M' 89 = f ∧ sWF n m (zA A 4 f) ∧ sE A (zA A 4 f) n s) (fun i hi v hv => ?_) (fun v hv => ?_) (s := (0, 0, 0, M5)) ⟨(by rw [pB_f (fun h => by obtain ⟨r, h, -⟩ := h; omega)]), rfl, rfl, d3, f, d4, d5, d6⟩
    · obtain ⟨M', ⟨h1, h2⟩, h3⟩ := inner
      refine ⟨(lSum (fun q => vB (sO law A n s) (sLq A n s q) (sRc (sK A) n)) (j + 1), nI (j + 1), M'), ⟨rfl, rfl, h1, h2⟩, fun rc => ?_⟩
      unfold qM_boundOf_L17
      have h14 : M5 86 14 = nI m := by rw [d3 86 (by decide)]; exact hM.2.1
      simp (disch := omega) only [h14, zn_lt, if_pos hj]
      exact h3 rc
    · obtain ⟨v7, v8, v9, M11⟩ := v
      obtain ⟨e1, e2, e3, e4, f, e5, e6, e7⟩ := hv
      dsimp only at e1 e2 e3 e4 e5
      subst e1 e2 e3
      have hM11 : mT M11 n m (zA A 4 f) := mT_lay e4 e5 hM
      obtain ⟨M13, g1, g2, g3⟩ := m_lay hM11 e6 hs i (by omega)
      rw [sE_lay e7] at g3
      have f13 : ∀ c, c ≠ 89 → M13 c = M c := fun c hc => (g2 c hc).trans (e4 c hc)
      have hM13 : mT M13 n m (zA A 4 (sLay A n s i)) := mT_lay f13 g3 hM
      have hW13 := wf_lay hW i hs
      have hE13 : sE A (zA A 4 (sLay A n s i)) n s := ⟨fun c hc => zA_ne hc, fun j hj => by
        rw [zA_self]; unfold sLay; rw [if_neg hj]⟩
      have ha := m_isAllowed hM13 hW13 hs (law := law) (by rw [f13 86 (by decide)]; exact hlaw) h01
      have hbr : qM_broughtBy M13 (nI j) (nI s) = some (sLq A n s j i) := m_broughtBy hM13 hW13 hj hs
      by_cases c : sO law A n s i
      · have hp : pB (sOk law (zA A 4 (sLay A n s i)) n s) = 1 := pB_t c
        refine ⟨(1, vB (sO law A n s) (sLq A n s j) (i + 1), nI (i + 1), M13), ⟨(pB_t (any_s c)).symm, rfl, rfl, f13, sLay A n s i, g3, hW13, hE13⟩, fun g rc => ?_⟩
        unfold qM_boundOf_L35
        simp (disch := omega) only [zn_lt, if_pos hi, nI_1]
        rw [zb_ok g1, zb_ok ha, hp, if_neg z10, zb_ok hbr, vB_s, if_pos c]
        by_cases z : ∃ r, r < i ∧ sO law A n s r
        · rw [pB_t z, if_neg z10, if_pos z]
          by_cases y : vB (sO law A n s) (sLq A n s j) i < sLq A n s j i
          · rw [if_pos y, if_pos y]
          · rw [if_neg y, if_neg y]
        · rw [pB_f z, if_pos rfl, if_neg z]
      · have hp : pB (sOk law (zA A 4 (sLay A n s i)) n s) = 0 := pB_f c
        refine ⟨(pB (∃ r, r < i ∧ sO law A n s r), vB (sO law A n s) (sLq A n s j) i, nI (i + 1), M13), ⟨by rw [any_n c], by rw [vB_s, if_neg c], rfl, f13, sLay A n s i, g3, hW13, hE13⟩, fun g rc => ?_⟩
        unfold qM_boundOf_L35
        simp (disch := omega) only [zn_lt, if_pos hi, nI_1]
        rw [zb_ok g1, zb_ok ha, hp, if_pos rfl]
    · obtain ⟨v7, v8, v9, M11⟩ := v
      obtain ⟨e1, e2, e3, e4, f, e5, e6, e7⟩ := hv
      dsimp only at e1 e2 e3 e4 e5
      subst e1 e2 e3
      refine ⟨M11, ⟨e4, f, e5, e6, e7⟩, fun g rc => ?_⟩
      unfold qM_boundOf_L35
      simp (disch := omega) only [zn_lt, Nat.lt_irrefl, if_false, nI_1]
      rfl
  · obtain ⟨v1, v2, M5⟩ := v
    obtain ⟨d1, d2, d3, f, d4, d5, d6⟩ := hv
    dsimp only at d1 d2 d3 d4
    subst d1 d2
    refine ⟨_, rfl, fun rc => ?_⟩
    have h14 : M5 86 14 = nI m := by rw [d3 86 (by decide)]; exact hM.2.1
    unfold qM_boundOf_L17
    simp (disch := omega) only [h14, zn_lt, Nat.lt_irrefl, if_false]
    rw [m_back hM hW hs d3 d4 d5 (fun r => sE_lay d6 r), zb_s]
theorem k_most (hI : zI M) (v b : Int32) : ∃ x M1 M2, qS_most M v b = some (x, M1) ∧ qM_most M1 v b = some (x, M2) ∧ zI M2 := by
  obtain ⟨n, m, k, law, A, hI⟩ := hI
  have hn := hI.n4
  have hm := hI.m5
  have hin : qM_in b.toInt64 0 2 = _ := m_in (v := b) (lo := 0) (hi := 2) (L := 0) (H := 2) rfl rfl
  unfold qS_most qM_most
  rw [zb_ok c_noShop]
  by_cases c : sIn 0 1 v
  · rw [if_pos c, if_pos rfl, zb_ok c_out]
    by_cases c2 : sIn 0 2 b
    · rw [if_pos c2, if_pos rfl]
      obtain ⟨s, hs, rfl⟩ := sIn_n (h := 1) (by omega) c
      have hs2 : s < 2 := by omega
      rw [hI.l2, zb_ok (c_forbids hI hs2 hI.w.law01)]
      by_cases hb : sBest law A n m s = none
      · rw [pB_t hb, if_neg z10]
        obtain ⟨M3, g1, g2, g3⟩ := m_bestOf hI.m.t hI.w.wf hs2 hI.m.l hI.w.law01
        refine ⟨_, _, M3, rfl, ?_, (zIn_19 hI g2).z⟩
        rw [zb_ok m_isShop, if_pos c, if_neg z10, zb_ok hin, if_pos c2, if_neg z10, zb2_ok g1, hb, if_pos (show bV none < 0 by decide)]
      · rw [pB_f hb, if_pos rfl]
        obtain ⟨r0, x, hbx, hbl, hbo, hxl⟩ := best_some hb
        have hr := wf_rows hI.w.wf
        have hnn : ¬ bV (some (r0, x)) < 0 := nI_nn r0 (by omega)
        obtain ⟨M1, g1, g2, g3, g4, g5⟩ := c_look hI
        have hI1 := zIn_look hI g2 g5
        rw [zb_ok g1, hI1.l2]
        obtain ⟨w, hw, rfl⟩ := sIn_n (h := 2) (by omega) c2
        rcases (show w = 0 ∨ w = 1 ∨ w = 2 by omega) with rfl | rfl | rfl
        · simp only [zlj_u]
          rw [if_neg (show ¬ nI 0 = 2 by decide), if_pos (show nI 0 = 0 from rfl)]
          obtain ⟨M2, e1, e2⟩ := c_bestRow g3 g4 hI.w.wf hs2 law
          have hc2 := cT_wk e2 g3
          have hl2 := lT_wk e2 g4
          rw [zb2_ok e1, hbx, show bV (some (r0, x)) = nI r0 from rfl]
          obtain ⟨M6, p1, p2, p3⟩ := c_putRow hc2 hI.w.wf hs2 r0 (by omega)
          have hc6 := cT_lay p2 p3 hc2
          have hl6 := lT_lay (f := sLay A n s r0) p2 hl2
          have hW6 := wf_lay hI.w.wf r0 hs2
          obtain ⟨M7, f1, f2⟩ := c_leftOf hc6 hl6 hW6 hs2
          rw [zb_ok p1, zb2_ok f1]
          have hI7 : zIn M7 n m k law A := zIn_t hI ((cf_look g2).tr ((cf_wk e2).tr ((cf_68 p2).tr (cf_wk f2)))) (cT_wk f2 hc6) (az_lay (az_of hI) hn hs2 r0)
          obtain ⟨M3, d1, d2, d3⟩ := m_bestOf hI7.m.t hI7.w.wf hs2 hI7.m.l hI7.w.law01
          refine ⟨_, _, M3, rfl, ?_, (zIn_19 hI7 d2).z⟩
          rw [zb_ok m_isShop, if_pos c, if_neg z10, zb_ok hin, if_pos c2, if_neg z10, zb2_ok d1, hbx, if_neg hnn, if_pos (show nI 0 = 0 from rfl), d3 r0 x hbx, hxl]
          rfl
        · simp only [zlj_u]
          rw [if_neg (show ¬ nI 1 = 2 by decide), if_neg (show ¬ nI 1 = 0 by decide)]
          obtain ⟨B, b1, b2, b3, b4⟩ := climb_all hI.w law hs2
          obtain ⟨M4, f1, f2, f3, f4⟩ := b3 M1 g3 g4
          have hro := sRo_lt b1.wf hs2
          have hrB := wf_rows b1.wf
          obtain ⟨M6, p1, p2, p3⟩ := c_putRow f2 b1.wf hs2 (sRo B n s) (by omega)
          have e0 : sLay B n s (sRo B n s) = B 4 := sLay_id b1.wf hs2
          rw [e0] at p3
          have hc6 : cT M6 n m B := by
            have := cT_lay p2 p3 f2
            rw [zA_id rfl] at this
            exact this
          have hl6 : lT M6 n m B := by
            have := lT_lay (f := B 4) p2 f3
            rw [zA_id rfl] at this
            exact this
          obtain ⟨M7, h1, h2⟩ := c_leftOf hc6 hl6 b1.wf hs2
          rw [zb2_ok f1, zb_ok p1, zb2_ok h1]
          have hI7 : zIn M7 n m k law A := zIn_t hI ((cf_look g2).tr ((cf_ck f4).tr ((cf_68 p2).tr (cf_wk h2)))) (cT_wk h2 hc6) (az_sE (az_of hI) b2 hn hs2)
          obtain ⟨M3, d1, d2, d3⟩ := m_bestOf hI7.m.t hI7.w.wf hs2 hI7.m.l hI7.w.law01
          have hI3 := zIn_19 hI7 d2
          obtain ⟨M8, q1, q2, q3⟩ := b4 M3 hI3.m.t hI3.m.l
          have hback := m_back hI3.m.t hI3.w.wf hs2 q3 q2.2.2.2.2.2.2.1 (by rw [sE_f b2]; exact b1.wf) (fun r => by rw [sE_f b2]; exact sE_lay b2 r)
          refine ⟨_, _, M3, rfl, ?_, hI3.z⟩
          rw [zb_ok m_isShop, if_pos c, if_neg z10, zb_ok hin, if_pos c2, if_neg z10, zb2_ok d1, hbx, if_neg hnn, if_neg (show ¬ nI 1 = 0 by decide), if_neg (show ¬ nI 1 = 2 by decide), zb_ok (m_rowOf hI3.m.t hI3.w.wf hs2), zb_ok q1, zb_ok (m_leftOf q2 b1.wf hs2), zb_ok hback]
        · rw [if_pos (show nI 2 = 2 from rfl)]
          obtain ⟨M2, e1, e2, f, e3, e4⟩ := c_boundOf g3 g4 hI.w.wf hs2 law ⟨r0, hbl, hbo⟩
          rw [zb2_ok e1]
          have hI2 : zIn M2 n m k law A := zIn_t hI ((cf_look g2).tr (fun c hc => e2 c (by omega) (by omega) (by omega) (by omega))) e3 (az_sE (az_of hI) e4 hn hs2)
          obtain ⟨M3, d1, d2, d3⟩ := m_bestOf hI2.m.t hI2.w.wf hs2 hI2.m.l hI2.w.law01
          have hI3 := zIn_19 hI2 d2
          refine ⟨_, _, M3, rfl, ?_, hI3.z⟩
          rw [zb_ok m_isShop, if_pos c, if_neg z10, zb_ok hin, if_pos c2, if_neg z10, zb2_ok d1, hbx, if_neg hnn, if_neg (show ¬ nI 2 = 0 by decide), if_pos (show nI 2 = 2 from rfl), zb2_ok (m_boundOf hI3.m.t hI3.w.wf hs2 hI3.m.l hI3.w.law01)]
          have hbd : ∀ q, sB 235224 (vB (sO law A n s) (sLq A n s q) (sRc (sK A) n)) := fun q => vB_bd (L := sLq A n s q) (fun r => br_bd (wF_lay hI.w hs2 r) hs2) _
          rw [lm_sum (f := fun q => vB (sO law A n s) (sLq A n s q) (sRc (sK A) n)) hbd m (by omega)]
    · rw [if_neg c2, if_neg z10]
      refine ⟨_, _, _, rfl, ?_, hI.z⟩
      rw [zb_ok m_isShop, if_pos c, if_neg z10, zb_ok hin, if_neg c2, if_pos rfl]
  · rw [if_neg c, if_neg z10]
    refine ⟨_, _, _, rfl, ?_, hI.z⟩
    rw [zb_ok m_isShop, if_neg c, if_pos rfl]
end ZMost
