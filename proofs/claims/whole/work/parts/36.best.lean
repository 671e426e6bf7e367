section ZBest
variable {M : zM} {n m : Nat} {A : zM} {q s t : Nat}
theorem mT_lay {M' : zM} {f : Nat → Int32} (h : ∀ c, c ≠ 89 → M' c = M c) (h9 : M' 89 = f) (hM : mT M n m A) : mT M' n m (zA A 4 f) := by
  obtain ⟨h1, h2, h3, h4, h5, h6, h7, h8, h9', h10, h11, h12, h13, h14, h15⟩ := hM
  refine ⟨by rw [h 86 (by decide)]; exact h1, by rw [h 86 (by decide)]; exact h2, by rw [h 92 (by decide)]; exact h3, by rw [h 91 (by decide)]; exact h4, by rw [h 87 (by decide)]; exact h5, by rw [h 88 (by decide)]; exact h6, h9, by rw [h 90 (by decide)]; exact h8, by rw [h 93 (by decide)]; exact h9', by rw [h 94 (by decide)]; exact h10, by rw [h 95 (by decide)]; exact h11, by rw [h 96 (by decide)]; exact h12, by rw [h 97 (by decide)]; exact h13, by rw [h 98 (by decide)]; exact h14, by rw [h 99 (by decide)]; exact h15⟩
theorem cT_lay {M' : zM} {f : Nat → Int32} (h : ∀ c, c ≠ 68 → M' c = M c) (h9 : M' 68 = f) (hM : cT M n m A) : cT M' n m (zA A 4 f) := by
  obtain ⟨h1, h2, h3, h4, h5, h6, h7, h8, h9', h10, h11, h12, h13, h14⟩ := hM
  refine ⟨by rw [h 63 (by decide)]; exact h1, by rw [h 10 (by decide)]; exact h2, by rw [h 64 (by decide)]; exact h3, by rw [h 65 (by decide)]; exact h4, by rw [h 66 (by decide)]; exact h5, by rw [h 67 (by decide)]; exact h6, h9, by rw [h 69 (by decide)]; exact h8, by rw [h 11 (by decide)]; exact h9', by rw [h 12 (by decide)]; exact h10, by rw [h 13 (by decide)]; exact h11, by rw [h 15 (by decide)]; exact h12, by rw [h 16 (by decide)]; exact h13, by rw [h 17 (by decide)]; exact h14⟩
theorem lT_lay {M' : zM} {f : Nat → Int32} (h : ∀ c, c ≠ 68 → M' c = M c) (hL : lT M n m A) : lT M' n m (zA A 4 f) := by
  intro q s t k k' a1 a2 a3 a4 a5 a6
  have := hL q s t k k' a1 a2 a3 a4 a5 a6
  unfold lT1 at *
  rw [h 71 (by decide), h 72 (by decide)]
  exact this
theorem m_isBelow (hM : mT M n m A) (hW : sWF n m A) (hs : s < 2) (ht : t < n) : qM_isBelow M (nI s) (nI t) = some (if sPr A s t < A 2 (4 * s + t) then 1 else 0) := by
  have h5 : M 87 = A 2 := hM.2.2.2.2.1
  have w1 := hW.1
  unfold qM_isBelow
  rw [zb_ok (m_priceOf hM hW hs ht)]
  simp (disch := omega) only [zn_4m, nI_add, zn_cl, zq_in, h5]
  split <;> rfl
theorem c_isBelow (hM : cT M n m A) (hW : sWF n m A) (hs : s < 2) (ht : t < n) : qG_isBelow M (nI s) (nI t) = some (if sPr A s t < A 2 (4 * s + t) then 1 else 0) := by
  obtain ⟨h1, h2, h3, h4, h5, h6, h7, h8, h9, h10, h11, h12, h13, h14⟩ := hM
  have w1 := hW.1
  obtain ⟨a, k, ha, hk, hak, hk3⟩ := hW.2.2.2.1 s t hs ht
  unfold qG_isBelow sPr
  simp (disch := omega) only [zc_m4, zc_m3, nI_add, zn_cl, zq_in, h7, h4, h5, ha]
  split <;> rfl
def sBl (A : zM) (s : Nat) : Nat → Int32
  | 0 => 0
  | t + 1 => if sPr A s t < A 2 (4 * s + t) then sBl A s t ||| (1 <<< (nI t &&& 31)) else sBl A s t
theorem i32_or0 {x w : Int32} (h : x ||| w = 0) : w = 0 := by
  have h1 := congrArg Int32.toBitVec h
  rw [Int32.toBitVec_or] at h1
  have h2 : w.toBitVec = 0#32 := (BitVec.or_eq_zero_iff.mp h1).2
  exact Int32.toBitVec_inj.mp h2
theorem i32_bit {t : Nat} (h : t < 5) : (1 : Int32) <<< (nI t &&& 31) ≠ 0 := by
  rcases (show t = 0 ∨ t = 1 ∨ t = 2 ∨ t = 3 ∨ t = 4 by omega) with rfl | rfl | rfl | rfl | rfl <;> decide
/-- no thing is below cost -/
def sLw (A : zM) (n s : Nat) : Prop := ∀ t, t < n → ¬ sPr A s t < A 2 (4 * s + t)
theorem sBl_s (A : zM) (s t : Nat) : sBl A s (t + 1) = if sPr A s t < A 2 (4 * s + t) then sBl A s t ||| (1 <<< (nI t &&& 31)) else sBl A s t := rfl
theorem sBl_0 : ∀ {n : Nat}, n ≤ 4 → (sBl A s n = 0 ↔ sLw A n s)
  | 0, _ => ⟨fun _ t h => by omega, fun _ => rfl⟩
  | n + 1, h => by
    have ih := sBl_0 (n := n) (by omega)
    rw [sBl_s]
    by_cases c : sPr A s n < A 2 (4 * s + n)
    · rw [if_pos c]
      exact ⟨fun q => absurd (i32_or0 q) (i32_bit (by omega)), fun q => absurd c (q n (by omega))⟩
    · rw [if_neg c, ih]
      refine ⟨fun q t ht => ?_, fun q t ht => q t (by omega)⟩
      by_cases e : t = n
      · subst e; exact c
      · exact q t (by omega)
theorem c_belowCost (hM : cT M n m A) (hW : sWF n m A) (hs : s < 2) : qG_belowCost M (nI s) = some (sBl A s n) := by
  have w1 := hW.1
  unfold qG_belowCost
  refine zlp_run (b := qG_belowCost_L4 M (nI s)) (s := fun i => (sBl A s i, nI i)) n (zfu_gt (by omega)) (fun i hi rc => ?_) (fun rc => ?_)
  · unfold qG_belowCost_L4
    simp (disch := omega) only [hM.1, zn_lt, if_pos hi, nI_1]
    rw [zb_ok (c_isBelow hM hW hs hi)]
    rw [sBl_s]
    by_cases c : sPr A s i < A 2 (4 * s + i)
    · rw [if_pos c, if_pos c, if_neg (by decide)]
    · rw [if_neg c, if_neg c, if_pos rfl]
  · unfold qG_belowCost_L4
    simp (disch := omega) only [hM.1, zn_lt, Nat.lt_irrefl, if_false]
/-- by the law the row as it stands is allowed -/
def sOk (law : Int32) (A : zM) (n s : Nat) : Prop := law = 0 ∨ sLw A n s
noncomputable def pB (P : Prop) : Int32 := @ite _ P (Classical.propDecidable P) 1 0
theorem pB_t {P : Prop} (h : P) : pB P = 1 := if_pos h
theorem pB_f {P : Prop} (h : ¬ P) : pB P = 0 := if_neg h
theorem pB_01 (P : Prop) : pB P = 0 ∨ pB P = 1 := by
  by_cases h : P
  · exact Or.inr (pB_t h)
  · exact Or.inl (pB_f h)
theorem c_isLawful (hM : cT M n m A) (hW : sWF n m A) (hs : s < 2) (law : Int32) : qG_isLawful M (nI s) law = some (pB (sOk law A n s)) := by
  unfold qG_isLawful
  by_cases c : law = 0
  · rw [if_pos c, pB_t (show sOk law A n s from Or.inl c)]
  · rw [if_neg c, zb_ok (c_belowCost hM hW hs)]
    by_cases c2 : sBl A s n = 0
    · rw [if_pos c2, pB_t (show sOk law A n s from Or.inr ((sBl_0 hW.1).mp c2))]
    · rw [if_neg c2, pB_f (show ¬ sOk law A n s from fun h => h.elim c (fun q => c2 ((sBl_0 hW.1).mpr q)))]
theorem m_isAllowed (hM : mT M n m A) (hW : sWF n m A) (hs : s < 2) {law : Int32} (hlaw : M 86 18 = law) (h01 : law = 0 ∨ law = 1) : qM_isAllowed M (nI s) = some (pB (sOk law A n s)) := by
  have w1 := hW.1
  unfold qM_isAllowed
  rcases h01 with h0 | h0
  · have key : pB (sOk law A n s) = 1 := pB_t (Or.inl h0)
    rw [key]
    refine zlp_run (b := qM_isAllowed_L4 M (nI s)) (s := fun i => (1, nI i)) 0 (zfu_gt (by omega)) (fun i hi rc => by omega) (fun rc => ?_)
    unfold qM_isAllowed_L4
    dsimp only
    rw [hlaw, h0, if_neg (show ¬ (0 : Int32) = 1 by decide), zq_b (Or.inr rfl)]
    split <;> rfl
  · have hk : ∀ i, pB (∀ t, t < i + 1 → ¬ sPr A s t < A 2 (4 * s + t)) = if pB (∀ t, t < i → ¬ sPr A s t < A 2 (4 * s + t)) = 0 then 0 else if sPr A s i < A 2 (4 * s + i) then 0 else 1 := by
      intro i
      by_cases c : ∀ t, t < i → ¬ sPr A s t < A 2 (4 * s + t)
      · rw [pB_t c, if_neg (by decide)]
        by_cases c2 : sPr A s i < A 2 (4 * s + i)
        · rw [if_pos c2, pB_f (fun h => h i (by omega) c2)]
        · rw [if_neg c2, pB_t]
          intro t ht
          by_cases e : t = i
          · subst e; exact c2
          · exact c t (by omega)
      · rw [pB_f c, if_pos rfl, pB_f (fun h => c (fun t ht => h t (by omega)))]
    have h3 : pB (sOk law A n s) = pB (∀ t, t < n → ¬ sPr A s t < A 2 (4 * s + t)) := by
      by_cases c : ∀ t, t < n → ¬ sPr A s t < A 2 (4 * s + t)
      · rw [pB_t c, pB_t (show sOk law A n s from Or.inr c)]
      · rw [pB_f c, pB_f (show ¬ sOk law A n s from fun h => h.elim (fun z => by rw [h0] at z; exact absurd z (by decide)) c)]
    rw [h3]
    refine (congrArg (zlp (qM_isAllowed_L4 M (nI s)) zfu) ?_).trans (zlp_run (b := qM_isAllowed_L4 M (nI s)) (s := fun i => (pB (∀ t, t < i → ¬ sPr A s t < A 2 (4 * s + t)), nI i)) n (zfu_gt (by omega)) (fun i hi rc => ?_) (fun rc => ?_))
    · show ((1 : Int32), (0 : Int32)) = (pB _, nI 0)
      rw [pB_t (fun t h => by omega)]; rfl
    · unfold qM_isAllowed_L4
      simp (disch := omega) only [hM.1, zn_lt, if_pos hi, nI_1, hlaw, h0, if_true]
      rw [hk i, zb_ok (m_isBelow hM hW hs hi)]
      by_cases c : pB (∀ t, t < i → ¬ sPr A s t < A 2 (4 * s + t)) = 0
      · rw [if_pos c, if_pos c]
      · rw [if_neg c, if_neg c]
        by_cases c2 : sPr A s i < A 2 (4 * s + i)
        · rw [if_pos c2, if_pos c2, if_neg (by decide)]
        · rw [if_neg c2, if_neg c2, if_pos rfl]
    · unfold qM_isAllowed_L4
      simp (disch := omega) only [hM.1, zn_lt, Nat.lt_irrefl, if_false]
      exact zq_b (pB_01 _)
/-- the first of the greatest -/
noncomputable def sBs (ok : Nat → Prop) (L : Nat → Int32) : Nat → Option (Nat × Int32)
  | 0 => none
  | r + 1 => match sBs ok L r with
    | none => @ite _ (ok r) (Classical.propDecidable _) (some (r, L r)) none
    | some (b, x) => @ite _ (ok r ∧ x < L r) (Classical.propDecidable _) (some (r, L r)) (some (b, x))
def bV (o : Option (Nat × Int32)) : Int32 := match o with
  | none => -6
  | some p => nI p.1
theorem sBs_lt {ok : Nat → Prop} {L : Nat → Int32} : ∀ {r : Nat} {b : Nat} {x : Int32}, sBs ok L r = some (b, x) → b < r ∧ ok b ∧ x = L b
  | 0, _, _, h => by cases h
  | r + 1, b, x, h => by
    unfold sBs at h
    cases hr : sBs ok L r with
    | none =>
      rw [hr] at h
      by_cases c : ok r
      · rw [if_pos c] at h; cases h; exact ⟨by omega, c, rfl⟩
      · rw [if_neg c] at h; cases h
    | some p =>
      obtain ⟨b', x'⟩ := p
      rw [hr] at h
      dsimp only at h
      by_cases c : ok r ∧ x' < L r
      · rw [if_pos c] at h; cases h; exact ⟨by omega, c.1, rfl⟩
      · rw [if_neg c] at h
        cases h
        have := sBs_lt hr
        exact ⟨by omega, this.2⟩
/-- LEFT of a shop by a row, the law's word on it, the best of them -/
noncomputable def sL (A : zM) (n m s r : Nat) : Int32 := sLf (zA A 4 (sLay A n s r)) n m s
def sO (law : Int32) (A : zM) (n s r : Nat) : Prop := sOk law (zA A 4 (sLay A n s r)) n s
noncomputable def sBest (law : Int32) (A : zM) (n m s : Nat) : Option (Nat × Int32) := sBs (sO law A n s) (sL A n m s) (sRc (sK A) n)
theorem wf_rows (hW : sWF n m A) : 1 ≤ sRc (sK A) n ∧ sRc (sK A) n ≤ 81 := ⟨sRc_pos (fun t ht => (wf_K hW ht).2.1), sRc_81 hW.1 (fun t ht => (wf_K hW ht).2.2)⟩
theorem c_bestRow (hM : cT M n m A) (hL : lT M n m A) (hW : sWF n m A) (hs : s < 2) (law : Int32) : ∃ M', qP_bestRow M (nI s) law = some (bV (sBest law A n m s), M') ∧ wk M M' := by
  have hrows := wf_rows hW
  have hwas : sRw (sK A) (sAt A s) n < sRc (sK A) n := sRw_lt (fun t ht => (wf_A hW hs ht).2)
  unfold qP_bestRow
  rw [zb_ok (c_rowOf hM hW hs), zb_ok (c_rowCount hM hW)]
  refine zlp_inv (b := qP_bestRow_L28 (nI (sRc (sK A) n)) (nI s) law (nI (sRw (sK A) (sAt A s) n))) (I := fun i v => v.1 = bV (sBs (sO law A n s) (sL A n m s) i) ∧ (∀ b x, sBs (sO law A n s) (sL A n m s) i = some (b, x) → v.2.1 = x) ∧ v.2.2.1 = nI i ∧ (∀ c, c ≠ 68 → c ≠ 73 → c ≠ 74 → v.2.2.2 c = M c) ∧ (∃ f, v.2.2.2 68 = f ∧ sWF n m (zA A 4 f) ∧ ∀ r, sLay (zA A 4 f) n s r = sLay A n s r)) (sRc (sK A) n) (E := fun o => ∃ M', o = some (bV (sBest law A n m s), M') ∧ wk M M') (zfu_gt (by omega)) (fun i hi v hI => ?_) (fun v hI => ?_) (s := (-6, 0, 0, M)) ⟨rfl, (fun b x h => by cases h), rfl, (fun _ _ _ _ => rfl), A 4, hM.2.2.2.2.2.2.1, (by rw [zA_id rfl]; exact hW), (fun r => by rw [zA_id rfl])⟩
  · obtain ⟨v1, v2, v3, M6⟩ := v
    obtain ⟨e1, e2, e3, e4, f, e5, e6, e7⟩ := hI
    dsimp only at e1 e2 e3 e4 e5
    subst e3
    -- the memory as it was, but for at
    have hM6 : cT M6 n m (zA A 4 f) := by
      have h1 : cT (zA M6 68 (A 4)) n m A := cT_wk (M := M) (fun c a b => by
        by_cases hc : c = 68
        · subst hc; rw [zA_self]; exact hM.2.2.2.2.2.2.1.symm
        · rw [zA_ne hc]; exact e4 c hc a b) hM
      exact cT_lay (M := zA M6 68 (A 4)) (fun c hc => (zA_ne hc).symm) e5 h1
    have hL6 : lT M6 n m (zA A 4 f) := by
      have h1 : lT (zA M6 68 (A 4)) n m A := lT_wk (M := M) (fun c a b => by
        by_cases hc : c = 68
        · subst hc; rw [zA_self]; exact hM.2.2.2.2.2.2.1.symm
        · rw [zA_ne hc]; exact e4 c hc a b) hL
      exact lT_lay (M := zA M6 68 (A 4)) (fun c hc => (zA_ne hc).symm) h1
    obtain ⟨M9, g1, g2, g3⟩ := c_putRow hM6 e6 hs i (by omega)
    rw [e7] at g3
    have hM9 : cT M9 n m (zA A 4 (sLay A n s i)) := by
      have := cT_lay g2 g3 hM6
      rw [zA_zA] at this
      exact this
    have hL9 : lT M9 n m (zA A 4 (sLay A n s i)) := by
      have := lT_lay (f := sLay A n s i) g2 hL6
      rw [zA_zA] at this
      exact this
    have hW9 := wf_lay hW i hs
    have hlay9 : ∀ r, sLay (zA A 4 (sLay A n s i)) n s r = sLay A n s r := fun r => sLay_lay i r
    obtain ⟨M12, k1, k2⟩ := c_leftOf hM9 hL9 hW9 hs
    have hlaw := c_isLawful hM9 hW9 hs law
    have hno : ∀ b, b < i → nI b ≠ -6 := fun b hb h => by
      have := zn_ge0 (a := b) (by omega)
      rw [h] at this
      exact Eq.mp this (show (-6 : Int32) < 0 by decide)
    have stp : sBs (sO law A n s) (sL A n m s) (i + 1) = match sBs (sO law A n s) (sL A n m s) i with
      | none => @ite _ (sO law A n s i) (Classical.propDecidable _) (some (i, sL A n m s i)) none
      | some (b, x) => @ite _ (sO law A n s i ∧ x < sL A n m s i) (Classical.propDecidable _) (some (i, sL A n m s i)) (some (b, x)) := rfl
    have sl : sLf (zA A 4 (sLay A n s i)) n m s = sL A n m s i := rfl
    by_cases c : sO law A n s i
    · -- allowed
      have hp : pB (sOk law (zA A 4 (sLay A n s i)) n s) = 1 := pB_t c
      have fr12 : ∀ c, c ≠ 68 → c ≠ 73 → c ≠ 74 → M12 c = M c := fun c a1 a2 a3 => (k2 c a2 a3).trans ((g2 c a1).trans (e4 c a1 a2 a3))
      have at12 : M12 68 = sLay A n s i := (k2 68 (by decide) (by decide)).trans g3
      cases ho : sBs (sO law A n s) (sL A n m s) i with
      | none =>
        rw [ho] at stp e1
        dsimp only at stp
        rw [if_pos c] at stp
        refine ⟨(nI i, sL A n m s i, nI (i + 1), M12), ⟨by rw [stp]; rfl, fun b x h => by rw [stp] at h; cases h; rfl, rfl, fr12, sLay A n s i, at12, hW9, hlay9⟩, fun rc => ?_⟩
        unfold qP_bestRow_L28
        simp (disch := omega) only [zn_lt, if_pos hi, nI_1]
        rw [zb_ok g1, zb_ok hlaw, hp, if_neg (by decide), zb2_ok k1, e1, if_pos (show bV none = -6 from rfl)]
        rfl
      | some p =>
        obtain ⟨b, x⟩ := p
        have hb := (sBs_lt ho).1
        have hx := e2 b x ho
        subst hx
        rw [ho] at stp e1
        dsimp only at stp
        have hne : ¬ v1 = -6 := by rw [e1]; exact hno b hb
        by_cases c2 : v2 < sL A n m s i
        · rw [if_pos ⟨c, c2⟩] at stp
          refine ⟨(nI i, sL A n m s i, nI (i + 1), M12), ⟨by rw [stp]; rfl, fun b x h => by rw [stp] at h; cases h; rfl, rfl, fr12, sLay A n s i, at12, hW9, hlay9⟩, fun rc => ?_⟩
          unfold qP_bestRow_L28
          simp (disch := omega) only [zn_lt, if_pos hi, nI_1]
          rw [zb_ok g1, zb_ok hlaw, hp, if_neg (by decide), zb2_ok k1, if_neg hne, sl, if_pos c2]
        · rw [if_neg (fun h => c2 h.2)] at stp
          refine ⟨(v1, v2, nI (i + 1), M12), ⟨by rw [stp]; exact e1, fun b x h => by rw [stp] at h; cases h; rfl, rfl, fr12, sLay A n s i, at12, hW9, hlay9⟩, fun rc => ?_⟩
          unfold qP_bestRow_L28
          simp (disch := omega) only [zn_lt, if_pos hi, nI_1]
          rw [zb_ok g1, zb_ok hlaw, hp, if_neg (by decide), zb2_ok k1, if_neg hne, sl, if_neg c2]
    · have hp : pB (sOk law (zA A 4 (sLay A n s i)) n s) = 0 := pB_f c
      have same : sBs (sO law A n s) (sL A n m s) (i + 1) = sBs (sO law A n s) (sL A n m s) i := by
        rw [stp]
        cases ho : sBs (sO law A n s) (sL A n m s) i with
        | none => dsimp only; rw [if_neg c]
        | some p => dsimp only; rw [if_neg (fun h => c h.1)]
      refine ⟨(v1, v2, nI (i + 1), M9), ⟨by rw [same]; exact e1, fun b x h => by rw [same] at h; exact e2 b x h, rfl, fun c a1 a2 a3 => (g2 c a1).trans (e4 c a1 a2 a3), sLay A n s i, g3, hW9, hlay9⟩, fun rc => ?_⟩
      unfold qP_bestRow_L28
      simp (disch := omega) only [zn_lt, if_pos hi, nI_1]
      rw [zb_ok g1, zb_ok hlaw, hp, if_pos rfl]
  · obtain ⟨v1, v2, v3, M6⟩ := v
    obtain ⟨e1, e2, e3, e4, f, e5, e6, e7⟩ := hI
    dsimp only at e1 e2 e3 e4 e5
    subst e3
    have hM6 : cT M6 n m (zA A 4 f) := by
      have h1 : cT (zA M6 68 (A 4)) n m A := cT_wk (M := M) (fun c a b => by
        by_cases hc : c = 68
        · subst hc; rw [zA_self]; exact hM.2.2.2.2.2.2.1.symm
        · rw [zA_ne hc]; exact e4 c hc a b) hM
      exact cT_lay (M := zA M6 68 (A 4)) (fun c hc => (zA_ne hc).symm) e5 h1
    obtain ⟨M8, g1, g2, g3⟩ := c_putRow hM6 e6 hs (sRw (sK A) (sAt A s) n) (by omega)
    rw [e7, sLay_id hW hs] at g3
    refine ⟨some (bV (sBest law A n m s), M8), ⟨M8, rfl, fun c a b => ?_⟩, fun rc => ?_⟩
    · by_cases hc : c = 68
      · subst hc
        rw [g3]
        exact hM.2.2.2.2.2.2.1.symm
      · exact (g2 c hc).trans (e4 c hc a b)
    · unfold qP_bestRow_L28
      simp (disch := omega) only [zn_lt, Nat.lt_irrefl, if_false]
      rw [zb_ok g1, e1]
      rfl
end ZBest
