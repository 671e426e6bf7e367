section ZBest2
variable {M : zM} {n m : Nat} {A : zM} {q s t : Nat}
/-- of the model nothing but numbers J of its own cell has changed -/
def eM (J : Nat → Prop) (M M' : zM) : Prop := (∀ c, c ≠ 86 → M' c = M c) ∧ ∀ j, ¬ J j → M' 86 j = M 86 j
theorem eM.rf {J : Nat → Prop} (M : zM) : eM J M M := ⟨fun _ _ => rfl, fun _ _ => rfl⟩
theorem eM.tr {J : Nat → Prop} {M1 M2 M3 : zM} (h1 : eM J M1 M2) (h2 : eM J M2 M3) : eM J M1 M3 := ⟨fun c hc => (h2.1 c hc).trans (h1.1 c hc), fun j hj => (h2.2 j hj).trans (h1.2 j hj)⟩
theorem eM.up {J J' : Nat → Prop} {M1 M2 : zM} (h1 : eM J M1 M2) (h : ∀ j, J j → J' j) : eM J' M1 M2 := ⟨h1.1, fun j hj => h1.2 j (fun q => hj (h j q))⟩
theorem mT_eM {J : Nat → Prop} {M' : zM} (h : eM J M M') (j6 : ¬ J 6) (j14 : ¬ J 14) (hM : mT M n m A) : mT M' n m A := by
  obtain ⟨h1, h2, h3, h4, h5, h6, h7, h8, h9', h10, h11, h12, h13, h14, h15⟩ := hM
  refine ⟨by rw [h.2 6 j6]; exact h1, by rw [h.2 14 j14]; exact h2, by rw [h.1 92 (by decide)]; exact h3, by rw [h.1 91 (by decide)]; exact h4, by rw [h.1 87 (by decide)]; exact h5, by rw [h.1 88 (by decide)]; exact h6, by rw [h.1 89 (by decide)]; exact h7, by rw [h.1 90 (by decide)]; exact h8, by rw [h.1 93 (by decide)]; exact h9', by rw [h.1 94 (by decide)]; exact h10, by rw [h.1 95 (by decide)]; exact h11, by rw [h.1 96 (by decide)]; exact h12, by rw [h.1 97 (by decide)]; exact h13, by rw [h.1 98 (by decide)]; exact h14, by rw [h.1 99 (by decide)]; exact h15⟩
abbrev j19 : Nat → Prop := fun j => j = 19
theorem eM_w19 (M : zM) (x : Int32) : eM j19 M (zw M 86 19 x) := ⟨fun c hc => zw_ne hc, fun j hj => zw_other hj⟩
theorem nI_nn (b : Nat) (hb : b < 2147483648) : ¬ nI b < 0 := fun h => Eq.mp (zn_ge0 hb) h
theorem m_bestOf (hM : mT M n m A) (hW : sWF n m A) (hs : s < 2) {law : Int32} (hlaw : M 86 18 = law) (h01 : law = 0 ∨ law = 1) : ∃ M', qM_bestOf M (nI s) = some (bV (sBest law A n m s), M') ∧ eM j19 M M' ∧ ∀ b x, sBest law A n m s = some (b, x) → M' 86 19 = x := by
  have hrows := wf_rows hW
  have hwas : sRw (sK A) (sAt A s) n < sRc (sK A) n := sRw_lt (fun t ht => (wf_A hW hs ht).2)
  have h7 : M 89 = A 4 := hM.2.2.2.2.2.2.1
  unfold qM_bestOf
  rw [zb_ok (m_rowOf hM hW hs), zb_ok (m_rows hM hW)]
  refine zlp_inv (b := qM_bestOf_L18 (nI (sRc (sK A) n)) (nI s) (nI (sRw (sK A) (sAt A s) n))) (I := fun i v => v.1 = bV (sBs (sO law A n s) (sL A n m s) i) ∧ (∀ b x, sBs (sO law A n s) (sL A n m s) i = some (b, x) → v.2.2 86 19 = x) ∧ v.2.1 = nI i ∧ (∀ c, c ≠ 89 → c ≠ 86 → v.2.2 c = M c) ∧ (∀ j, j ≠ 19 → v.2.2 86 j = M 86 j) ∧ (∃ f, v.2.2 89 = f ∧ sWF n m (zA A 4 f) ∧ ∀ r, sLay (zA A 4 f) n s r = sLay A n s r)) (sRc (sK A) n) (E := fun o => ∃ M', o = some (bV (sBest law A n m s), M') ∧ eM j19 M M' ∧ ∀ b x, sBest law A n m s = some (b, x) → M' 86 19 = x) (zfu_gt (by omega)) (fun i hi v hI => ?_) (fun v hI => ?_) (s := (-6, 0, M)) ⟨rfl, (fun b x h => by cases h), rfl, (fun _ _ _ => rfl), (fun _ _ => rfl), A 4, h7, (by rw [zA_id rfl]; exact hW), (fun r => by rw [zA_id rfl])⟩
  · obtain ⟨v1, v3, M5⟩ := v
    obtain ⟨e1, e2, e3, e4, e4b, f, e5, e6, e7⟩ := hI
    dsimp only at e1 e2 e3 e4 e4b e5
    subst e3
    have hM5 : mT M5 n m (zA A 4 f) := by
      have h1 : mT (zA M5 89 (A 4)) n m A := mT_eM (J := j19) (M := M) ⟨fun c hc => by
        by_cases h9 : c = 89
        · subst h9; rw [zA_self]; exact h7.symm
        · rw [zA_ne h9]; exact e4 c h9 hc, fun j hj => by rw [zA_ne (by decide)]; exact e4b j hj⟩ (by decide) (by decide) hM
      exact mT_lay (M := zA M5 89 (A 4)) (fun c hc => (zA_ne hc).symm) e5 h1
    obtain ⟨M8, g1, g2, g3⟩ := m_lay hM5 e6 hs i (by omega)
    rw [e7] at g3
    have hM8 : mT M8 n m (zA A 4 (sLay A n s i)) := by
      have := mT_lay g2 g3 hM5
      rw [zA_zA] at this
      exact this
    have hW8 := wf_lay hW i hs
    have hlay8 : ∀ r, sLay (zA A 4 (sLay A n s i)) n s r = sLay A n s r := fun r => sLay_lay i r
    have k1 : qM_leftOf M8 (nI s) = some (sL A n m s i) := m_leftOf hM8 hW8 hs
    have hlaw8 : M8 86 18 = law := by rw [g2 86 (by decide), e4b 18 (by decide)]; exact hlaw
    have ha := m_isAllowed hM8 hW8 hs hlaw8 h01
    have stp : sBs (sO law A n s) (sL A n m s) (i + 1) = match sBs (sO law A n s) (sL A n m s) i with
      | none => @ite _ (sO law A n s i) (Classical.propDecidable _) (some (i, sL A n m s i)) none
      | some (b, x) => @ite _ (sO law A n s i ∧ x < sL A n m s i) (Classical.propDecidable _) (some (i, sL A n m s i)) (some (b, x)) := rfl
    have fr8 : ∀ c, c ≠ 89 → c ≠ 86 → M8 c = M c := fun c a1 a2 => (g2 c a1).trans (e4 c a1 a2)
    have fr8b : ∀ j, j ≠ 19 → M8 86 j = M 86 j := fun j hj => by rw [g2 86 (by decide)]; exact e4b j hj
    have frw : ∀ c, c ≠ 89 → c ≠ 86 → zw M8 86 19 (sL A n m s i) c = M c := fun c a1 a2 => by rw [zw_ne a2]; exact fr8 c a1 a2
    have frwb : ∀ j, j ≠ 19 → zw M8 86 19 (sL A n m s i) 86 j = M 86 j := fun j hj => by rw [zw_other hj]; exact fr8b j hj
    have atw : zw M8 86 19 (sL A n m s i) 89 = sLay A n s i := by rw [zw_ne (by decide)]; exact g3
    by_cases c : sO law A n s i
    · have hp : pB (sOk law (zA A 4 (sLay A n s i)) n s) = 1 := pB_t c
      cases ho : sBs (sO law A n s) (sL A n m s) i with
      | none =>
        rw [ho] at stp e1
        dsimp only at stp
        rw [if_pos c] at stp
        refine ⟨(nI i, nI (i + 1), zw M8 86 19 (sL A n m s i)), ⟨by rw [stp]; rfl, fun b x h => by rw [stp] at h; cases h; exact zw_same M8 86 19 _, rfl, frw, frwb, sLay A n s i, atw, hW8, hlay8⟩, fun rc => ?_⟩
        unfold qM_bestOf_L18
        simp (disch := omega) only [zn_lt, if_pos hi, nI_1]
        rw [zb_ok g1, zb_ok ha, hp, if_neg (by decide), zb_ok k1, e1, if_pos (show bV none < 0 by decide)]
      | some p =>
        obtain ⟨b, x⟩ := p
        have hb := (sBs_lt ho).1
        have hx := e2 b x ho
        rw [ho] at stp e1
        dsimp only at stp
        have hne : ¬ v1 < 0 := by rw [e1]; exact nI_nn b (by omega)
        have hm8 : M8 86 19 = x := by rw [g2 86 (by decide)]; exact hx
        by_cases c2 : x < sL A n m s i
        · rw [if_pos ⟨c, c2⟩] at stp
          refine ⟨(nI i, nI (i + 1), zw M8 86 19 (sL A n m s i)), ⟨by rw [stp]; rfl, fun b x h => by rw [stp] at h; cases h; exact zw_same M8 86 19 _, rfl, frw, frwb, sLay A n s i, atw, hW8, hlay8⟩, fun rc => ?_⟩
          unfold qM_bestOf_L18
          simp (disch := omega) only [zn_lt, if_pos hi, nI_1]
          rw [zb_ok g1, zb_ok ha, hp, if_neg (by decide), zb_ok k1, if_neg hne, hm8, if_pos c2]
        · rw [if_neg (fun h => c2 h.2)] at stp
          refine ⟨(v1, nI (i + 1), M8), ⟨by rw [stp]; exact e1, fun b x h => by rw [stp] at h; cases h; exact hm8, rfl, fr8, fr8b, sLay A n s i, g3, hW8, hlay8⟩, fun rc => ?_⟩
          unfold qM_bestOf_L18
          simp (disch := omega) only [zn_lt, if_pos hi, nI_1]
          rw [zb_ok g1, zb_ok ha, hp, if_neg (by decide), zb_ok k1, if_neg hne, hm8, if_neg c2]
    · have hp : pB (sOk law (zA A 4 (sLay A n s i)) n s) = 0 := pB_f c
      have same : sBs (sO law A n s) (sL A n m s) (i + 1) = sBs (sO law A n s) (sL A n m s) i := by
        rw [stp]
        cases ho : sBs (sO law A n s) (sL A n m s) i with
        | none => dsimp only; rw [if_neg c]
        | some p => dsimp only; rw [if_neg (fun h => c h.1)]
      refine ⟨(v1, nI (i + 1), M8), ⟨by rw [same]; exact e1, fun b x h => by rw [same] at h; show M8 86 19 = x; rw [g2 86 (by decide)]; exact e2 b x h, rfl, fr8, fr8b, sLay A n s i, g3, hW8, hlay8⟩, fun rc => ?_⟩
      unfold qM_bestOf_L18
      simp (disch := omega) only [zn_lt, if_pos hi, nI_1]
      rw [zb_ok g1, zb_ok ha, hp, if_pos rfl]
  · obtain ⟨v1, v3, M5⟩ := v
    obtain ⟨e1, e2, e3, e4, e4b, f, e5, e6, e7⟩ := hI
    dsimp only at e1 e2 e3 e4 e4b e5
    subst e3
    have hM5 : mT M5 n m (zA A 4 f) := by
      have h1 : mT (zA M5 89 (A 4)) n m A := mT_eM (J := j19) (M := M) ⟨fun c hc => by
        by_cases h9 : c = 89
        · subst h9; rw [zA_self]; exact h7.symm
        · rw [zA_ne h9]; exact e4 c h9 hc, fun j hj => by rw [zA_ne (by decide)]; exact e4b j hj⟩ (by decide) (by decide) hM
      exact mT_lay (M := zA M5 89 (A 4)) (fun c hc => (zA_ne hc).symm) e5 h1
    obtain ⟨M7, g1, g2, g3⟩ := m_lay hM5 e6 hs (sRw (sK A) (sAt A s) n) (by omega)
    rw [e7, sLay_id hW hs] at g3
    refine ⟨some (bV (sBest law A n m s), M7), ⟨M7, rfl, ⟨fun c hc => ?_, fun j hj => ?_⟩, fun b x h => ?_⟩, fun rc => ?_⟩
    · by_cases h9 : c = 89
      · subst h9
        rw [g3]
        exact h7.symm
      · exact (g2 c h9).trans (e4 c h9 hc)
    · rw [g2 86 (by decide)]
      exact e4b j hj
    · rw [g2 86 (by decide)]
      exact e2 b x h
    · unfold qM_bestOf_L18
      simp (disch := omega) only [zn_lt, Nat.lt_irrefl, if_false]
      rw [zb_ok g1, e1]
      rfl
end ZBest2
