section ZClimb2
variable {M : zM} {n m k : Nat} {law : Int32} {A A' : zM} {q s t : Nat}
theorem m_move (hM : mT M n m A) (w : wF n m k law A) {law' : Int32} (hlaw : M 86 18 = law') (hs : s < 2) (ht : t < n) (C : Prop) (rc : (Int32 × Int32 × zM) → Option zM) : zlp (qM_climbUp_L48 (nI t) (nI s) (pB C) M rc) zfu (nI (sAt A s t), sLf A n m s, 0, M) = rc (pB (C ∨ mvB law' A n m s t ≠ sAt A s t), nI (t + 1), zw M 89 (4 * s + t) (nI (mvB law' A n m s t))) := by
  have hn := w.wf.1
  obtain ⟨k1, k2, k3⟩ := wf_K w.wf ht
  have hat := (wf_A w.wf hs ht)
  have h89 : M 89 (4 * s + t) = nI (sAt A s t) := by rw [hM.2.2.2.2.2.2.1]; exact hat.1
  have hk : M 92 t = nI (sK A t) := by rw [hM.2.2.1]; exact k1
  refine zlp_inv (b := qM_climbUp_L48 (nI t) (nI s) (pB C) M rc) (I := fun i v => v.1 = nI (mvF law' A n m s t i).1 ∧ v.2.1 = (mvF law' A n m s t i).2 ∧ v.2.2.1 = nI i ∧ ∃ x, v.2.2.2 = zw M 89 (4 * s + t) x) (sK A t) (E := fun o => o = rc (pB (C ∨ mvB law' A n m s t ≠ sAt A s t), nI (t + 1), zw M 89 (4 * s + t) (nI (mvB law' A n m s t)))) (zfu_gt (by omega)) (fun i hi v hv => ?_) (fun v hv => ?_) ⟨rfl, rfl, rfl, M 89 (4 * s + t), (zw_id M 89 (4 * s + t)).symm⟩
  · obtain ⟨v6, v7, v8, M6⟩ := v
    obtain ⟨e1, e2, e3, x, e4⟩ := hv
    dsimp only at e1 e2 e3 e4
    subst e3 e4
    have m8 : mT (zw M 89 (4 * s + t) (nI i)) n m (zw A 4 (4 * s + t) (nI i)) := mT_w4 hM (4 * s + t) (nI i)
    have w8 : wF n m k law (zw A 4 (4 * s + t) (nI i)) := wF_w4 w hs ht hi
    have f1 := m_leftOf m8 w8.wf hs
    have hb := m_isBelow m8 w8.wf hs ht
    have hk6 : (zw M 89 (4 * s + t) x) 92 t = nI (sK A t) := by rw [zw_ne (by decide)]; exact hk
    have hl6 : (zw M 89 (4 * s + t) x) 86 18 = law' := by rw [zw_ne (by decide)]; exact hlaw
    by_cases cl : law' = 0 ∨ ¬ sPr (zw A 4 (4 * s + t) (nI i)) s t < A 2 (4 * s + t)
    · have hd : ∀ rc2, qM_climbUp_L48 (nI t) (nI s) (pB C) M rc rc2 (v6, v7, nI i, zw M 89 (4 * s + t) x) = if v7 < sLf (zw A 4 (4 * s + t) (nI i)) n m s then rc2 (nI i, sLf (zw A 4 (4 * s + t) (nI i)) n m s, nI (i + 1), zw M 89 (4 * s + t) (nI i)) else rc2 (v6, v7, nI (i + 1), zw M 89 (4 * s + t) (nI i)) := fun rc2 => by
        unfold qM_climbUp_L48
        simp (disch := omega) only [zn_cl, zq_in, hk6, zn_lt, if_pos hi, zn_4m, nI_add, nI_1, zlj_u, zw_zw, hl6]
        rw [zb_ok f1]
        by_cases cz : law' = 0
        · rw [if_pos cz]
        · rw [if_neg cz, zb_ok hb, if_neg (show ¬ sPr (zw A 4 (4 * s + t) (nI i)) s t < (zw A 4 (4 * s + t) (nI i)) 2 (4 * s + t) from cl.resolve_left cz), if_pos rfl]
      by_cases c2 : (mvF law' A n m s t i).2 < sLf (zw A 4 (4 * s + t) (nI i)) n m s
      · refine ⟨(nI i, sLf (zw A 4 (4 * s + t) (nI i)) n m s, nI (i + 1), zw M 89 (4 * s + t) (nI i)), ⟨?_, ?_, rfl, nI i, rfl⟩, fun rc2 => ?_⟩
        · rw [mvF_s, if_pos ⟨cl, c2⟩]
        · rw [mvF_s, if_pos ⟨cl, c2⟩]
        · rw [hd rc2, if_pos (by rw [e2]; exact c2)]
      · refine ⟨(v6, v7, nI (i + 1), zw M 89 (4 * s + t) (nI i)), ⟨?_, ?_, rfl, nI i, rfl⟩, fun rc2 => ?_⟩
        · rw [mvF_s, if_neg (fun h => c2 h.2)]; exact e1
        · rw [mvF_s, if_neg (fun h => c2 h.2)]; exact e2
        · rw [hd rc2, if_neg (by rw [e2]; exact c2)]
    · refine ⟨(v6, v7, nI (i + 1), zw M 89 (4 * s + t) (nI i)), ⟨?_, ?_, rfl, nI i, rfl⟩, fun rc2 => ?_⟩
      · rw [mvF_s, if_neg (fun h => cl h.1)]; exact e1
      · rw [mvF_s, if_neg (fun h => cl h.1)]; exact e2
      · have hlt : sPr (zw A 4 (4 * s + t) (nI i)) s t < A 2 (4 * s + t) := Classical.not_not.mp (fun h => cl (Or.inr h))
        unfold qM_climbUp_L48
        simp (disch := omega) only [zn_cl, zq_in, hk6, zn_lt, if_pos hi, zn_4m, nI_add, nI_1, zlj_u, zw_zw, hl6]
        rw [if_neg (fun h => cl (Or.inl h)), zb_ok hb, if_pos (show sPr (zw A 4 (4 * s + t) (nI i)) s t < (zw A 4 (4 * s + t) (nI i)) 2 (4 * s + t) from hlt), if_neg z10]
  · obtain ⟨v6, v7, v8, M6⟩ := v
    obtain ⟨e1, e2, e3, x, e4⟩ := hv
    dsimp only at e1 e2 e3 e4
    subst e1 e3 e4
    have hk6 : (zw M 89 (4 * s + t) x) 92 t = nI (sK A t) := by rw [zw_ne (by decide)]; exact hk
    have hB : (mvF law' A n m s t (sK A t)).1 = mvB law' A n m s t := rfl
    have hlt : mvB law' A n m s t < sK A t := (mvF_ok w.wf hs ht (sK A t) (Nat.le_refl _)).1
    refine ⟨_, rfl, fun rc2 => ?_⟩
    unfold qM_climbUp_L48
    simp (disch := omega) only [zn_cl, zq_in, hk6, zn_lt, Nat.lt_irrefl, if_false, zn_4m, nI_add, h89, hB, zn_eq, zw_zw, nI_1]
    by_cases c : C
    · rw [pB_t c, if_neg z10, pB_t (Or.inl c)]
    · rw [pB_f c, if_pos rfl]
      by_cases c2 : mvB law' A n m s t = sAt A s t
      · rw [if_pos c2, pB_f (fun h => h.elim c (fun h => h c2))]
      · rw [if_neg c2, pB_t (Or.inr c2)]
theorem m_round (hM : mT M n m A) (w : wF n m k law A) {law' : Int32} (hlaw : M 86 18 = law') (hs : s < 2) : ∃ M', (∀ rc, zlp (qM_climbUp_L10 (nI s) rc) zfu (0, 0, M) = rc (pB (rdC law' A n m s n), M')) ∧ mT M' n m (rdA law' A n m s n) ∧ ∀ c, c ≠ 89 → M' c = M c := by
  have hn := w.wf.1
  have key := zlp_fam (b := fun rc => qM_climbUp_L10 (nI s) rc) (I := fun i v => v.1 = pB (rdC law' A n m s i) ∧ v.2.1 = nI i ∧ mT v.2.2 n m (rdA law' A n m s i) ∧ ∀ c, c ≠ 89 → v.2.2 c = M c) n (F := zfu) (zfu_gt (by omega)) (e := fun rc M' => rc (pB (rdC law' A n m s n), M')) (P := fun M' => mT M' n m (rdA law' A n m s n) ∧ ∀ c, c ≠ 89 → M' c = M c) (fun i hi v hv => ?_) (fun v hv => ?_) (s := (0, 0, M)) ⟨(pB_f (fun h => h)).symm, rfl, hM, fun _ _ => rfl⟩
  · obtain ⟨M', h1, h2⟩ := key
    exact ⟨M', h2, h1⟩
  · obtain ⟨v1, v2, M3⟩ := v
    obtain ⟨e1, e2, e3, e4⟩ := hv
    dsimp only at e1 e2 e3 e4
    subst e1 e2
    obtain ⟨w1, -, -⟩ := rd_ok w law' hs i (by omega)
    have hat := wf_A w1.wf hs hi
    have h89 : M3 89 (4 * s + i) = nI (sAt (rdA law' A n m s i) s i) := by rw [e3.2.2.2.2.2.2.1]; exact hat.1
    have hl3 : M3 86 18 = law' := by rw [e4 86 (by decide)]; exact hlaw
    refine ⟨(pB (rdC law' A n m s (i + 1)), nI (i + 1), zw M3 89 (4 * s + i) (nI (mvB law' (rdA law' A n m s i) n m s i))), ⟨rfl, rfl, mT_w4 e3 (4 * s + i) _, fun c hc => (zw_ne hc).trans (e4 c hc)⟩, fun g rc => ?_⟩
    unfold qM_climbUp_L10
    simp (disch := omega) only [e3.1, zn_lt, if_pos hi, zn_4m, nI_add, zn_cl, zq_in, h89]
    rw [zb_ok (m_leftOf e3 w1.wf hs), m_move e3 w1 hl3 hs hi]
    rfl
  · obtain ⟨v1, v2, M3⟩ := v
    obtain ⟨e1, e2, e3, e4⟩ := hv
    dsimp only at e1 e2 e3 e4
    subst e1 e2
    refine ⟨M3, ⟨e3, e4⟩, fun g rc => ?_⟩
    unfold qM_climbUp_L10
    simp (disch := omega) only [e3.1, zn_lt, Nat.lt_irrefl, if_false]
/-! how many rows have more -/
def cnG (f : Nat → Int32) (x : Int32) : Nat → Nat
  | 0 => 0
  | r + 1 => cnG f x r + (if x < f r then 1 else 0)
theorem cnG_s (f : Nat → Int32) (x : Int32) (r : Nat) : cnG f x (r + 1) = cnG f x r + (if x < f r then 1 else 0) := rfl
theorem cnG_le (f : Nat → Int32) (x : Int32) : ∀ r, cnG f x r ≤ r
  | 0 => Nat.le_refl 0
  | r + 1 => by
    have := cnG_le f x r
    rw [cnG_s]
    split <;> omega
theorem cnG_mono {f : Nat → Int32} {x y : Int32} (h : x < y) : ∀ r, cnG f y r ≤ cnG f x r
  | 0 => Nat.le_refl 0
  | r + 1 => by
    have ih := cnG_mono (f := f) h r
    rw [cnG_s, cnG_s]
    by_cases c : y < f r
    · rw [if_pos c, if_pos (Int32.lt_trans h c)]; omega
    · rw [if_neg c]; omega
theorem cnG_lt {f : Nat → Int32} {x y : Int32} (h : x < y) : ∀ {R r : Nat}, r < R → f r = y → cnG f y R < cnG f x R
  | 0, r, hr, _ => by omega
  | R + 1, r, hr, hf => by
    rw [cnG_s, cnG_s]
    by_cases e : r = R
    · subst e
      have := cnG_mono (f := f) h r
      rw [hf, if_neg (Int32.lt_irrefl), if_pos h]
      omega
    · have ih := cnG_lt h (R := R) (r := r) (by omega) hf
      by_cases c : y < f R
      · rw [if_pos c, if_pos (Int32.lt_trans h c)]; omega
      · rw [if_neg c]; omega
theorem cnG_R {f : Nat → Int32} {x : Int32} : ∀ {R r : Nat}, r < R → f r = x → cnG f x R < R
  | 0, r, hr, _ => by omega
  | R + 1, r, hr, hf => by
    rw [cnG_s]
    by_cases e : r = R
    · subst e
      have := cnG_le f x r
      rw [hf, if_neg (Int32.lt_irrefl)]
      omega
    · have ih := cnG_R (R := R) (r := r) (x := x) (by omega) hf
      split <;> omega
theorem c_up1 {law' : Int32} {rnd : Nat} (rc : (Int32 × Int32 × zM) → Option (Int32 × zM)) (hr : rnd ≤ 81) : qP_climbedRow_L5 (nI s) law' rc (1, nI rnd, M) = zlp (qP_climbedRow_L21 (nI s) law' rc (nI rnd)) zfu (0, 0, M) := by
  unfold qP_climbedRow_L5
  simp only [zlj_u]
  rw [if_neg (show ¬ (81 : Int32) < nI rnd from nI_nlt (a := 81) (b := rnd) (by omega) (by omega)), if_neg z10]
theorem c_up0 {law' v : Int32} (rc : (Int32 × Int32 × zM) → Option (Int32 × zM)) (hM : cT M n m A) (hW : sWF n m A) (hs : s < 2) : qP_climbedRow_L5 (nI s) law' rc (0, v, M) = some (nI (sRo A n s), M) := by
  unfold qP_climbedRow_L5
  simp only [zlj_u, if_true]
  rw [zb_ok (c_rowOf hM hW hs)]
  by_cases c : (81 : Int32) < v
  · rw [if_pos c]; rfl
  · rw [if_neg c]; rfl
theorem m_up1 (rc : (Int32 × zM) → Option zM) : qM_climbUp_L2 (nI s) rc (1, M) = zlp (qM_climbUp_L10 (nI s) rc) zfu (0, 0, M) := by
  unfold qM_climbUp_L2
  exact if_neg z10
theorem m_up0 (rc : (Int32 × zM) → Option zM) : qM_climbUp_L2 (nI s) rc (0, M) = some M := by
  unfold qM_climbUp_L2
  exact if_pos rfl
theorem zlp_s {σ ρ : Type} (b : (σ → Option ρ) → σ → Option ρ) (F : Nat) (x : σ) : zlp b (F + 1) x = b (zlp b F) x := rfl
theorem climb_both {law' : Int32} (hs : s < 2) : ∀ (u : Nat) (A : zM), wF n m k law A → cnG (sL A n m s) (sLf A n m s) (sRc (sK A) n) ≤ u → ∃ B, wF n m k law B ∧ sE A B n s ∧ (∀ M, cT M n m A → lT M n m A → ∀ rnd F, rnd + u ≤ 80 → u + 2 ≤ F → ∃ M', zlp (qP_climbedRow_L5 (nI s) law') F (1, nI rnd, M) = some (nI (sRo B n s), M') ∧ cT M' n m B ∧ lT M' n m B ∧ ck M M') ∧ (∀ M, mT M n m A → M 86 18 = law' → ∀ F, u + 2 ≤ F → ∃ M', zlp (qM_climbUp_L2 (nI s)) F (1, M) = some M' ∧ mT M' n m B ∧ ∀ c, c ≠ 89 → M' c = M c) := by
  intro u
  induction u with
  | zero =>
    intro A w hu
    obtain ⟨w1, hE, h3⟩ := rd_ok w law' hs n (Nat.le_refl _)
    rcases h3 with ⟨h3, h4⟩ | ⟨h3, h4⟩
    · refine ⟨A, w, sE.rf A, fun M hM hL rnd F hr hF => ?_, fun M hM hlaw F hF => ?_⟩
      · obtain ⟨F, rfl⟩ : ∃ F', F = F' + 1 + 1 := ⟨F - 2, by omega⟩
        obtain ⟨M', g1, g2, g3, g4⟩ := c_round hM hL w law' hs (nI rnd)
        rw [h4] at g2 g3
        refine ⟨M', ?_, g2, g3, g4⟩
        rw [zlp_s, c_up1 _ (by omega), g1, pB_f h3, zlp_s, c_up0 _ g2 w.wf hs]
      · obtain ⟨F, rfl⟩ : ∃ F', F = F' + 1 + 1 := ⟨F - 2, by omega⟩
        obtain ⟨M', g1, g2, g3⟩ := m_round hM w hlaw hs
        rw [h4] at g2
        refine ⟨M', ?_, g2, g3⟩
        rw [zlp_s, m_up1, g1, pB_f h3, zlp_s, m_up0]
    · exfalso
      have hlt := cnG_lt (f := sL A n m s) h4 (R := sRc (sK A) n) (r := sRo (rdA law' A n m s n) n s) (by rw [← sE_K hE]; exact sRo_lt w1.wf hs) (by rw [← sE_L hE]; exact sL_ro w1.wf hs)
      omega
  | succ u ih =>
    intro A w hu
    obtain ⟨w1, hE, h3⟩ := rd_ok w law' hs n (Nat.le_refl _)
    rcases h3 with ⟨h3, h4⟩ | ⟨h3, h4⟩
    · refine ⟨A, w, sE.rf A, fun M hM hL rnd F hr hF => ?_, fun M hM hlaw F hF => ?_⟩
      · obtain ⟨F, rfl⟩ : ∃ F', F = F' + 1 + 1 := ⟨F - 2, by omega⟩
        obtain ⟨M', g1, g2, g3, g4⟩ := c_round hM hL w law' hs (nI rnd)
        rw [h4] at g2 g3
        refine ⟨M', ?_, g2, g3, g4⟩
        rw [zlp_s, c_up1 _ (by omega), g1, pB_f h3, zlp_s, c_up0 _ g2 w.wf hs]
      · obtain ⟨F, rfl⟩ : ∃ F', F = F' + 1 + 1 := ⟨F - 2, by omega⟩
        obtain ⟨M', g1, g2, g3⟩ := m_round hM w hlaw hs
        rw [h4] at g2
        refine ⟨M', ?_, g2, g3⟩
        rw [zlp_s, m_up1, g1, pB_f h3, zlp_s, m_up0]
    · have hlt := cnG_lt (f := sL A n m s) h4 (R := sRc (sK A) n) (r := sRo (rdA law' A n m s n) n s) (by rw [← sE_K hE]; exact sRo_lt w1.wf hs) (by rw [← sE_L hE]; exact sL_ro w1.wf hs)
      have hfun : sL (rdA law' A n m s n) n m s = sL A n m s := by
        funext r
        exact sE_L hE r
      obtain ⟨B, b1, b2, b3, b4⟩ := ih (rdA law' A n m s n) w1 (by rw [hfun, sE_K hE]; omega)
      refine ⟨B, b1, hE.tr b2, fun M hM hL rnd F hr hF => ?_, fun M hM hlaw F hF => ?_⟩
      · obtain ⟨F, rfl⟩ : ∃ F', F = F' + 1 := ⟨F - 1, by omega⟩
        obtain ⟨M', g1, g2, g3, g4⟩ := c_round hM hL w law' hs (nI rnd)
        obtain ⟨M2, d1, d2, d3, d4⟩ := b3 M' g2 g3 (rnd + 1) F (by omega) (by omega)
        refine ⟨M2, ?_, d2, d3, g4.tr d4⟩
        rw [zlp_s, c_up1 _ (by omega), g1, pB_t h3, nI_1]
        exact d1
      · obtain ⟨F, rfl⟩ : ∃ F', F = F' + 1 := ⟨F - 1, by omega⟩
        obtain ⟨M', g1, g2, g3⟩ := m_round hM w hlaw hs
        obtain ⟨M2, d1, d2, d3⟩ := b4 M' g2 (by rw [g3 86 (by decide)]; exact hlaw) F (by omega)
        refine ⟨M2, ?_, d2, fun c hc => (d3 c hc).trans (g3 c hc)⟩
        rw [zlp_s, m_up1, g1, pB_t h3]
        exact d1
theorem climb_all (w : wF n m k law A) (law' : Int32) (hs : s < 2) : ∃ B, wF n m k law B ∧ sE A B n s ∧ (∀ M, cT M n m A → lT M n m A → ∃ M', qP_climbedRow M (nI s) law' = some (nI (sRo B n s), M') ∧ cT M' n m B ∧ lT M' n m B ∧ ck M M') ∧ (∀ M, mT M n m A → M 86 18 = law' → ∃ M', qM_climbUp M (nI s) = some M' ∧ mT M' n m B ∧ ∀ c, c ≠ 89 → M' c = M c) := by
  have hr := wf_rows w.wf
  have h80 : cnG (sL A n m s) (sLf A n m s) (sRc (sK A) n) ≤ 80 := by
    have := cnG_R (f := sL A n m s) (x := sLf A n m s) (sRo_lt w.wf hs) (sL_ro w.wf hs)
    omega
  obtain ⟨B, b1, b2, b3, b4⟩ := climb_both (law' := law') hs 80 A w h80
  exact ⟨B, b1, b2, fun M hM hL => b3 M hM hL 0 zfu (by omega) (by decide), fun M hM hlaw => b4 M hM hlaw zfu (by decide)⟩
theorem az_sE (h : az A) (hE : sE A A' n s) (hn : n ≤ 4) (hs : s < 2) : az A' := by
  obtain ⟨h0, h1, h2, h3, h4, h5⟩ := h
  refine ⟨by rw [hE.1 0 (by decide)]; exact h0, by rw [hE.1 1 (by decide)]; exact h1, by rw [hE.1 2 (by decide)]; exact h2, by rw [hE.1 3 (by decide)]; exact h3, fun j hj => ?_, by rw [hE.1 5 (by decide)]; exact h5⟩
  rw [hE.2 j (by omega)]
  exact h4 j hj
theorem k_climb (hI : zI M) (v : Int32) : ∃ x M1 M2, qS_climb M v = some (x, M1) ∧ qM_climb M1 v = some (x, M2) ∧ zI M2 := by
  obtain ⟨n, m, k, law, A, hI⟩ := hI
  have hn := hI.n4
  unfold qS_climb qM_climb
  rw [zb_ok c_noShop]
  by_cases c : sIn 0 1 v
  · rw [if_pos c, if_pos rfl]
    obtain ⟨s, hs, rfl⟩ := sIn_n (h := 1) (by omega) c
    have hs2 : s < 2 := by omega
    obtain ⟨B, b1, b2, b3, b4⟩ := climb_all hI.w law hs2
    obtain ⟨M1, g1, g2, g3, g4, g5⟩ := c_look hI
    have hI1 := zIn_look hI g2 g5
    obtain ⟨M4, f1, f2, f3, f4⟩ := b3 M1 g3 g4
    rw [zb_ok g1, hI1.l2, zb2_ok f1]
    have hI4 : zIn M4 n m k law A := zIn_t hI ((cf_look g2).tr (cf_ck f4)) f2 (az_sE (az_of hI) b2 hn hs2)
    refine ⟨_, _, M4, rfl, ?_, hI4.z⟩
    obtain ⟨M6, d1, d2, d3⟩ := b4 M4 hI4.m.t hI4.m.l
    have hb := m_back hI4.m.t hI4.w.wf hs2 d3 d2.2.2.2.2.2.2.1 (by rw [sE_f b2]; exact b1.wf) (fun r => by rw [sE_f b2]; exact sE_lay b2 r)
    rw [zb_ok m_isShop, if_pos c, if_neg z10, zb_ok (m_rowOf hI4.m.t hI4.w.wf hs2), zb_ok d1, zb_ok (m_rowOf d2 b1.wf hs2), zb_ok hb]
    rfl
  · rw [if_neg c, if_neg z10]
    refine ⟨_, _, _, rfl, ?_, hI.z⟩
    rw [zb_ok m_isShop, if_neg c, if_pos rfl]
end ZClimb2
