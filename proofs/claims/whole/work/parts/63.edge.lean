section ZEdge
variable {M : zM} {n m k : Nat} {law : Int32} {A A' : zM} {q s t : Nat}
/-- by this cost another row is best -/
def eG (law : Int32) (A : zM) (n m s t u c : Nat) : Prop := ∃ b x, sBest law (zw A 2 (4 * s + t) (nI c)) n m s = some (b, x) ∧ b ≠ u
noncomputable def eN (G : Nat → Prop) (c0 off : Nat) : Option Nat := @ite _ (off ≤ c0 ∧ G (c0 - off)) (Classical.propDecidable _) (some (c0 - off)) (@ite _ (c0 + off ≤ 99 ∧ G (c0 + off)) (Classical.propDecidable _) (some (c0 + off)) none)
def eR (G : Nat → Prop) (c0 : Nat) (x : Int32) : Prop := (∃ off, 1 ≤ off ∧ off ≤ 99 ∧ (∀ o, 1 ≤ o → o < off → eN G c0 o = none) ∧ ∃ c, eN G c0 off = some c ∧ x = nI c) ∨ ((∀ o, 1 ≤ o → o ≤ 99 → eN G c0 o = none) ∧ x = -6)
theorem eR_one {G : Nat → Prop} {c0 : Nat} {x x' : Int32} (h : eR G c0 x) (h' : eR G c0 x') : x = x' := by
  rcases h with ⟨o, h1, h2, h3, c, h4, rfl⟩ | ⟨h1, rfl⟩
  · rcases h' with ⟨o', g1, g2, g3, c', g4, rfl⟩ | ⟨g1, rfl⟩
    · rcases Nat.lt_trichotomy o o' with z | z | z
      · have := g3 o h1 z
        rw [h4] at this
        cases this
      · subst z
        rw [h4] at g4
        cases g4
        rfl
      · have := h3 o' g1 z
        rw [g4] at this
        cases this
    · have := g1 o h1 h2
      rw [h4] at this
      cases this
  · rcases h' with ⟨o', g1, g2, g3, c', g4, rfl⟩ | ⟨g1, rfl⟩
    · have := h1 o' g1 g2
      rw [g4] at this
      cases this
    · rfl
theorem eG_bv {u c : Nat} (hu : u < 2147483648) (hR : ∀ b x, sBest law (zw A 2 (4 * s + t) (nI c)) n m s = some (b, x) → b < 2147483648) : (bV (sBest law (zw A 2 (4 * s + t) (nI c)) n m s) = -6 → ¬ eG law A n m s t u c) ∧ (bV (sBest law (zw A 2 (4 * s + t) (nI c)) n m s) = nI u → ¬ eG law A n m s t u c) ∧ (¬ bV (sBest law (zw A 2 (4 * s + t) (nI c)) n m s) = -6 → ¬ bV (sBest law (zw A 2 (4 * s + t) (nI c)) n m s) = nI u → eG law A n m s t u c) := by
  unfold eG
  cases h : sBest law (zw A 2 (4 * s + t) (nI c)) n m s with
  | none => exact ⟨(fun _ ⟨b, x, h1, h2⟩ => by cases h1), (fun _ ⟨b, x, h1, h2⟩ => by cases h1), fun h1 => absurd rfl h1⟩
  | some p =>
    obtain ⟨b, x⟩ := p
    have hb := hR b x h
    refine ⟨fun e => absurd (show nI b < 0 by rw [show nI b = -6 from e]; decide) (nI_nn b hb), fun e => ?_, fun _ h2 => ⟨b, x, rfl, fun e => h2 (by rw [e]; rfl)⟩⟩
    have e' : b = u := (nI_eq hb hu).mp e
    rintro ⟨b', x', h1, h2⟩
    cases h1
    exact h2 e'
theorem best_lt (hW : sWF n m A) {b : Nat} {x : Int32} (h : sBest law A n m s = some (b, x)) : b < 2147483648 := by
  have h1 := (sBs_lt h).1
  have h2 := wf_rows hW
  omega
theorem c_turns (hM : cT M n m A') (hL : lT M n m A') {y : Int32} (hA : A' = zw A 2 (4 * s + t) y) (hW : sWF n m A) (hs : s < 2) (ht : t < n) (law : Int32) {u : Nat} (hu : u < 2147483648) (c : Nat) : ∃ M', qP_turnsBest M (nI s) (nI t) law (nI c) (nI u) = some (pB (eG law A n m s t u c), M') ∧ cT M' n m (zw A 2 (4 * s + t) (nI c)) ∧ lT M' n m (zw A 2 (4 * s + t) (nI c)) ∧ cf M M' := by
  subst hA
  have hn := hW.1
  have c1 : cT (zw M 66 (4 * s + t) (nI c)) n m (zw A 2 (4 * s + t) (nI c)) := by
    have := cT_w2 hM (4 * s + t) (nI c)
    rw [zw_zw] at this
    exact this
  have hW' : sWF n m (zw A 2 (4 * s + t) (nI c)) := hW
  have hL' : lT (zw M 66 (4 * s + t) (nI c)) n m (zw A 2 (4 * s + t) y) := lT_of (zw_ne (by decide)) (zw_ne (by decide)) hL
  obtain ⟨M1, g1, g2, g3⟩ := c_relearn (A := zw A 2 (4 * s + t) y) c1 hW' hL' rfl rfl rfl rfl rfl rfl (fun way q s' t' p hs' ht' hne => by
    unfold sWt
    have e : (zw A 2 (4 * s + t) (nI c)) 2 (4 * s' + t') = (zw A 2 (4 * s + t) y) 2 (4 * s' + t') := by rw [zw_other (by omega), zw_other (by omega)]
    have e2 : (zw A 2 (4 * s + t) (nI c)) 10 = (zw A 2 (4 * s + t) y) 10 := rfl
    have e3 : (zw A 2 (4 * s + t) (nI c)) 11 = (zw A 2 (4 * s + t) y) 11 := rfl
    have e4 : (zw A 2 (4 * s + t) (nI c)) 3 = (zw A 2 (4 * s + t) y) 3 := rfl
    rw [e, e2, e3, e4]) hs ht
  have c2 := cT_eT g2 c1
  obtain ⟨M3, f1, f2⟩ := c_bestRow c2 g3 hW' hs law
  obtain ⟨v1, v2, v3⟩ := eG_bv (law := law) (A := A) (n := n) (m := m) (s := s) (t := t) (c := c) hu (fun b x h => best_lt hW' h)
  refine ⟨M3, ?_, cT_wk f2 c2, lT_wk f2 g3, (cf_zw (by omega)).tr ((cf_eT g2).tr (cf_wk f2))⟩
  unfold qP_turnsBest
  simp (disch := omega) only [zc_m4, nI_add, zn_cl, zq_in]
  rw [zb_ok g1, zb2_ok f1]
  by_cases d1 : bV (sBest law (zw A 2 (4 * s + t) (nI c)) n m s) = -6
  · rw [if_pos d1, pB_f (v1 d1)]
  · rw [if_neg d1]
    by_cases d2 : bV (sBest law (zw A 2 (4 * s + t) (nI c)) n m s) = nI u
    · rw [if_pos d2, pB_f (v2 d2)]
    · rw [if_neg d2, pB_t (v3 d1 d2)]
theorem c_edgeOf (hM : cT M n m A) (hL : lT M n m A) (hW : sWF n m A) (hs : s < 2) (ht : t < n) (law : Int32) {u c0 : Nat} {x0 : Int32} (hu : sBest law A n m s = some (u, x0)) (hc : A 2 (4 * s + t) = nI c0) (hc9 : c0 ≤ 99) : ∃ x M', qP_edgeOf M (nI s) (nI t) law = some (x, M') ∧ eR (eG law A n m s t u) c0 x ∧ cf M M' ∧ ∃ y, cT M' n m (zw A 2 (4 * s + t) y) := by
  have hn := hW.1
  have hu2 := best_lt hW hu
  obtain ⟨M2, g1, g2⟩ := c_bestRow hM hL hW hs law
  rw [hu] at g1
  have g1' : qP_bestRow M (nI s) law = some (nI u, M2) := g1
  have h66 : M 66 (4 * s + t) = nI c0 := by rw [hM.2.2.2.2.1]; exact hc
  unfold qP_edgeOf
  simp (disch := omega) only [zc_m4, nI_add, zq_in]
  rw [zb2_ok g1']
  refine zlp_ex (b := qP_edgeOf_L26 M (nI s) (nI t) law (nI u)) (I := fun i v => v.1 = nI (i + 1) ∧ cf M v.2 ∧ (∃ y, cT v.2 n m (zw A 2 (4 * s + t) y) ∧ lT v.2 n m (zw A 2 (4 * s + t) y)) ∧ ∀ o, 1 ≤ o → o ≤ i → eN (eG law A n m s t u) c0 o = none) 99 (E := fun o => ∃ x M', o = some (x, M') ∧ eR (eG law A n m s t u) c0 x ∧ cf M M' ∧ ∃ y, cT M' n m (zw A 2 (4 * s + t) y)) (zfu_gt (by omega)) (fun i hi v hv => ?_) (fun v hv => ?_) (s := (1, M2)) ⟨rfl, cf_wk g2, ⟨A 2 (4 * s + t), by rw [zw_id]; exact cT_wk g2 hM, by rw [zw_id]; exact lT_wk g2 hL⟩, fun o h1 h2 => by omega⟩
  · obtain ⟨v6, M4⟩ := v
    obtain ⟨e1, e2, ⟨y, e3, e4⟩, e5⟩ := hv
    dsimp only at e1 e2 e3 e4
    subst e1
    -- the upper one
    have upper : ¬ (i + 1 ≤ c0 ∧ eG law A n m s t u (c0 - (i + 1))) → ∀ (M8 : zM) (y8 : Int32), cf M M8 → cT M8 n m (zw A 2 (4 * s + t) y8) → lT M8 n m (zw A 2 (4 * s + t) y8) → (∃ s' : Int32 × zM, (s'.1 = nI (i + 1 + 1) ∧ cf M s'.2 ∧ (∃ y, cT s'.2 n m (zw A 2 (4 * s + t) y) ∧ lT s'.2 n m (zw A 2 (4 * s + t) y)) ∧ ∀ o, 1 ≤ o → o ≤ i + 1 → eN (eG law A n m s t u) c0 o = none) ∧ ∀ rc : (Int32 × zM) → Option (Int32 × zM), (if (99 : Int32) < nI (c0 + (i + 1)) then rc (nI (i + 1 + 1), M8) else zb2 (qP_turnsBest M8 (nI s) (nI t) law (nI (c0 + (i + 1))) (nI u)) fun x10 M11 => if x10 = 0 then rc (nI (i + 1 + 1), M11) else some (nI (c0 + (i + 1)), M11)) = rc s') ∨ (∃ e, (∃ x M', e = some (x, M') ∧ eR (eG law A n m s t u) c0 x ∧ cf M M' ∧ ∃ y, cT M' n m (zw A 2 (4 * s + t) y)) ∧ ∀ rc : (Int32 × zM) → Option (Int32 × zM), (if (99 : Int32) < nI (c0 + (i + 1)) then rc (nI (i + 1 + 1), M8) else zb2 (qP_turnsBest M8 (nI s) (nI t) law (nI (c0 + (i + 1))) (nI u)) fun x10 M11 => if x10 = 0 then rc (nI (i + 1 + 1), M11) else some (nI (c0 + (i + 1)), M11)) = e) := by
      intro hlow M8 y8 f1 f2 f3
      have none_of : ¬ (c0 + (i + 1) ≤ 99 ∧ eG law A n m s t u (c0 + (i + 1))) → ∀ o, 1 ≤ o → o ≤ i + 1 → eN (eG law A n m s t u) c0 o = none := fun hup o h1 h2 => by
        by_cases z : o = i + 1
        · subst z
          unfold eN
          rw [if_neg hlow, if_neg hup]
        · exact e5 o h1 (by omega)
      by_cases d : c0 + (i + 1) ≤ 99
      · have nd : ¬ (99 : Int32) < nI (c0 + (i + 1)) := nI_nlt (a := 99) (by omega) (by omega)
        obtain ⟨M11, t1, t2, t3, t4⟩ := c_turns f2 f3 rfl hW hs ht law hu2 (c0 + (i + 1))
        by_cases g : eG law A n m s t u (c0 + (i + 1))
        · refine Or.inr ⟨some (nI (c0 + (i + 1)), M11), ⟨_, _, rfl, Or.inl ⟨i + 1, by omega, by omega, fun o h1 h2 => e5 o h1 (by omega), c0 + (i + 1), ?_, rfl⟩, f1.tr t4, _, t2⟩, fun rc => ?_⟩
          · unfold eN
            rw [if_neg hlow, if_pos ⟨d, g⟩]
          · rw [if_neg nd, zb2_ok t1, pB_t g, if_neg z10]
        · refine Or.inl ⟨(nI (i + 1 + 1), M11), ⟨rfl, f1.tr t4, ⟨_, t2, t3⟩, none_of (fun h => g h.2)⟩, fun rc => ?_⟩
          rw [if_neg nd, zb2_ok t1, pB_f g, if_pos rfl]
      · refine Or.inl ⟨(nI (i + 1 + 1), M8), ⟨rfl, f1, ⟨y8, f2, f3⟩, none_of (fun h => d h.1)⟩, fun rc => ?_⟩
        rw [if_pos (show (99 : Int32) < nI (c0 + (i + 1)) from nI_lt (a := 99) (by omega) (by omega))]
    have n99 : ¬ (99 : Int32) < nI (i + 1) := nI_nlt (a := 99) (by omega) (by omega)
    by_cases d : i + 1 ≤ c0
    · have ed : nI c0 - nI (i + 1) = nI (c0 - (i + 1)) := pk_sub d
      obtain ⟨M13, t1, t2, t3, t4⟩ := c_turns e3 e4 rfl hW hs ht law hu2 (c0 - (i + 1))
      by_cases g : eG law A n m s t u (c0 - (i + 1))
      · refine Or.inr ⟨some (nI (c0 - (i + 1)), M13), ⟨_, _, rfl, Or.inl ⟨i + 1, by omega, by omega, fun o h1 h2 => e5 o h1 (by omega), c0 - (i + 1), ?_, rfl⟩, e2.tr t4, _, t2⟩, fun rc => ?_⟩
        · unfold eN
          rw [if_pos ⟨d, g⟩]
        · unfold qP_edgeOf_L26
          dsimp only
          rw [if_neg n99]
          simp (disch := omega) only [zlj_u, zc_m4, nI_add, zn_cl, h66, ed]
          rw [if_neg (nI_nn _ (by omega)), zb2_ok t1, pB_t g, if_neg z10]
      · rcases upper (fun h => g h.2) M13 _ (e2.tr t4) t2 t3 with ⟨s', a1, a2⟩ | ⟨e, a1, a2⟩
        · refine Or.inl ⟨s', a1, fun rc => ?_⟩
          rw [← a2 rc]
          unfold qP_edgeOf_L26
          dsimp only
          rw [if_neg n99]
          simp (disch := omega) only [zlj_u, zc_m4, nI_add, zn_cl, h66, ed, nI_1]
          rw [if_neg (nI_nn _ (by omega)), zb2_ok t1, pB_f g, if_pos rfl]
        · refine Or.inr ⟨e, a1, fun rc => ?_⟩
          rw [← a2 rc]
          unfold qP_edgeOf_L26
          dsimp only
          rw [if_neg n99]
          simp (disch := omega) only [zlj_u, zc_m4, nI_add, zn_cl, h66, ed, nI_1]
          rw [if_neg (nI_nn _ (by omega)), zb2_ok t1, pB_f g, if_pos rfl]
    · have ng : nI c0 - nI (i + 1) < 0 := pk_sneg (by omega) (by omega)
      rcases upper (fun h => d h.1) M4 y e2 e3 e4 with ⟨s', a1, a2⟩ | ⟨e, a1, a2⟩
      · refine Or.inl ⟨s', a1, fun rc => ?_⟩
        rw [← a2 rc]
        unfold qP_edgeOf_L26
        dsimp only
        rw [if_neg n99]
        simp (disch := omega) only [zlj_u, zc_m4, nI_add, zn_cl, h66, nI_1]
        rw [if_pos ng]
      · refine Or.inr ⟨e, a1, fun rc => ?_⟩
        rw [← a2 rc]
        unfold qP_edgeOf_L26
        dsimp only
        rw [if_neg n99]
        simp (disch := omega) only [zlj_u, zc_m4, nI_add, zn_cl, h66, nI_1]
        rw [if_pos ng]
  · obtain ⟨v6, M4⟩ := v
    obtain ⟨e1, e2, ⟨y, e3, e4⟩, e5⟩ := hv
    dsimp only at e1 e2 e3 e4
    subst e1
    refine ⟨some (-6, M4), ⟨_, _, rfl, Or.inr ⟨e5, rfl⟩, e2, y, e3⟩, fun rc => ?_⟩
    unfold qP_edgeOf_L26
    dsimp only
    rw [if_pos (show (99 : Int32) < nI (99 + 1) by decide)]
theorem zlp_1 {σ ρ : Type} {b : (σ → Option ρ) → σ → Option ρ} {s0 s1 : σ} {e : Option ρ} (h0 : ∀ rc, b rc s0 = rc s1) (h1 : ∀ rc, b rc s1 = e) : zlp b zfu s0 = e := by
  show zlp b (99998 + 1 + 1) s0 = e
  show b (zlp b (99998 + 1)) s0 = e
  rw [h0]
  show b (zlp b 99998) s1 = e
  rw [h1]
/-- the reference tries one cost -/
theorem m_try {M4 M11 : zM} {j : Nat} {x : Int32} (hj : j = 4 * s + t) (hM : mT M4 n m A) (hW : sWF n m A) (hlaw : M4 86 18 = law) (h01 : law = 0 ∨ law = 1) (hs : s < 2) (he : eM j19 (zw M4 87 j x) M11) (c : Nat) : ∃ M16, qM_bestOf (zw M11 87 j (nI c)) (nI s) = some (bV (sBest law (zw A 2 (4 * s + t) (nI c)) n m s), M16) ∧ eM j19 (zw M4 87 j (nI c)) M16 := by
  subst hj
  have he2 : eM j19 (zw M4 87 (4 * s + t) (nI c)) (zw M11 87 (4 * s + t) (nI c)) := by
    refine ⟨fun c' hc' => ?_, fun j' hj' => ?_⟩
    · by_cases z : c' = 87
      · subst z
        rw [zw_at, zw_at, he.1 87 (by decide), zw_at]
        funext i
        by_cases y : i = 4 * s + t
        · subst y; rw [pk_us, pk_us]
        · rw [pk_un y, pk_un y, pk_un y]
      · rw [zw_ne z, zw_ne z, he.1 c' hc', zw_ne z]
    · rw [zw_ne (by decide), zw_ne (by decide), he.2 j' hj', zw_ne (by decide)]
  have m1 : mT (zw M11 87 (4 * s + t) (nI c)) n m (zw A 2 (4 * s + t) (nI c)) := mT_eM he2 (by decide) (by decide) (mT_w2 hM (4 * s + t) (nI c))
  have hW' : sWF n m (zw A 2 (4 * s + t) (nI c)) := hW
  obtain ⟨M16, a1, a2, -⟩ := m_bestOf m1 hW' hs (law := law) (by rw [he2.2 18 (by decide), zw_ne (by decide)]; exact hlaw) h01
  exact ⟨M16, a1, he2.tr a2⟩
theorem m_edge (hM : mT M n m A) (hW : sWF n m A) (hlaw : M 86 18 = law) (h01 : law = 0 ∨ law = 1) (hs : s < 2) (ht : t < n) {u c0 : Nat} {x0 : Int32} (hu : sBest law A n m s = some (u, x0)) (hc : A 2 (4 * s + t) = nI c0) (hc9 : c0 ≤ 99) : ∃ x M', qM_edge M (nI s) (nI t) = some (x, M') ∧ eR (eG law A n m s t u) c0 x ∧ eM j19 M M' := by
  have hn := hW.1
  have hu2 := best_lt hW hu
  obtain ⟨M4, g1, g2, -⟩ := m_bestOf hM hW hs hlaw h01
  have hM4 : mT M4 n m A := mT_eM g2 (by decide) (by decide) hM
  have hl4 : M4 86 18 = law := by rw [g2.2 18 (by decide)]; exact hlaw
  have h87 : M4 87 (4 * s + t) = nI c0 := by rw [hM4.2.2.2.2.1]; exact hc
  have back : ∀ {M7 : zM} {x : Int32}, eM j19 (zw M4 87 (4 * s + t) x) M7 → eM j19 M (zw M7 87 (4 * s + t) (nI c0)) := by
    intro M7 x he
    refine g2.tr ⟨fun c' hc' => ?_, fun j' hj' => ?_⟩
    · by_cases z : c' = 87
      · subst z
        rw [zw_at, he.1 87 (by decide), zw_at]
        funext i
        by_cases y : i = 4 * s + t
        · subst y; rw [pk_us, h87]
        · rw [pk_un y, pk_un y]
      · rw [zw_ne z, he.1 c' hc', zw_ne z]
    · rw [zw_ne (by decide), he.2 j' hj', zw_ne (by decide)]
  unfold qM_edge
  rw [zb_ok m_isShop, if_pos (show sIn 0 1 (nI s) from sIn_t (h := 2) (by omega) hs), if_neg z10, zb_ok (m_isThing hM.1), if_pos (sIn_t (by omega) ht), if_neg z10, zb2_ok g1, hu, if_neg (show ¬ bV (some (u, x0)) < 0 from nI_nn u hu2), show bV (some (u, x0)) = nI u from rfl]
  simp (disch := omega) only [zn_4m, nI_add, zq_in]
  refine zlp_ex (b := qM_edge_L53 (nI s) (nI t) M4 (nI u)) (I := fun i v => v.2.1 = nI (i + 1) ∧ (∃ x, eM j19 (zw M4 87 (4 * s + t) x) v.2.2) ∧ ((v.1 = -6 ∧ ∀ o, 1 ≤ o → o ≤ i → eN (eG law A n m s t u) c0 o = none) ∨ (∃ c, c ≤ 99 ∧ v.1 = nI c ∧ eR (eG law A n m s t u) c0 (nI c)))) 99 (E := fun o => ∃ x M', o = some (x, M') ∧ eR (eG law A n m s t u) c0 x ∧ eM j19 M M') (zfu_gt (by omega)) (fun i hi v hv => ?_) (fun v hv => ?_) (s := (-6, 1, M4)) ⟨rfl, ⟨M4 87 (4 * s + t), by rw [zw_id]; exact eM.rf M4⟩, Or.inl ⟨rfl, fun o h1 h2 => by omega⟩⟩
  · obtain ⟨v6, v7, M7⟩ := v
    obtain ⟨e1, ⟨x, e2⟩, e3⟩ := hv
    dsimp only at e1 e2 e3
    subst e1
    have n99 : ¬ (99 : Int32) < nI (i + 1) := nI_nlt (a := 99) (by omega) (by omega)
    rcases e3 with ⟨rfl, e3⟩ | ⟨c, hc99, rfl, e3⟩
    · -- one cost by a price or not
      have one : ∀ (rc8 rc12 : (Int32 × Int32 × zM) → Option (Int32 × zM)) (tt : Nat) (M11 : zM), tt < 2 → qM_edge_L68 M4 (nI s) (nI t) (nI (i + 1)) (nI u) rc8 rc12 (-6, nI tt, M11) = (zb (qM_isPrice (if nI tt = 0 then nI c0 - nI (i + 1) else nI c0 + nI (i + 1))) fun x14 => if x14 = 0 then rc12 (-6, nI (tt + 1), M11) else zb2 (qM_bestOf (zw M11 87 (4 * s + t) (if nI tt = 0 then nI c0 - nI (i + 1) else nI c0 + nI (i + 1))) (nI s)) fun x15 M16 => if x15 < 0 then rc12 (-6, nI (tt + 1), M16) else if x15 = nI u then rc12 (-6, nI (tt + 1), M16) else rc12 ((if nI tt = 0 then nI c0 - nI (i + 1) else nI c0 + nI (i + 1)), nI (tt + 1), M16)) := fun rc8 rc12 tt M11 htt => by
        unfold qM_edge_L68
        simp (disch := omega) only [zn_lt2, if_pos htt, if_pos (show (-6 : Int32) < 0 by decide), zn_4m, nI_add, zn_cl, zq_in, h87, nI_1]
      have two : ∀ (rc8 rc12 : (Int32 × Int32 × zM) → Option (Int32 × zM)) (M11 : zM), qM_edge_L68 M4 (nI s) (nI t) (nI (i + 1)) (nI u) rc8 rc12 (-6, nI 2, M11) = rc8 (-6, nI (i + 1 + 1), M11) := fun rc8 rc12 M11 => by
        unfold qM_edge_L68
        simp only [if_neg (show ¬ nI 2 < 2 by decide), nI_1]
      have fnd : ∀ (rc8 rc12 : (Int32 × Int32 × zM) → Option (Int32 × zM)) (c tt : Nat) (M11 : zM), c ≤ 99 → qM_edge_L68 M4 (nI s) (nI t) (nI (i + 1)) (nI u) rc8 rc12 (nI c, nI tt, M11) = rc8 (nI c, nI (i + 1 + 1), M11) := fun rc8 rc12 c tt M11 hcc => by
        unfold qM_edge_L68
        simp only [if_neg (nI_nn c (by omega)), nI_1]
        split <;> rfl
      -- one turn, whole
      have turn : ∀ (tt cc : Nat) (M11 : zM) (x : Int32), tt < 2 → (if nI tt = 0 then nI c0 - nI (i + 1) else nI c0 + nI (i + 1)) = nI cc → cc ≤ 99 → eM j19 (zw M4 87 (4 * s + t) x) M11 → ∃ M16, (∃ x, eM j19 (zw M4 87 (4 * s + t) x) M16) ∧ ∀ rc8 rc12, qM_edge_L68 M4 (nI s) (nI t) (nI (i + 1)) (nI u) rc8 rc12 (-6, nI tt, M11) = rc12 (@ite _ (eG law A n m s t u cc) (Classical.propDecidable _) (nI cc) (-6), nI (tt + 1), M16) := fun tt cc M11 x htt hv hcc he => by
        obtain ⟨M16, a1, a2⟩ := m_try (j := 4 * s + t) rfl hM4 hW hl4 h01 hs he cc
        have hW' : sWF n m (zw A 2 (4 * s + t) (nI cc)) := hW
        obtain ⟨v1, v2, v3⟩ := eG_bv (law := law) (A := A) (n := n) (m := m) (s := s) (t := t) (c := cc) hu2 (fun b x h => best_lt hW' h)
        refine ⟨M16, ⟨_, a2⟩, fun rc8 rc12 => ?_⟩
        rw [one rc8 rc12 tt M11 htt, hv, zb_ok m_isPrice, if_pos (show sIn 0 99 (nI cc) from in_n (h := 99) (by omega) hcc), if_neg z10, zb2_ok a1]
        by_cases d1 : bV (sBest law (zw A 2 (4 * s + t) (nI cc)) n m s) < 0
        · have d1' : bV (sBest law (zw A 2 (4 * s + t) (nI cc)) n m s) = -6 := by
            cases h : sBest law (zw A 2 (4 * s + t) (nI cc)) n m s with
            | none => rfl
            | some p =>
              rw [h] at d1
              exact absurd d1 (nI_nn p.1 (best_lt hW' (show _ = some (p.1, p.2) from h)))
          rw [if_pos d1, if_neg (v1 d1')]
        · have d1' : ¬ bV (sBest law (zw A 2 (4 * s + t) (nI cc)) n m s) = -6 := fun h => d1 (by rw [h]; decide)
          rw [if_neg d1]
          by_cases d2 : bV (sBest law (zw A 2 (4 * s + t) (nI cc)) n m s) = nI u
          · rw [if_pos d2, if_neg (v2 d2)]
          · rw [if_neg d2, if_pos (v3 d1' d2)]
      have skip : ∀ (tt : Nat) (M11 : zM), tt < 2 → ¬ sIn 0 99 (if nI tt = 0 then nI c0 - nI (i + 1) else nI c0 + nI (i + 1)) → ∀ rc8 rc12, qM_edge_L68 M4 (nI s) (nI t) (nI (i + 1)) (nI u) rc8 rc12 (-6, nI tt, M11) = rc12 (-6, nI (tt + 1), M11) := fun tt M11 htt hno rc8 rc12 => by
        rw [one rc8 rc12 tt M11 htt, zb_ok m_isPrice, if_neg hno, if_pos rfl]
      have main : ∃ (v : Int32) (M8 : zM), (∃ x, eM j19 (zw M4 87 (4 * s + t) x) M8) ∧ ((v = -6 ∧ eN (eG law A n m s t u) c0 (i + 1) = none) ∨ ∃ c, c ≤ 99 ∧ v = nI c ∧ eN (eG law A n m s t u) c0 (i + 1) = some c) ∧ ∀ rc8, zlp (qM_edge_L68 M4 (nI s) (nI t) (nI (i + 1)) (nI u) rc8) zfu (-6, 0, M7) = rc8 (v, nI (i + 1 + 1), M8) := by
        have upper : ¬ (i + 1 ≤ c0 ∧ eG law A n m s t u (c0 - (i + 1))) → ∀ (M8 : zM) (x : Int32), eM j19 (zw M4 87 (4 * s + t) x) M8 → (∀ rc8 rc12, qM_edge_L68 M4 (nI s) (nI t) (nI (i + 1)) (nI u) rc8 rc12 (-6, 0, M7) = rc12 (-6, nI 1, M8)) → ∃ (v : Int32) (M8 : zM), (∃ x, eM j19 (zw M4 87 (4 * s + t) x) M8) ∧ ((v = -6 ∧ eN (eG law A n m s t u) c0 (i + 1) = none) ∨ ∃ c, c ≤ 99 ∧ v = nI c ∧ eN (eG law A n m s t u) c0 (i + 1) = some c) ∧ ∀ rc8, zlp (qM_edge_L68 M4 (nI s) (nI t) (nI (i + 1)) (nI u) rc8) zfu (-6, 0, M7) = rc8 (v, nI (i + 1 + 1), M8) := by
          intro hlow M8 x he h0
          have ev : (if nI 1 = 0 then nI c0 - nI (i + 1) else nI c0 + nI (i + 1)) = nI (c0 + (i + 1)) := by rw [if_neg (by decide), nI_add]
          by_cases d : c0 + (i + 1) ≤ 99
          · obtain ⟨M16, a1, a2⟩ := turn 1 (c0 + (i + 1)) M8 x (by omega) ev d he
            by_cases g : eG law A n m s t u (c0 + (i + 1))
            · refine ⟨nI (c0 + (i + 1)), M16, a1, Or.inr ⟨_, d, rfl, ?_⟩, fun rc8 => ?_⟩
              · unfold eN
                rw [if_neg hlow, if_pos ⟨d, g⟩]
              · refine zlp_2 (s1 := (-6, nI 1, M8)) (s2 := (nI (c0 + (i + 1)), nI 2, M16)) (fun rc => h0 rc8 rc) (fun rc => ?_) (fun rc => fnd rc8 rc _ 2 M16 d)
                rw [a2 rc8 rc, if_pos g]
            · refine ⟨-6, M16, a1, Or.inl ⟨rfl, ?_⟩, fun rc8 => ?_⟩
              · unfold eN
                rw [if_neg hlow, if_neg (fun h => g h.2)]
              · refine zlp_2 (s1 := (-6, nI 1, M8)) (s2 := (-6, nI 2, M16)) (fun rc => h0 rc8 rc) (fun rc => ?_) (fun rc => two rc8 rc M16)
                rw [a2 rc8 rc, if_neg g]
          · refine ⟨-6, M8, ⟨x, he⟩, Or.inl ⟨rfl, ?_⟩, fun rc8 => ?_⟩
            · unfold eN
              rw [if_neg hlow, if_neg (fun h => d h.1)]
            · refine zlp_2 (s1 := (-6, nI 1, M8)) (s2 := (-6, nI 2, M8)) (fun rc => h0 rc8 rc) (fun rc => skip 1 M8 (by omega) (by rw [ev]; exact fun h => h.2 (nI_lt (a := 99) (by omega) (by omega))) rc8 rc) (fun rc => two rc8 rc M8)
        have ev0 : (if nI 0 = 0 then nI c0 - nI (i + 1) else nI c0 + nI (i + 1)) = nI c0 - nI (i + 1) := if_pos rfl
        by_cases d : i + 1 ≤ c0
        · have ed : nI c0 - nI (i + 1) = nI (c0 - (i + 1)) := pk_sub d
          obtain ⟨M16, ⟨x16, a1⟩, a2⟩ := turn 0 (c0 - (i + 1)) M7 x (by omega) (ev0.trans ed) (by omega) e2
          by_cases g : eG law A n m s t u (c0 - (i + 1))
          · refine ⟨nI (c0 - (i + 1)), M16, ⟨x16, a1⟩, Or.inr ⟨_, by omega, rfl, ?_⟩, fun rc8 => ?_⟩
            · unfold eN
              rw [if_pos ⟨d, g⟩]
            · refine zlp_1 (s1 := (nI (c0 - (i + 1)), nI 1, M16)) (fun rc => ?_) (fun rc => fnd rc8 rc _ 1 M16 (by omega))
              have := a2 rc8 rc
              rw [if_pos g] at this
              exact this
          · refine upper (fun h => g h.2) M16 x16 a1 (fun rc8 rc12 => ?_)
            have := a2 rc8 rc12
            rw [if_neg g] at this
            exact this
        · have ng : nI c0 - nI (i + 1) < 0 := pk_sneg (by omega) (by omega)
          exact upper (fun h => d h.1) M7 x e2 (fun rc8 rc12 => skip 0 M7 (by omega) (by rw [ev0]; exact fun h => h.1 ng) rc8 rc12)
      obtain ⟨v, M8, b1, b2, b3⟩ := main
      refine Or.inl ⟨(v, nI (i + 1 + 1), M8), ⟨rfl, b1, ?_⟩, fun rc => ?_⟩
      · rcases b2 with ⟨b2, b4⟩ | ⟨c, b2, b4, b5⟩
        · refine Or.inl ⟨b2, fun o h1 h2 => ?_⟩
          by_cases z : o = i + 1
          · subst z; exact b4
          · exact e3 o h1 (by omega)
        · exact Or.inr ⟨c, b2, b4, Or.inl ⟨i + 1, by omega, by omega, fun o h1 h2 => e3 o h1 (by omega), c, b5, rfl⟩⟩
      · unfold qM_edge_L53
        dsimp only
        rw [if_neg n99, if_pos (show (-6 : Int32) < 0 by decide)]
        exact b3 rc
    · refine Or.inr ⟨some (nI c, zw M7 87 (4 * s + t) (nI c0)), ⟨_, _, rfl, e3, back e2⟩, fun rc => ?_⟩
      unfold qM_edge_L53
      dsimp only
      rw [if_neg n99, if_neg (nI_nn c (by omega))]
      simp (disch := omega) only [zn_4m, nI_add, zn_cl, zq_in, h87]
  · obtain ⟨v6, v7, M7⟩ := v
    obtain ⟨e1, ⟨x, e2⟩, e3⟩ := hv
    dsimp only at e1 e2 e3
    subst e1
    have fin : ∀ rc, qM_edge_L53 (nI s) (nI t) M4 (nI u) rc (v6, nI (99 + 1), M7) = some (v6, zw M7 87 (4 * s + t) (nI c0)) := fun rc => by
      unfold qM_edge_L53
      dsimp only
      rw [if_pos (show (99 : Int32) < nI (99 + 1) by decide)]
      simp (disch := omega) only [zn_4m, nI_add, zn_cl, zq_in, h87]
    refine ⟨some (v6, zw M7 87 (4 * s + t) (nI c0)), ⟨_, _, rfl, ?_, back e2⟩, fin⟩
    rcases e3 with ⟨rfl, e3⟩ | ⟨c, -, rfl, e3⟩
    · exact Or.inr ⟨e3, rfl⟩
    · exact e3
theorem k_edge (hI : zI M) (a b : Int32) : ∃ x M1 M2, qS_edge M a b = some (x, M1) ∧ qM_edge M1 a b = some (x, M2) ∧ zI M2 := by
  obtain ⟨n, m, k, law, A, hI⟩ := hI
  have hn := hI.n4
  unfold qS_edge
  rw [zb_ok c_noShop]
  by_cases c : sIn 0 1 a
  · rw [if_pos c, if_pos rfl, zb_ok (c_noThing hI.c.n)]
    by_cases c2 : sIn 0 (nI n - 1) b
    · rw [if_pos c2, if_pos rfl]
      obtain ⟨s, hs, rfl⟩ := sIn_n (h := 1) (by omega) c
      obtain ⟨t, ht, rfl⟩ := sIn_m (by omega) c2
      have hs2 : s < 2 := by omega
      rw [hI.l2, zb_ok (c_forbids hI hs2 hI.w.law01)]
      by_cases hb : sBest law A n m s = none
      · rw [pB_t hb, if_neg z10]
        obtain ⟨M3, g1, g2, g3⟩ := m_bestOf hI.m.t hI.w.wf hs2 hI.m.l hI.w.law01
        refine ⟨_, _, M3, rfl, ?_, (zIn_19 hI g2).z⟩
        unfold qM_edge
        rw [zb_ok m_isShop, if_pos c, if_neg z10, zb_ok (m_isThing hI.m.t.1), if_pos c2, if_neg z10, zb2_ok g1, hb, if_pos (show bV none < 0 by decide)]
      · rw [pB_f hb, if_pos rfl]
        obtain ⟨u, x0, hbx, -, -, -⟩ := best_some hb
        obtain ⟨c0, hc9, hc⟩ := sIn_n (h := 99) (by omega) (hI.w.co (4 * s + t))
        obtain ⟨M1, g1, g2, g3, g4, g5⟩ := c_look hI
        have hI1 := zIn_look hI g2 g5
        obtain ⟨x, M6, f1, f2, f3, y, f4⟩ := c_edgeOf g3 g4 hI.w.wf hs2 ht law hbx hc hc9
        rw [zb_ok g1, hI1.l2, zb2_ok f1]
        have hI6 : zIn M6 n m k law A := zIn_t hI ((cf_look g2).tr f3) f4 (az_w2 (az_of hI) (by omega) y)
        obtain ⟨x', M7, h1, h2, h3⟩ := m_edge hI6.m.t hI6.w.wf hI6.m.l hI6.w.law01 hs2 ht hbx hc hc9
        have e := eR_one f2 h2
        subst e
        exact ⟨_, _, M7, rfl, h1, (zIn_19 hI6 h3).z⟩
    · rw [if_neg c2, if_neg z10]
      refine ⟨_, _, _, rfl, ?_, hI.z⟩
      unfold qM_edge
      rw [zb_ok m_isShop, if_pos c, if_neg z10, zb_ok (m_isThing hI.m.t.1), if_neg c2, if_pos rfl]
  · rw [if_neg c, if_neg z10]
    refine ⟨_, _, _, rfl, ?_, hI.z⟩
    unfold qM_edge
    rw [zb_ok m_isShop, if_neg c, if_pos rfl]
end ZEdge
