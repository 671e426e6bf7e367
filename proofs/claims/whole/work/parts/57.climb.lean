section ZClimb
variable {M : zM} {n m k : Nat} {law : Int32} {A A' : zM} {q s t : Nat}
theorem zw_id (M : zM) (r j : Nat) : zw M r j (M r j) = M := by
  funext c i
  by_cases hc : c = r
  · subst hc
    rw [zw_at]
    by_cases hi : i = j
    · subst hi; rw [pk_us]
    · rw [pk_un hi]
  · rw [zw_ne hc]
theorem zw_zw (M : zM) (r j : Nat) (x y : Int32) : zw (zw M r j x) r j y = zw M r j y := by
  funext c i
  by_cases hc : c = r
  · subst hc
    rw [zw_at, zw_at, zw_at]
    by_cases hi : i = j
    · subst hi; rw [pk_us, pk_us]
    · rw [pk_un hi, pk_un hi, pk_un hi]
  · rw [zw_ne hc, zw_ne hc, zw_ne hc]
/-- the same town but for the steps of one shop -/
def sE (A A' : zM) (n s : Nat) : Prop := (∀ c, c ≠ 4 → A' c = A c) ∧ ∀ j, ¬ (4 * s ≤ j ∧ j < 4 * s + n) → A' 4 j = A 4 j
theorem sE.rf (A : zM) : sE A A n s := ⟨fun _ _ => rfl, fun _ _ => rfl⟩
theorem sE.tr {A1 A2 A3 : zM} (h1 : sE A1 A2 n s) (h2 : sE A2 A3 n s) : sE A1 A3 n s := ⟨fun c h => (h2.1 c h).trans (h1.1 c h), fun j h => (h2.2 j h).trans (h1.2 j h)⟩
theorem sE_w (ht : t < n) (x : Int32) : sE A (zw A 4 (4 * s + t) x) n s := ⟨fun c h => zw_ne h, fun j h => zw_other (by omega)⟩
theorem sE_K (h : sE A A' n s) : sK A' = sK A := by
  funext t
  unfold sK
  rw [h.1 0 (by decide)]
theorem sE_lay (h : sE A A' n s) (r : Nat) : sLay A' n s r = sLay A n s r := by
  funext j
  unfold sLay
  rw [sE_K h]
  by_cases c : 4 * s ≤ j ∧ j < 4 * s + n
  · rw [if_pos c, if_pos c]
  · rw [if_neg c, if_neg c]; exact h.2 j c
theorem sE_zA (h : sE A A' n s) (f : Nat → Int32) : zA A' 4 f = zA A 4 f := by
  funext c
  by_cases hc : c = 4
  · subst hc; rw [zA_self, zA_self]
  · rw [zA_ne hc, zA_ne hc, h.1 c hc]
theorem sE_L (h : sE A A' n s) (r : Nat) : sL A' n m s r = sL A n m s r := by
  unfold sL
  rw [sE_lay h, sE_zA h]
theorem sE_O (h : sE A A' n s) (r : Nat) : sO law A' n s r ↔ sO law A n s r := by
  unfold sO
  rw [sE_lay h, sE_zA h]
theorem sE_f (h : sE A A' n s) : zA A 4 (A' 4) = A' := by
  rw [← sE_zA h]
  exact zA_id rfl
/-- the town's row -/
def sRo (A : zM) (n s : Nat) : Nat := sRw (sK A) (sAt A s) n
theorem sL_ro (hW : sWF n m A) (hs : s < 2) : sL A n m s (sRo A n s) = sLf A n m s := by
  unfold sL sRo
  rw [sLay_id hW hs, zA_id rfl]
theorem sRo_lt (hW : sWF n m A) (hs : s < 2) : sRo A n s < sRc (sK A) n := sRw_lt (fun t ht => (wf_A hW hs ht).2)
/-! one thing moves -/
noncomputable def mvF (law : Int32) (A : zM) (n m s t : Nat) : Nat → Nat × Int32
  | 0 => (sAt A s t, sLf A n m s)
  | k + 1 => @ite _ ((law = 0 ∨ ¬ sPr (zw A 4 (4 * s + t) (nI k)) s t < A 2 (4 * s + t)) ∧ (mvF law A n m s t k).2 < sLf (zw A 4 (4 * s + t) (nI k)) n m s) (Classical.propDecidable _) (k, sLf (zw A 4 (4 * s + t) (nI k)) n m s) (mvF law A n m s t k)
noncomputable def mvB (law : Int32) (A : zM) (n m s t : Nat) : Nat := (mvF law A n m s t (sK A t)).1
noncomputable def mvA (law : Int32) (A : zM) (n m s t : Nat) : zM := zw A 4 (4 * s + t) (nI (mvB law A n m s t))
theorem mvF_s (k : Nat) : mvF law A n m s t (k + 1) = @ite _ ((law = 0 ∨ ¬ sPr (zw A 4 (4 * s + t) (nI k)) s t < A 2 (4 * s + t)) ∧ (mvF law A n m s t k).2 < sLf (zw A 4 (4 * s + t) (nI k)) n m s) (Classical.propDecidable _) (k, sLf (zw A 4 (4 * s + t) (nI k)) n m s) (mvF law A n m s t k) := rfl
theorem at_id (hW : sWF n m A) (hs : s < 2) (ht : t < n) : zw A 4 (4 * s + t) (nI (sAt A s t)) = A := by
  rw [← (wf_A hW hs ht).1]
  exact zw_id A 4 (4 * s + t)
theorem mvF_ok (hW : sWF n m A) (hs : s < 2) (ht : t < n) : ∀ k, k ≤ sK A t → (mvF law A n m s t k).1 < sK A t ∧ (mvF law A n m s t k).2 = sLf (zw A 4 (4 * s + t) (nI (mvF law A n m s t k).1)) n m s ∧ (((mvF law A n m s t k).1 = sAt A s t ∧ (mvF law A n m s t k).2 = sLf A n m s) ∨ ((mvF law A n m s t k).1 ≠ sAt A s t ∧ sLf A n m s < (mvF law A n m s t k).2))
  | 0, _ => ⟨(wf_A hW hs ht).2, by show sLf A n m s = sLf (zw A 4 (4 * s + t) (nI (sAt A s t))) n m s; rw [at_id hW hs ht], Or.inl ⟨rfl, rfl⟩⟩
  | k + 1, hk => by
    have ih := mvF_ok hW hs ht k (by omega)
    rw [mvF_s]
    by_cases c : (law = 0 ∨ ¬ sPr (zw A 4 (4 * s + t) (nI k)) s t < A 2 (4 * s + t)) ∧ (mvF law A n m s t k).2 < sLf (zw A 4 (4 * s + t) (nI k)) n m s
    · rw [if_pos c]
      have hlt : sLf A n m s < sLf (zw A 4 (4 * s + t) (nI k)) n m s := by
        rcases ih.2.2 with z | z
        · rw [← z.2]; exact c.2
        · exact Int32.lt_trans z.2 c.2
      refine ⟨by show k < _; omega, rfl, Or.inr ⟨fun e => ?_, hlt⟩⟩
      have e' : k = sAt A s t := e
      rw [e', at_id hW hs ht] at hlt
      exact Int32.lt_irrefl hlt
    · rw [if_neg c]
      exact ih
theorem mv_ok (w : wF n m k law A) (law' : Int32) (hs : s < 2) (ht : t < n) : wF n m k law (mvA law' A n m s t) ∧ sE A (mvA law' A n m s t) n s ∧ ((mvB law' A n m s t = sAt A s t ∧ mvA law' A n m s t = A) ∨ (mvB law' A n m s t ≠ sAt A s t ∧ sLf A n m s < sLf (mvA law' A n m s t) n m s)) := by
  obtain ⟨h1, h2, h3⟩ := mvF_ok (law := law') w.wf hs ht (sK A t) (Nat.le_refl _)
  refine ⟨wF_w4 w hs ht h1, sE_w ht _, ?_⟩
  rcases h3 with z | z
  · exact Or.inl ⟨z.1, by unfold mvA mvB; rw [z.1]; exact at_id w.wf hs ht⟩
  · refine Or.inr ⟨z.1, ?_⟩
    unfold mvA mvB
    rw [← h2]
    exact z.2
theorem pr_w4 (hs : s < 2) (hn : n ≤ 4) (ht : t < n) {x : Nat} (hx : x < 2147483648) : sPr (zw A 4 (4 * s + t) (nI x)) s t = A 1 (3 * t + x) := by
  show A 1 (3 * t + (zw A 4 (4 * s + t) (nI x) 4 (4 * s + t)).toNatClampNeg) = _
  rw [zw_same, zn_cl hx]
/-- of the walks' own cells and the trial's steps alone -/
def ck (M M' : zM) : Prop := ∀ c, c ≠ 68 → c ≠ 73 → c ≠ 74 → M' c = M c
theorem ck.rf (M : zM) : ck M M := fun _ _ _ _ => rfl
theorem ck.tr {M1 M2 M3 : zM} (h1 : ck M1 M2) (h2 : ck M2 M3) : ck M1 M3 := fun c a b d => (h2 c a b d).trans (h1 c a b d)
theorem ck_wk {M' : zM} (h : wk M M') : ck M M' := fun c _ b d => h c b d
theorem ck_w (M : zM) (j : Nat) (x : Int32) : ck M (zw M 68 j x) := fun _ a _ _ => zw_ne a
theorem ck_68 {M' : zM} (h : ∀ c, c ≠ 68 → M' c = M c) : ck M M' := fun c a _ _ => h c a
theorem cf_ck {M' : zM} (h : ck M M') : cf M M' := fun c hc => h c (by omega) (by omega) (by omega)
theorem c_moveThing (hM : cT M n m A) (hL : lT M n m A) (w : wF n m k law A) (law' : Int32) (hs : s < 2) (ht : t < n) : ∃ M', qP_moveThing M (nI s) (nI t) law' = some (pB (mvB law' A n m s t ≠ sAt A s t), M') ∧ cT M' n m (mvA law' A n m s t) ∧ lT M' n m (mvA law' A n m s t) ∧ ck M M' := by
  have hn := w.wf.1
  obtain ⟨k1, k2, k3⟩ := wf_K w.wf ht
  have hat := (wf_A w.wf hs ht)
  obtain ⟨M2, g1, g2⟩ := c_leftOf hM hL w.wf hs
  have h68 : M 68 (4 * s + t) = nI (sAt A s t) := by rw [hM.2.2.2.2.2.2.1]; exact hat.1
  unfold qP_moveThing
  simp (disch := omega) only [zc_m4, nI_add, zn_cl, zq_in, h68]
  rw [zb2_ok g1]
  refine zlp_inv (b := qP_moveThing_L36 (nI t) (nI s) law' M) (I := fun i v => v.1 = nI (mvF law' A n m s t i).1 ∧ v.2.1 = (mvF law' A n m s t i).2 ∧ v.2.2.1 = nI i ∧ ck M v.2.2.2 ∧ ∃ x, cT v.2.2.2 n m (zw A 4 (4 * s + t) x) ∧ lT v.2.2.2 n m (zw A 4 (4 * s + t) x)) (sK A t) (E := fun o => ∃ M', o = some (pB (mvB law' A n m s t ≠ sAt A s t), M') ∧ cT M' n m (mvA law' A n m s t) ∧ lT M' n m (mvA law' A n m s t) ∧ ck M M') (zfu_gt (by omega)) (fun i hi v hv => ?_) (fun v hv => ?_) ⟨rfl, rfl, rfl, ck_wk g2, A 4 (4 * s + t), by rw [zw_id]; exact cT_wk g2 hM, by rw [zw_id]; exact lT_wk g2 hL⟩
  · obtain ⟨v6, v7, v8, M6⟩ := v
    obtain ⟨e1, e2, e3, e4, x, e5, e6⟩ := hv
    dsimp only at e1 e2 e3 e4 e5 e6
    subst e3
    have hk : M6 64 t = nI (sK A t) := by rw [e5.2.2.1]; exact k1
    have c8 : cT (zw M6 68 (4 * s + t) (nI i)) n m (zw A 4 (4 * s + t) (nI i)) := by
      have := cT_w4 e5 (4 * s + t) (nI i)
      rw [zw_zw] at this
      exact this
    have l8 : lT (zw M6 68 (4 * s + t) (nI i)) n m (zw A 4 (4 * s + t) (nI i)) := by
      have := lT_w4 e6 (4 * s + t) (nI i)
      rw [zw_zw] at this
      exact this
    have w8 : wF n m k law (zw A 4 (4 * s + t) (nI i)) := wF_w4 w hs ht hi
    obtain ⟨M11, f1, f2⟩ := c_leftOf c8 l8 w8.wf hs
    have hb := c_isBelow c8 w8.wf hs ht
    have fr : ck M M11 := e4.tr ((ck_w M6 _ _).tr (ck_wk f2))
    have con : ∀ rc : (Int32 × Int32 × Int32 × zM) → Option (Int32 × zM), (zb2 (qW_leftOf (zw M6 68 (4 * s + t) (nI i)) (nI s)) fun x10 M11 => if v7 < x10 then rc (nI i, x10, nI (i + 1), M11) else rc (v6, v7, nI (i + 1), M11)) = if v7 < sLf (zw A 4 (4 * s + t) (nI i)) n m s then rc (nI i, sLf (zw A 4 (4 * s + t) (nI i)) n m s, nI (i + 1), M11) else rc (v6, v7, nI (i + 1), M11) := fun rc => by rw [zb2_ok f1]
    by_cases cl : law' = 0 ∨ ¬ sPr (zw A 4 (4 * s + t) (nI i)) s t < A 2 (4 * s + t)
    · have hd : ∀ rc, qP_moveThing_L36 (nI t) (nI s) law' M rc (v6, v7, nI i, M6) = if v7 < sLf (zw A 4 (4 * s + t) (nI i)) n m s then rc (nI i, sLf (zw A 4 (4 * s + t) (nI i)) n m s, nI (i + 1), M11) else rc (v6, v7, nI (i + 1), M11) := fun rc => by
        unfold qP_moveThing_L36
        simp (disch := omega) only [zn_cl, zq_in, hk, zn_lt, if_pos hi, zc_m4, nI_add, nI_1, zlj_u]
        rw [con rc]
        by_cases cz : law' = 0
        · rw [if_pos cz]
        · rw [if_neg cz, zb_ok hb, if_neg (show ¬ sPr (zw A 4 (4 * s + t) (nI i)) s t < (zw A 4 (4 * s + t) (nI i)) 2 (4 * s + t) from cl.resolve_left cz), if_pos rfl]
      by_cases c2 : (mvF law' A n m s t i).2 < sLf (zw A 4 (4 * s + t) (nI i)) n m s
      · refine ⟨(nI i, sLf (zw A 4 (4 * s + t) (nI i)) n m s, nI (i + 1), M11), ⟨?_, ?_, rfl, fr, nI i, cT_wk f2 c8, lT_wk f2 l8⟩, fun rc => ?_⟩
        · rw [mvF_s, if_pos ⟨cl, c2⟩]
        · rw [mvF_s, if_pos ⟨cl, c2⟩]
        · rw [hd rc, if_pos (by rw [e2]; exact c2)]
      · refine ⟨(v6, v7, nI (i + 1), M11), ⟨?_, ?_, rfl, fr, nI i, cT_wk f2 c8, lT_wk f2 l8⟩, fun rc => ?_⟩
        · rw [mvF_s, if_neg (fun h => c2 h.2)]; exact e1
        · rw [mvF_s, if_neg (fun h => c2 h.2)]; exact e2
        · rw [hd rc, if_neg (by rw [e2]; exact c2)]
    · refine ⟨(v6, v7, nI (i + 1), zw M6 68 (4 * s + t) (nI i)), ⟨?_, ?_, rfl, e4.tr (ck_w M6 _ _), nI i, c8, l8⟩, fun rc => ?_⟩
      · rw [mvF_s, if_neg (fun h => cl h.1)]; exact e1
      · rw [mvF_s, if_neg (fun h => cl h.1)]; exact e2
      · have hlt : sPr (zw A 4 (4 * s + t) (nI i)) s t < A 2 (4 * s + t) := Classical.not_not.mp (fun h => cl (Or.inr h))
        unfold qP_moveThing_L36
        simp (disch := omega) only [zn_cl, zq_in, hk, zn_lt, if_pos hi, zc_m4, nI_add, nI_1, zlj_u]
        rw [if_neg (fun h => cl (Or.inl h)), zb_ok hb, if_pos (show sPr (zw A 4 (4 * s + t) (nI i)) s t < (zw A 4 (4 * s + t) (nI i)) 2 (4 * s + t) from hlt), if_neg z10]
  · obtain ⟨v6, v7, v8, M6⟩ := v
    obtain ⟨e1, e2, e3, e4, x, e5, e6⟩ := hv
    dsimp only at e1 e2 e3 e4 e5 e6
    subst e1 e3
    have hk : M6 64 t = nI (sK A t) := by rw [e5.2.2.1]; exact k1
    have hB : (mvF law' A n m s t (sK A t)).1 = mvB law' A n m s t := rfl
    have hlt : mvB law' A n m s t < sK A t := (mvF_ok w.wf hs ht (sK A t) (Nat.le_refl _)).1
    refine ⟨some (pB (mvB law' A n m s t ≠ sAt A s t), zw M6 68 (4 * s + t) (nI (mvB law' A n m s t))), ⟨_, rfl, ?_, ?_, e4.tr (ck_w M6 _ _)⟩, fun rc => ?_⟩
    · have := cT_w4 e5 (4 * s + t) (nI (mvB law' A n m s t))
      rw [zw_zw] at this
      exact this
    · have := lT_w4 e6 (4 * s + t) (nI (mvB law' A n m s t))
      rw [zw_zw] at this
      exact this
    · unfold qP_moveThing_L36
      simp (disch := omega) only [zn_cl, zq_in, hk, zn_lt, Nat.lt_irrefl, if_false, zc_m4, nI_add, h68, hB, zn_eq]
      by_cases c : mvB law' A n m s t = sAt A s t
      · rw [if_pos c, pB_f (fun h => h c)]
      · rw [if_neg c, pB_t c]
/-! one round -/
noncomputable def rdA (law : Int32) (A : zM) (n m s : Nat) : Nat → zM
  | 0 => A
  | t + 1 => mvA law (rdA law A n m s t) n m s t
def rdC (law : Int32) (A : zM) (n m s : Nat) : Nat → Prop
  | 0 => False
  | t + 1 => rdC law A n m s t ∨ mvB law (rdA law A n m s t) n m s t ≠ sAt (rdA law A n m s t) s t
theorem rd_ok (w : wF n m k law A) (law' : Int32) (hs : s < 2) : ∀ t, t ≤ n → wF n m k law (rdA law' A n m s t) ∧ sE A (rdA law' A n m s t) n s ∧ ((¬ rdC law' A n m s t ∧ rdA law' A n m s t = A) ∨ (rdC law' A n m s t ∧ sLf A n m s < sLf (rdA law' A n m s t) n m s))
  | 0, _ => ⟨w, sE.rf A, Or.inl ⟨fun h => h, rfl⟩⟩
  | t + 1, ht => by
    obtain ⟨h1, h2, h3⟩ := rd_ok w law' hs t (by omega)
    obtain ⟨g1, g2, g3⟩ := mv_ok h1 law' hs (show t < n by omega)
    refine ⟨g1, h2.tr g2, ?_⟩
    rcases g3 with ⟨g3, g4⟩ | ⟨g3, g4⟩
    · rcases h3 with ⟨h3, h4⟩ | ⟨h3, h4⟩
      · exact Or.inl ⟨fun z => z.elim h3 (fun z => z g3), g4.trans h4⟩
      · refine Or.inr ⟨Or.inl h3, ?_⟩
        show _ < sLf (mvA law' (rdA law' A n m s t) n m s t) n m s
        rw [g4]
        exact h4
    · rcases h3 with ⟨h3, h4⟩ | ⟨h3, h4⟩
      · refine Or.inr ⟨Or.inr g3, ?_⟩
        show _ < sLf (mvA law' (rdA law' A n m s t) n m s t) n m s
        rw [h4] at g4 ⊢
        exact g4
      · exact Or.inr ⟨Or.inl h3, Int32.lt_trans h4 g4⟩
theorem c_round (hM : cT M n m A) (hL : lT M n m A) (w : wF n m k law A) (law' : Int32) (hs : s < 2) (rnd : Int32) : ∃ M', (∀ rc, zlp (qP_climbedRow_L21 (nI s) law' rc rnd) zfu (0, 0, M) = rc (pB (rdC law' A n m s n), rnd + 1, M')) ∧ cT M' n m (rdA law' A n m s n) ∧ lT M' n m (rdA law' A n m s n) ∧ ck M M' := by
  have hn := w.wf.1
  have key := zlp_fam (b := fun rc => qP_climbedRow_L21 (nI s) law' rc rnd) (I := fun i v => v.1 = pB (rdC law' A n m s i) ∧ v.2.1 = nI i ∧ cT v.2.2 n m (rdA law' A n m s i) ∧ lT v.2.2 n m (rdA law' A n m s i) ∧ ck M v.2.2) n (F := zfu) (zfu_gt (by omega)) (e := fun rc M' => rc (pB (rdC law' A n m s n), rnd + 1, M')) (P := fun M' => cT M' n m (rdA law' A n m s n) ∧ lT M' n m (rdA law' A n m s n) ∧ ck M M') (fun i hi v hv => ?_) (fun v hv => ?_) (s := (0, 0, M)) ⟨(pB_f (fun h => h)).symm, rfl, hM, hL, ck.rf M⟩
  · obtain ⟨M', h1, h2⟩ := key
    exact ⟨M', h2, h1⟩
  · obtain ⟨v1, v2, M3⟩ := v
    obtain ⟨e1, e2, e3, e4, e5⟩ := hv
    dsimp only at e1 e2 e3 e4 e5
    subst e1 e2
    obtain ⟨w1, -, -⟩ := rd_ok w law' hs i (by omega)
    obtain ⟨M4, f1, f2, f3, f4⟩ := c_moveThing e3 e4 w1 law' hs hi
    refine ⟨(pB (rdC law' A n m s (i + 1)), nI (i + 1), M4), ⟨rfl, rfl, f2, f3, e5.tr f4⟩, fun g rc => ?_⟩
    unfold qP_climbedRow_L21
    simp (disch := omega) only [e3.1, zn_lt, if_pos hi, nI_1]
    rw [zb2_ok f1]
    by_cases c : mvB law' (rdA law' A n m s i) n m s i ≠ sAt (rdA law' A n m s i) s i
    · rw [pB_t c, if_neg z10, pB_t (show rdC law' A n m s (i + 1) from Or.inr c)]
    · rw [pB_f c, if_pos rfl]
      have : rdC law' A n m s (i + 1) = rdC law' A n m s i := propext ⟨fun h => h.resolve_right c, Or.inl⟩
      rw [this]
  · obtain ⟨v1, v2, M3⟩ := v
    obtain ⟨e1, e2, e3, e4, e5⟩ := hv
    dsimp only at e1 e2 e3 e4 e5
    subst e1 e2
    refine ⟨M3, ⟨e3, e4, e5⟩, fun g rc => ?_⟩
    unfold qP_climbedRow_L21
    simp (disch := omega) only [e3.1, zn_lt, Nat.lt_irrefl, if_false]
end ZClimb
