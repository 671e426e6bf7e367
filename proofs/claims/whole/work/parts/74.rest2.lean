section ZRest2
variable {M : zM} {n m k : Nat} {law : Int32} {A A' : zM} {q s t a b : Nat}
/-- a loop within a loop, with ends on the way -/
theorem zlp_fx {γ σ ρ : Type} {b : γ → (σ → Option ρ) → σ → Option ρ} (I : Nat → σ → Prop) (n : Nat) {F : Nat} (hF : n < F) {P : (γ → Option ρ) → Prop} (hs : ∀ i, i < n → ∀ s, I i s → (∃ s', I (i + 1) s' ∧ ∀ g rc, b g rc s = rc s') ∨ (∃ e, P e ∧ ∀ g rc, b g rc s = e g)) (he : ∀ s, I n s → ∃ e, P e ∧ ∀ g rc, b g rc s = e g) {s : σ} (h0 : I 0 s) : ∃ e, P e ∧ ∀ g, zlp (b g) F s = e g := by
  have key : ∀ k i : Nat, i + k = n → ∀ (F : Nat) (s : σ), I i s → k < F → ∃ e, P e ∧ ∀ g, zlp (b g) F s = e g := by
    intro k
    induction k with
    | zero =>
      intro i hi F s hI hF
      obtain ⟨F, rfl⟩ : ∃ F', F = F' + 1 := ⟨F - 1, by omega⟩
      have : i = n := by omega
      subst this
      obtain ⟨e, h1, h2⟩ := he s hI
      exact ⟨e, h1, fun g => h2 g _⟩
    | succ k ih =>
      intro i hi F s hI hF
      obtain ⟨F, rfl⟩ : ∃ F', F = F' + 1 := ⟨F - 1, by omega⟩
      rcases hs i (by omega) s hI with ⟨s', h1, h2⟩ | ⟨e, h1, h2⟩
      · obtain ⟨e, h3, h4⟩ := ih (i + 1) (by omega) F s' h1 (by omega)
        exact ⟨e, h3, fun g => (h2 g _).trans (h4 g)⟩
      · exact ⟨e, h1, fun g => h2 g _⟩
  exact key n 0 (by omega) F s h0 hF
noncomputable def rC (Q : Nat → Nat → Prop) (a : Nat) : Nat → Nat
  | 0 => 0
  | b + 1 => rC Q a b + @ite _ (Q a b) (Classical.propDecidable _) 1 0
noncomputable def rTt (Q : Nat → Nat → Prop) (R : Nat) : Nat → Nat
  | 0 => 0
  | a + 1 => rTt Q R a + rC Q a R
theorem rC_s (Q : Nat → Nat → Prop) (a b : Nat) : rC Q a (b + 1) = rC Q a b + @ite _ (Q a b) (Classical.propDecidable _) 1 0 := rfl
theorem rC_le (Q : Nat → Nat → Prop) (a : Nat) : ∀ b, rC Q a b ≤ b
  | 0 => Nat.le_refl _
  | b + 1 => by
    have := rC_le Q a b
    rw [rC_s]
    split <;> omega
theorem rTt_le (Q : Nat → Nat → Prop) {R : Nat} (hR : R ≤ 81) : ∀ a, rTt Q R a ≤ a * 81
  | 0 => Nat.zero_le _
  | a + 1 => by
    have h1 := rTt_le Q hR a
    have h2 := rC_le Q a R
    show rTt Q R a + rC Q a R ≤ _
    omega
/-- the first pair, by rows, of a kind -/
def fX (Q : Nat → Nat → Prop) (R : Nat) (z x : Int32) : Prop := (∃ a b, a < R ∧ b < R ∧ Q a b ∧ (∀ a' b', b' < R → (a' < a ∨ (a' = a ∧ b' < b)) → ¬ Q a' b') ∧ x = nI (100 * a + b)) ∨ ((∀ a b, a < R → b < R → ¬ Q a b) ∧ x = z)
theorem fX_one {Q : Nat → Nat → Prop} {R : Nat} {z x x' : Int32} (h : fX Q R z x) (h' : fX Q R z x') : x = x' := by
  rcases h with ⟨a, b, h1, h2, h3, h4, rfl⟩ | ⟨h1, rfl⟩
  · rcases h' with ⟨a', b', g1, g2, g3, g4, rfl⟩ | ⟨g1, rfl⟩
    · have n1 : ¬ (a' < a ∨ (a' = a ∧ b' < b)) := fun y => h4 a' b' g2 y g3
      have n2 : ¬ (a < a' ∨ (a = a' ∧ b < b')) := fun y => g4 a b h2 y h3
      have e1 : a = a' := by omega
      have e2 : b = b' := by omega
      rw [e1, e2]
    · exact absurd h3 (g1 a b h1 h2)
  · rcases h' with ⟨a', b', g1, g2, g3, g4, rfl⟩ | ⟨g1, rfl⟩
    · exact absurd g3 (h1 a' b' g1 g2)
    · rfl
def qI (Q : Nat → Nat → Prop) (R : Nat) (i : Int32) (a b : Nat) : Prop := Q a b ∧ nI (rTt Q R a + rC Q a b) = i
theorem c_count (hp : pT M law n m A) (w : wF n m k law A) : qD_countRests M = some (nI (rTt (rP law A n m) (sRc (sK A) n) (sRc (sK A) n))) := by
  have hr := wf_rows w.wf
  have h78 := hp.1
  obtain ⟨R, hRe⟩ : ∃ R, R = sRc (sK A) n := ⟨_, rfl⟩
  rw [← hRe] at h78 hr ⊢
  unfold qD_countRests
  refine zlp_run (b := qD_countRests_L4 M) (s := fun i => (nI (rTt (rP law A n m) R i), nI i)) R (zfu_gt (by omega)) (fun i hi rc => ?_) (fun rc => ?_)
  · have key := zlp_run (b := qD_countRests_L14 M (nI i) rc) (s := fun j => (nI (rTt (rP law A n m) R i + rC (rP law A n m) i j), nI j)) R (e := rc (nI (rTt (rP law A n m) R (i + 1)), nI (i + 1))) (F := zfu) (zfu_gt (by omega)) (fun j hj rc2 => ?_) (fun rc2 => ?_)
    · unfold qD_countRests_L4
      simp (disch := omega) only [h78, zn_lt, if_pos hi]
      exact key
    · have hi' : qD_isRest M (nI i) (nI j) = _ := c_isRest hp w (show i < sRc (sK A) n by omega) (show j < sRc (sK A) n by omega)
      unfold qD_countRests_L14
      simp (disch := omega) only [h78, zn_lt, if_pos hj, nI_1]
      rw [zb_ok hi', rC_s]
      by_cases c : rP law A n m i j
      · rw [pB_t c, if_neg z10, if_pos c]
        rfl
      · rw [pB_f c, if_pos rfl, if_neg c]
        rfl
    · unfold qD_countRests_L14
      simp (disch := omega) only [h78, zn_lt, Nat.lt_irrefl, if_false, nI_1]
      rfl
  · unfold qD_countRests_L4
    simp (disch := omega) only [h78, zn_lt, Nat.lt_irrefl, if_false]
theorem c_find (hp : pT M law n m A) (w : wF n m k law A) (p : Int32) : ∃ x, qD_findRest M p = some x ∧ fX (qI (rP law A n m) (sRc (sK A) n) p) (sRc (sK A) n) (-6) x := by
  have hr := wf_rows w.wf
  have h78 := hp.1
  obtain ⟨R, hRe⟩ : ∃ R, R = sRc (sK A) n := ⟨_, rfl⟩
  rw [← hRe] at h78 hr ⊢
  obtain ⟨Q, hQ⟩ : ∃ Q, Q = rP law A n m := ⟨_, rfl⟩
  rw [← hQ]
  unfold qD_findRest
  refine zlp_ex (b := qD_findRest_L4 M p) (I := fun i v => v = (nI (rTt Q R i), nI i) ∧ ∀ x y, x < i → y < R → ¬ qI Q R p x y) R (E := fun o => ∃ x, o = some x ∧ fX (qI Q R p) R (-6) x) (zfu_gt (by omega)) (fun i hi v hv => ?_) (fun v hv => ?_) (s := (0, 0)) ⟨rfl, fun x y h => by omega⟩
  · obtain ⟨rfl, hv⟩ := hv
    have inner := zlp_fx (b := fun rc => qD_findRest_L15 M (nI i) p rc) (I := fun j v => v = (nI (rTt Q R i + rC Q i j), nI j) ∧ ∀ y, y < j → ¬ qI Q R p i y) R (F := zfu) (zfu_gt (by omega)) (P := fun e => (e = (fun rc => rc (nI (rTt Q R (i + 1)), nI (i + 1))) ∧ ∀ y, y < R → ¬ qI Q R p i y) ∨ ∃ x, e = (fun _ => some x) ∧ fX (qI Q R p) R (-6) x) (fun j hj v hv2 => ?_) (fun v hv2 => ?_) (s := (nI (rTt Q R i), 0)) ⟨rfl, fun y h => by omega⟩
    · obtain ⟨e, h1, h2⟩ := inner
      rcases h1 with ⟨rfl, h1⟩ | ⟨x, rfl, h1⟩
      · refine Or.inl ⟨(nI (rTt Q R (i + 1)), nI (i + 1)), ⟨rfl, fun x y hx hy => ?_⟩, fun rc => ?_⟩
        · by_cases z : x = i
          · subst z; exact h1 y hy
          · exact hv x y (by omega) hy
        · unfold qD_findRest_L4
          simp (disch := omega) only [h78, zn_lt, if_pos hi]
          exact h2 rc
      · refine Or.inr ⟨some x, ⟨x, rfl, h1⟩, fun rc => ?_⟩
        unfold qD_findRest_L4
        simp (disch := omega) only [h78, zn_lt, if_pos hi]
        exact h2 rc
    · obtain ⟨rfl, hv2⟩ := hv2
      have hi' : qD_isRest M (nI i) (nI j) = some (pB (Q i j)) := by rw [hQ]; exact c_isRest hp w (show i < sRc (sK A) n by omega) (show j < sRc (sK A) n by omega)
      have e100 : nI i * 100 = nI (100 * i) := by rw [show nI i * 100 = nI (i * 100) from pk_mul i 100, Nat.mul_comm]
      by_cases c : Q i j
      · by_cases c2 : nI (rTt Q R i + rC Q i j) = p
        · refine Or.inr ⟨fun _ => some (nI (100 * i + j)), Or.inr ⟨_, rfl, Or.inl ⟨i, j, hi, hj, ⟨c, c2⟩, fun a' b' y1 y2 => ?_, rfl⟩⟩, fun g rc => ?_⟩
          · rcases y2 with y2 | ⟨rfl, y2⟩
            · exact hv a' b' y2 y1
            · exact hv2 b' y2
          · unfold qD_findRest_L15
            simp (disch := omega) only [h78, zn_lt, if_pos hj]
            rw [zb_ok hi', pB_t c, if_neg z10, if_pos c2, e100, nI_add]
        · refine Or.inl ⟨(nI (rTt Q R i + rC Q i (j + 1)), nI (j + 1)), ⟨rfl, fun y hy => ?_⟩, fun g rc => ?_⟩
          · by_cases z : y = j
            · subst z; exact fun h => c2 h.2
            · exact hv2 y (by omega)
          · unfold qD_findRest_L15
            simp (disch := omega) only [h78, zn_lt, if_pos hj, nI_1]
            rw [zb_ok hi', pB_t c, if_neg z10, if_neg c2, rC_s, if_pos c]
            rfl
      · refine Or.inl ⟨(nI (rTt Q R i + rC Q i (j + 1)), nI (j + 1)), ⟨rfl, fun y hy => ?_⟩, fun g rc => ?_⟩
        · by_cases z : y = j
          · subst z; exact fun h => c h.1
          · exact hv2 y (by omega)
        · unfold qD_findRest_L15
          simp (disch := omega) only [h78, zn_lt, if_pos hj, nI_1]
          rw [zb_ok hi', pB_f c, if_pos rfl, rC_s, if_neg c]
          rfl
    · obtain ⟨rfl, hv2⟩ := hv2
      refine ⟨fun rc => rc (nI (rTt Q R (i + 1)), nI (i + 1)), Or.inl ⟨rfl, hv2⟩, fun g rc => ?_⟩
      unfold qD_findRest_L15
      simp (disch := omega) only [h78, zn_lt, Nat.lt_irrefl, if_false, nI_1]
      rfl
  · obtain ⟨rfl, hv⟩ := hv
    refine ⟨some (-6), ⟨_, rfl, Or.inr ⟨hv, rfl⟩⟩, fun rc => ?_⟩
    unfold qD_findRest_L4
    simp (disch := omega) only [h78, zn_lt, Nat.lt_irrefl, if_false]
theorem m_list (hf : fT M law n m A) (w : wF n m k law A) (p : Int32) : ∃ x, zlp (qM_rest_L20 (nI (sRc (sK A) n)) M p) zfu (0, 0) = some (x, M) ∧ fX (qI (rP law A n m) (sRc (sK A) n) p) (sRc (sK A) n) (if p = -1 then nI (rTt (rP law A n m) (sRc (sK A) n) (sRc (sK A) n)) else -6) x := by
  have hr := wf_rows w.wf
  obtain ⟨R, hRe⟩ : ∃ R, R = sRc (sK A) n := ⟨_, rfl⟩
  obtain ⟨Q, hQ⟩ : ∃ Q, Q = rP law A n m := ⟨_, rfl⟩
  rw [← hRe] at hr ⊢
  rw [← hQ]
  refine zlp_ex (b := qM_rest_L20 (nI R) M p) (I := fun i v => v = (nI (rTt Q R i), nI i) ∧ ∀ x y, x < i → y < R → ¬ qI Q R p x y) R (E := fun o => ∃ x, o = some (x, M) ∧ fX (qI Q R p) R (if p = -1 then nI (rTt Q R R) else -6) x) (zfu_gt (by omega)) (fun i hi v hv => ?_) (fun v hv => ?_) (s := (0, 0)) ⟨rfl, fun x y h => by omega⟩
  · obtain ⟨rfl, hv⟩ := hv
    have inner := zlp_fx (b := fun rc => qM_rest_L29 (nI R) M (nI i) p rc) (I := fun j v => v = (nI (rTt Q R i + rC Q i j), nI j) ∧ ∀ y, y < j → ¬ qI Q R p i y) R (F := zfu) (zfu_gt (by omega)) (P := fun e => (e = (fun rc => rc (nI (rTt Q R (i + 1)), nI (i + 1))) ∧ ∀ y, y < R → ¬ qI Q R p i y) ∨ ∃ x, e = (fun _ => some (x, M)) ∧ fX (qI Q R p) R (if p = -1 then nI (rTt Q R R) else -6) x) (fun j hj v hv2 => ?_) (fun v hv2 => ?_) (s := (nI (rTt Q R i), 0)) ⟨rfl, fun y h => by omega⟩
    · obtain ⟨e, h1, h2⟩ := inner
      rcases h1 with ⟨rfl, h1⟩ | ⟨x, rfl, h1⟩
      · refine Or.inl ⟨(nI (rTt Q R (i + 1)), nI (i + 1)), ⟨rfl, fun x y hx hy => ?_⟩, fun rc => ?_⟩
        · by_cases z : x = i
          · subst z; exact h1 y hy
          · exact hv x y (by omega) hy
        · unfold qM_rest_L20
          simp (disch := omega) only [zn_lt, if_pos hi]
          exact h2 rc
      · refine Or.inr ⟨some (x, M), ⟨x, rfl, h1⟩, fun rc => ?_⟩
        unfold qM_rest_L20
        simp (disch := omega) only [zn_lt, if_pos hi]
        exact h2 rc
    · obtain ⟨rfl, hv2⟩ := hv2
      have hi' : qM_isRest M (nI i) (nI j) (nI R) = some (pB (Q i j)) := by rw [hQ, hRe]; exact m_isRest hf w (show i < sRc (sK A) n by omega) (show j < sRc (sK A) n by omega)
      have e100 : (100 : Int32) * nI i = nI (100 * i) := pk_mul 100 i
      by_cases c : Q i j
      · by_cases c2 : nI (rTt Q R i + rC Q i j) = p
        · refine Or.inr ⟨fun _ => some (nI (100 * i + j), M), Or.inr ⟨_, rfl, Or.inl ⟨i, j, hi, hj, ⟨c, c2⟩, fun a' b' y1 y2 => ?_, rfl⟩⟩, fun g rc => ?_⟩
          · rcases y2 with y2 | ⟨rfl, y2⟩
            · exact hv a' b' y2 y1
            · exact hv2 b' y2
          · unfold qM_rest_L29
            simp (disch := omega) only [zn_lt, if_pos hj]
            rw [zb_ok hi', pB_t c, if_neg z10, if_pos c2, e100, nI_add]
        · refine Or.inl ⟨(nI (rTt Q R i + rC Q i (j + 1)), nI (j + 1)), ⟨rfl, fun y hy => ?_⟩, fun g rc => ?_⟩
          · by_cases z : y = j
            · subst z; exact fun h => c2 h.2
            · exact hv2 y (by omega)
          · unfold qM_rest_L29
            simp (disch := omega) only [zn_lt, if_pos hj, nI_1]
            rw [zb_ok hi', pB_t c, if_neg z10, if_neg c2, rC_s, if_pos c]
            rfl
      · refine Or.inl ⟨(nI (rTt Q R i + rC Q i (j + 1)), nI (j + 1)), ⟨rfl, fun y hy => ?_⟩, fun g rc => ?_⟩
        · by_cases z : y = j
          · subst z; exact fun h => c h.1
          · exact hv2 y (by omega)
        · unfold qM_rest_L29
          simp (disch := omega) only [zn_lt, if_pos hj, nI_1]
          rw [zb_ok hi', pB_f c, if_pos rfl, rC_s, if_neg c]
          rfl
    · obtain ⟨rfl, hv2⟩ := hv2
      refine ⟨fun rc => rc (nI (rTt Q R (i + 1)), nI (i + 1)), Or.inl ⟨rfl, hv2⟩, fun g rc => ?_⟩
      unfold qM_rest_L29
      simp (disch := omega) only [zn_lt, Nat.lt_irrefl, if_false, nI_1]
      rfl
  · obtain ⟨rfl, hv⟩ := hv
    refine ⟨some (if p = -1 then nI (rTt Q R R) else -6, M), ⟨_, rfl, Or.inr ⟨hv, rfl⟩⟩, fun rc => ?_⟩
    unfold qM_rest_L20
    simp (disch := omega) only [zn_lt, Nat.lt_irrefl, if_false]
    by_cases c : p = -1
    · rw [if_pos c, if_pos c]
    · rw [if_neg c, if_neg c]
theorem any_best (w : wF n m k law A) : (∃ r, r < sRc (sK A) n ∧ sO law A n s r) ↔ ¬ sBest law A n m s = none := by
  unfold sBest
  rw [sBs_none]
  exact ⟨fun ⟨r, h1, h2⟩ h => h r h1 h2, fun h => Classical.byContradiction fun h2 => h fun r h3 h4 => h2 ⟨r, h3, h4⟩⟩
/-- the class's duel has been prepared: the invariant -/
theorem zIn_pre {M1 M2 : zM} (hI : zIn M n m k law A) (g2 : ∀ c, ¬ (63 ≤ c ∧ c ≤ 69) → c ≠ 71 → c ≠ 72 → M1 c = M c) (f1 : ∀ c, c ≠ 68 → c ≠ 73 → c ≠ 74 → c ≠ 75 → c ≠ 78 → ¬ (80 ≤ c ∧ c ≤ 83) → M2 c = M1 c) (f2 : ∃ a b, cT M2 n m (tw A n a b)) (f3 : pT M2 law n m A) : zIn M2 n m k law A := by
  obtain ⟨a, b, f2⟩ := f2
  have hz := az_tw (az_of hI) hI.n4 a b
  have fr : ∀ c, c ≤ 59 ∨ 86 ≤ c → M2 c = M c := fun c hc => (f1 c (by omega) (by omega) (by omega) (by omega) (by omega) (by omega)).trans (g2 c (by omega) (by omega) (by omega))
  exact zIn_kp (kp_cls fr (trial_tails (fun _ => by rw [f2.2.2.1]; exact hz.1) (fun _ => by rw [f2.2.2.2.1]; exact hz.2.1) (fun _ => by rw [f2.2.2.2.2.1]; exact hz.2.2.1) (fun _ => by rw [f2.2.2.2.2.2.1]; exact hz.2.2.2.1) (fun _ => by rw [f2.2.2.2.2.2.2.1]; exact hz.2.2.2.2.1) (fun _ => by rw [f2.2.2.2.2.2.2.2.1]; exact hz.2.2.2.2.2))) (Or.inr ⟨f3.2.1, f3.2.2.1⟩) hI
theorem k_rest (hI : zI M) (p : Int32) : ∃ x M1 M2, qS_rest M p = some (x, M1) ∧ qM_rest M1 p = some (x, M2) ∧ zI M2 := by
  obtain ⟨n, m, k, law, A, hI⟩ := hI
  have hn := hI.n4
  unfold qS_rest qM_rest
  have hf0 : qS_forbidsAll M 0 law = _ := c_forbids (s := 0) hI (by omega) hI.w.law01
  have hf1 : qS_forbidsAll M 1 law = _ := c_forbids (s := 1) hI (by omega) hI.w.law01
  rw [hI.l2, zb_ok hf0, zb_ok hf1]
  -- none is allowed
  have no : (¬ ((∃ r, r < sRc (sK A) n ∧ sO law A n 0 r) ∧ ∃ r, r < sRc (sK A) n ∧ sO law A n 1 r)) → ∃ M2, (zb2 (qM_findBoth M) fun x1 M2 => if x1 = 0 then some ((-5 : Int32), M2) else zb (qM_rows M2) fun x3 => zlp (qM_rest_L20 x3 M2 p) zfu (0, 0)) = some (-5, M2) ∧ zI M2 := fun hno => by
    obtain ⟨M2, h1, h2, h3⟩ := m_findBoth hI.m.t hI.w hI.m.l
    refine ⟨M2, ?_, (zIn_m hI (fun c hc => h2 c (by omega) (by omega) (by omega)) (fun j hj => by rw [h2 86 (by decide) (by decide) (by decide)])).z⟩
    rw [zb2_ok h1, pB_f hno, if_pos rfl]
  by_cases hb0 : sBest law A n m 0 = none
  · rw [pB_t hb0, if_neg z10]
    obtain ⟨M2, h1, h2⟩ := no (fun h => (any_best (m := m) hI.w).mp h.1 hb0)
    exact ⟨_, _, M2, rfl, h1, h2⟩
  · rw [pB_f hb0, if_pos rfl]
    by_cases hb1 : sBest law A n m 1 = none
    · rw [pB_t hb1, if_neg z10]
      obtain ⟨M2, h1, h2⟩ := no (fun h => (any_best (m := m) hI.w).mp h.2 hb1)
      exact ⟨_, _, M2, rfl, h1, h2⟩
    · rw [pB_f hb1, if_pos rfl]
      obtain ⟨M1, g1, g2, g3, g4, g5⟩ := c_look hI
      have hI1 := zIn_look hI g2 g5
      obtain ⟨M4, f1, f2, f3, f4⟩ := c_prepare g3 g4 hI.w hI1.d hb0 hb1
      rw [zb_ok g1, hI1.l2, zb_ok f1]
      have hI4 := zIn_pre hI g2 f2 f3 f4
      obtain ⟨M5, h1, h2, h3⟩ := m_findBoth hI4.m.t hI4.w hI4.m.l
      have hI5 : zIn M5 n m k law A := zIn_m hI4 (fun c hc => h2 c (by omega) (by omega) (by omega)) (fun j hj => by rw [h2 86 (by decide) (by decide) (by decide)])
      have hyes : (∃ r, r < sRc (sK A) n ∧ sO law A n 0 r) ∧ ∃ r, r < sRc (sK A) n ∧ sO law A n 1 r := ⟨(any_best (m := m) hI.w).mpr hb0, (any_best (m := m) hI.w).mpr hb1⟩
      obtain ⟨x, l1, l2⟩ := m_list h3 hI5.w p
      have hm : (zb2 (qM_findBoth M4) fun x1 M2 => if x1 = 0 then some ((-5 : Int32), M2) else zb (qM_rows M2) fun x3 => zlp (qM_rest_L20 x3 M2 p) zfu (0, 0)) = some (x, M5) := by
        rw [zb2_ok h1, pB_t hyes, if_neg z10, zb_ok (m_rows hI5.m.t hI5.w.wf), l1]
      by_cases c : p = -1
      · rw [if_pos c, zb_ok (c_count f4 hI.w)]
        rw [if_pos c] at l2
        have e : x = nI (rTt (rP law A n m) (sRc (sK A) n) (sRc (sK A) n)) := by
          rcases l2 with ⟨a, b, y1, y2, y3, y4, y5⟩ | ⟨y1, y2⟩
          · exfalso
            have hr := wf_rows hI.w.wf
            have h81 := rTt_le (rP law A n m) hr.2 a
            have hcb := rC_le (rP law A n m) a b
            have := y3.2
            rw [c] at this
            exact nI_nn (rTt (rP law A n m) (sRc (sK A) n) a + rC (rP law A n m) a b) (by omega) (by rw [this]; decide)
          · exact y2
        rw [e] at hm
        exact ⟨_, _, M5, rfl, hm, hI5.z⟩
      · rw [if_neg c]
        rw [if_neg c] at l2
        obtain ⟨x', d1, d2⟩ := c_find f4 hI.w p
        have e := fX_one d2 l2
        subst e
        rw [zb_ok d1]
        exact ⟨_, _, M5, rfl, hm, hI5.z⟩
end ZRest2
