section ZRest
variable {M : zM} {n m k : Nat} {law : Int32} {A A' : zM} {q s t a b : Nat}
theorem m_tw (hM : mT M n m (tw A n a b)) (w : wF n m k law A) (c : Nat) (hc : c < 2147483648) : (∃ M', qM_lay M 0 (nI c) = some M' ∧ mT M' n m (tw A n c b) ∧ ∀ r, r ≠ 89 → M' r = M r) ∧ (∃ M', qM_lay M 1 (nI c) = some M' ∧ mT M' n m (tw A n a c) ∧ ∀ r, r ≠ 89 → M' r = M r) := by
  have hn := w.wf.1
  have w2 := tw_wf w a b
  constructor
  · obtain ⟨M', g1, g2, g3⟩ := m_lay (s := 0) hM w2.wf (by omega) c hc
    refine ⟨M', g1, ?_, g2⟩
    have := mT_lay g2 g3 hM
    rw [tw_0 hn] at this
    exact this
  · obtain ⟨M', g1, g2, g3⟩ := m_lay (s := 1) hM w2.wf (by omega) c hc
    refine ⟨M', g1, ?_, g2⟩
    have := mT_lay g2 g3 hM
    rw [tw_1 hn] at this
    exact this
theorem ok_tw (w : wF n m k law A) {law' : Int32} (h01 : law' = 0 ∨ law' = 1) (a b : Nat) : sOk law' (tw A n a b) n 0 = sO law' A n 0 a ∧ sOk law' (tw A n a b) n 1 = sO law' A n 1 b := by
  have hn := w.wf.1
  have w2 := tw_wf w a b
  constructor
  · have := propext (ok_dep (s := 0) w h01 (twF A n a b) w2.wf a)
    rw [← this]
    show _ = sOk law' (zA (tw A n a b) 4 (sLay (tw A n a b) n 0 a)) n 0
    rw [tw_0 hn]
  · have := propext (ok_dep (s := 1) w h01 (twF A n a b) w2.wf b)
    rw [← this]
    show _ = sOk law' (zA (tw A n a b) 4 (sLay (tw A n a b) n 1 b)) n 1
    rw [tw_1 hn]
theorem mT_of {M' : zM} (h : ∀ c, 86 ≤ c ∧ c ≤ 99 → M' c = M c) (hM : mT M n m A) : mT M' n m A := mT_eq (by rw [h 86 (by omega)]) (by rw [h 86 (by omega)]) (fun c a b => h c (by omega)) hM
/-- what the reference has found -/
def fT (M : zM) (law : Int32) (n m : Nat) (A : zM) : Prop := (∀ s r, s < 2 → r < sRc (sK A) n → M 103 (81 * s + r) = pB (sO law A n s r)) ∧ ∀ a b, a < sRc (sK A) n → b < sRc (sK A) n → M 101 (81 * a + b) = sLf (tw A n a b) n m 0 ∧ M 101 (6561 + 81 * a + b) = sLf (tw A n a b) n m 1
theorem or_flag {C P : Prop} : (if pB C = 0 then (if pB P = 0 then some (0 : Int32) else some 1) else some 1) = some (pB (C ∨ P)) := by
  by_cases c : C
  · rw [pB_t c, if_neg z10, pB_t (Or.inl c)]
  · rw [pB_f c, if_pos rfl]
    by_cases p : P
    · rw [pB_t p, if_neg z10, pB_t (Or.inr p)]
    · rw [pB_f p, if_pos rfl, pB_f (fun h => h.elim c p)]
theorem any_or {ok : Nat → Prop} {i : Nat} : ((∃ r, r < i ∧ ok r) ∨ ok i) = (∃ r, r < i + 1 ∧ ok r) := propext ⟨fun h => by
    rcases h with ⟨r, h1, h2⟩ | h
    · exact ⟨r, by omega, h2⟩
    · exact any_s h, fun ⟨r, h1, h2⟩ => by
    by_cases z : r = i
    · subst z; exact Or.inr h2
    · exact Or.inl ⟨r, by omega, h2⟩⟩
theorem m_findBoth (hM : mT M n m A) (w : wF n m k law A) (hlaw : M 86 18 = law) : ∃ M', qM_findBoth M = some (pB ((∃ r, r < sRc (sK A) n ∧ sO law A n 0 r) ∧ ∃ r, r < sRc (sK A) n ∧ sO law A n 1 r), M') ∧ (∀ c, c ≠ 101 → c ≠ 102 → c ≠ 103 → M' c = M c) ∧ fT M' law n m A := by
  have hn := w.wf.1
  have hr := wf_rows w.wf
  have h01 := w.law01
  obtain ⟨R, hRe⟩ : ∃ R, R = sRc (sK A) n := ⟨_, rfl⟩
  have e0 : qM_rowOf M 0 = some (nI (sRo A n 0)) := m_rowOf (s := 0) hM w.wf (by omega)
  have e1 : qM_rowOf M 1 = some (nI (sRo A n 1)) := m_rowOf (s := 1) hM w.wf (by omega)
  have q0 := sRo_lt (s := 0) w.wf (by omega)
  have q1 := sRo_lt (s := 1) w.wf (by omega)
  have hM' : mT M n m (tw A n (sRo A n 0) (sRo A n 1)) := by rw [tw_id w]; exact hM
  unfold qM_findBoth
  rw [zb_ok e0, zb_ok e1, zb_ok (m_rows hM w.wf)]
  rw [← hRe] at hr q0 q1 ⊢
  -- first what is allowed
  refine zlp_inv (b := qM_findBoth_L26 (nI R) (nI (sRo A n 0)) (nI (sRo A n 1))) (I := fun i v => v.1 = pB (∃ r, r < i ∧ sO law A n 0 r) ∧ v.2.1 = pB (∃ r, r < i ∧ sO law A n 1 r) ∧ v.2.2.1 = nI i ∧ (∀ c, c ≠ 89 → c ≠ 102 → c ≠ 103 → v.2.2.2 c = M c) ∧ (∃ a b, mT v.2.2.2 n m (tw A n a b)) ∧ ∀ s r, s < 2 → r < i → v.2.2.2 103 (81 * s + r) = pB (sO law A n s r)) R (E := fun o => ∃ M', o = some (pB ((∃ r, r < R ∧ sO law A n 0 r) ∧ ∃ r, r < R ∧ sO law A n 1 r), M') ∧ (∀ c, c ≠ 101 → c ≠ 102 → c ≠ 103 → M' c = M c) ∧ fT M' law n m A) (zfu_gt (by omega)) (fun i hi v hv => ?_) (fun v hv => ?_) (s := (0, 0, 0, M)) ⟨(by rw [pB_f (fun h => by obtain ⟨r, h, -⟩ := h; omega)]), (by rw [pB_f (fun h => by obtain ⟨r, h, -⟩ := h; omega)]), rfl, fun _ _ _ _ => rfl, ⟨_, _, hM'⟩, fun s r _ h => by omega⟩
  · obtain ⟨v4, v5, v6, M7⟩ := v
    obtain ⟨d1, d2, d3, d4, ⟨a1, b1, d5⟩, d6⟩ := hv
    dsimp only at d1 d2 d3 d4 d5 d6
    subst d1 d2 d3
    obtain ⟨⟨M23, g1, g2, g3⟩, -⟩ := m_tw d5 w i (by omega)
    obtain ⟨-, M24, f1, f2, f3⟩ := m_tw g2 w i (by omega)
    have w24 := tw_wf w i i
    have fr : ∀ c, c ≠ 89 → c ≠ 102 → c ≠ 103 → M24 c = M c := fun c x1 x2 x3 => (f3 c x1).trans ((g3 c x1).trans (d4 c x1 x2 x3))
    have hl24 : M24 86 18 = law := by rw [fr 86 (by decide) (by decide) (by decide)]; exact hlaw
    have al0 : qM_isAllowed M24 0 = some (pB (sO law A n 0 i)) := by
      have := m_isAllowed (s := 0) f2 w24.wf (by omega) hl24 h01
      rw [(ok_tw w h01 i i).1] at this
      exact this
    have f2' : mT (zw M24 103 i (pB (sO law A n 0 i))) n m (tw A n i i) := mT_of (fun c hc => zw_ne (by omega)) f2
    have al1 : qM_isAllowed (zw M24 103 i (pB (sO law A n 0 i))) 1 = some (pB (sO law A n 1 i)) := by
      have := m_isAllowed (s := 1) f2' w24.wf (by omega) (by rw [zw_ne (by decide)]; exact hl24) h01
      rw [(ok_tw w h01 i i).2] at this
      exact this
    obtain ⟨N, dN⟩ : ∃ N, N = zw (zw M24 103 i (pB (sO law A n 0 i))) 103 (81 + i) (pB (sO law A n 1 i)) := ⟨_, rfl⟩
    have n0 : N 103 i = pB (sO law A n 0 i) := by rw [dN, zw_other (by omega), zw_same]
    have n1 : N 103 (81 + i) = pB (sO law A n 1 i) := by rw [dN, zw_same]
    have e81 : (81 : Int32) + nI i = nI (81 + i) := nI_add 81 i
    refine ⟨(pB (∃ r, r < i + 1 ∧ sO law A n 0 r), pB (∃ r, r < i + 1 ∧ sO law A n 1 r), nI (i + 1), zw (zw N 102 i (-6)) 102 (81 + i) (-6)), ⟨rfl, rfl, rfl, fun c x1 x2 x3 => ?_, ⟨i, i, ?_⟩, fun s r hs hr' => ?_⟩, fun rc => ?_⟩
    · dsimp only
      rw [zw_ne x2, zw_ne x2, dN, zw_ne x3, zw_ne x3]; exact fr c x1 x2 x3
    · exact mT_of (fun c hc => by dsimp only; rw [zw_ne (by omega), zw_ne (by omega), dN, zw_ne (by omega), zw_ne (by omega)]) f2
    · dsimp only
      rw [zw_ne (by decide), zw_ne (by decide)]
      by_cases z : r = i
      · subst z
        rcases (show s = 0 ∨ s = 1 by omega) with rfl | rfl
        · rw [show 81 * 0 + r = r by omega]; exact n0
        · rw [show 81 * 1 + r = 81 + r by omega]; exact n1
      · rw [dN, zw_other (by omega), zw_other (by omega), f3 103 (by decide), g3 103 (by decide)]
        exact d6 s r hs (by omega)
    · unfold qM_findBoth_L26
      simp (disch := omega) only [zn_lt, if_pos hi, e81, zn_cl, zq_in, zlj_u, nI_1]
      rw [zb_ok g1, zb_ok f1, zb_ok al0, zq_b (pB_01 _), zb_ok al1, zq_b (pB_01 _), ← dN, n0, n1, or_flag, zb_s, or_flag, zb_s, any_or, any_or]
  · obtain ⟨v4, v5, v6, M7⟩ := v
    obtain ⟨d1, d2, d3, d4, ⟨a1, b1, d5⟩, d6⟩ := hv
    dsimp only at d1 d2 d3 d4 d5 d6
    subst d1 d2 d3
    -- then what is left
    have key : ∃ M', zlp (qM_findBoth_L150 (nI R) (nI (sRo A n 0)) (nI (sRo A n 1)) (pB (∃ r, r < R ∧ sO law A n 0 r)) (pB (∃ r, r < R ∧ sO law A n 1 r))) zfu (0, M7) = some (pB ((∃ r, r < R ∧ sO law A n 0 r) ∧ ∃ r, r < R ∧ sO law A n 1 r), M') ∧ (∀ c, c ≠ 101 → c ≠ 102 → c ≠ 103 → M' c = M c) ∧ fT M' law n m A := by
      refine zlp_inv (b := qM_findBoth_L150 (nI R) (nI (sRo A n 0)) (nI (sRo A n 1)) (pB (∃ r, r < R ∧ sO law A n 0 r)) (pB (∃ r, r < R ∧ sO law A n 1 r))) (I := fun i v => v.1 = nI i ∧ (∀ c, c ≠ 89 → c ≠ 101 → v.2 c = M7 c) ∧ (∃ a b, mT v.2 n m (tw A n a b)) ∧ ∀ x y, x < i → y < R → v.2 101 (81 * x + y) = sLf (tw A n x y) n m 0 ∧ v.2 101 (6561 + 81 * x + y) = sLf (tw A n x y) n m 1) R (E := fun o => ∃ M', o = some (pB ((∃ r, r < R ∧ sO law A n 0 r) ∧ ∃ r, r < R ∧ sO law A n 1 r), M') ∧ (∀ c, c ≠ 101 → c ≠ 102 → c ≠ 103 → M' c = M c) ∧ fT M' law n m A) (zfu_gt (by omega)) (fun i hi v hv => ?_) (fun v hv => ?_) (s := (0, M7)) ⟨rfl, fun _ _ _ => rfl, ⟨a1, b1, d5⟩, fun x y h => by omega⟩
      · obtain ⟨v6, M10⟩ := v
        obtain ⟨c1, c2, ⟨a2, b2, c3⟩, c4⟩ := hv
        dsimp only at c1 c2 c3 c4
        subst c1
        obtain ⟨⟨M14, g1, g2, g3⟩, -⟩ := m_tw c3 w i (by omega)
        have inner := zlp_fam (b := fun rc => qM_findBoth_L166 (nI R) (nI i) rc) (I := fun j v => v.1 = nI j ∧ (∀ c, c ≠ 89 → c ≠ 101 → v.2 c = M7 c) ∧ (∃ b, mT v.2 n m (tw A n i b)) ∧ (∀ x y, x < i → y < R → v.2 101 (81 * x + y) = sLf (tw A n x y) n m 0 ∧ v.2 101 (6561 + 81 * x + y) = sLf (tw A n x y) n m 1) ∧ ∀ y, y < j → v.2 101 (81 * i + y) = sLf (tw A n i y) n m 0 ∧ v.2 101 (6561 + 81 * i + y) = sLf (tw A n i y) n m 1) R (F := zfu) (zfu_gt (by omega)) (e := fun rc M' => rc (nI (i + 1), M')) (P := fun M' => (∀ c, c ≠ 89 → c ≠ 101 → M' c = M7 c) ∧ (∃ a b, mT M' n m (tw A n a b)) ∧ ∀ x y, x < i + 1 → y < R → M' 101 (81 * x + y) = sLf (tw A n x y) n m 0 ∧ M' 101 (6561 + 81 * x + y) = sLf (tw A n x y) n m 1) (fun j hj v hv => ?_) (fun v hv => ?_) (s := (0, M14)) ⟨rfl, fun c x1 x2 => (g3 c x1).trans (c2 c x1 x2), ⟨b2, g2⟩, (fun x y hx hy => by dsimp only; rw [g3 101 (by decide)]; exact c4 x y hx hy), fun y h => by omega⟩
        · obtain ⟨M', ⟨f1, f2, f3⟩, f4⟩ := inner
          refine ⟨(nI (i + 1), M'), ⟨rfl, f1, f2, f3⟩, fun rc => ?_⟩
          unfold qM_findBoth_L150
          simp (disch := omega) only [zn_lt, if_pos hi]
          rw [zb_ok g1]
          exact f4 rc
        · obtain ⟨v7, M16⟩ := v
          obtain ⟨x1, x2, ⟨b3, x3⟩, x4, x5⟩ := hv
          dsimp only at x1 x2 x3 x4 x5
          subst x1
          obtain ⟨-, M18, f1, f2, f3⟩ := m_tw x3 w j (by omega)
          have w18 := tw_wf w i j
          have l0 : qM_leftOf M18 0 = some (sLf (tw A n i j) n m 0) := m_leftOf (s := 0) f2 w18.wf (by omega)
          have f2' : mT (zw M18 101 (81 * i + j) (sLf (tw A n i j) n m 0)) n m (tw A n i j) := mT_of (fun c hc => zw_ne (by omega)) f2
          have l1 : qM_leftOf (zw M18 101 (81 * i + j) (sLf (tw A n i j) n m 0)) 1 = some (sLf (tw A n i j) n m 1) := m_leftOf (s := 1) f2' w18.wf (by omega)
          have at0 : qM_at 0 (nI i) (nI j) = some (nI (81 * i + j)) := by
            unfold qM_at
            rw [show (6561 : Int32) * 0 = 0 from rfl, Int32.zero_add, show (81 : Int32) * nI i = nI (81 * i) from pk_mul 81 i, nI_add]
          have at1 : qM_at 1 (nI i) (nI j) = some (nI (6561 + 81 * i + j)) := by
            unfold qM_at
            rw [show (6561 : Int32) * 1 = nI 6561 from rfl, show (81 : Int32) * nI i = nI (81 * i) from pk_mul 81 i, nI_add, nI_add]
          refine ⟨(nI (j + 1), zw (zw M18 101 (81 * i + j) (sLf (tw A n i j) n m 0)) 101 (6561 + 81 * i + j) (sLf (tw A n i j) n m 1)), ⟨rfl, fun c y1 y2 => ?_, ⟨j, ?_⟩, fun x y y1 y2 => ?_, fun y hy => ?_⟩, fun g rc => ?_⟩
          · dsimp only
            rw [zw_ne y2, zw_ne y2, f3 c y1]; exact x2 c y1 y2
          · exact mT_of (fun c hc => by dsimp only; rw [zw_ne (by omega), zw_ne (by omega)]) f2
          · dsimp only
            rw [zw_other (by omega), zw_other (by omega), zw_other (by omega), zw_other (by omega), f3 101 (by decide)]
            exact x4 x y y1 y2
          · dsimp only
            by_cases z : y = j
            · subst z
              rw [zw_other (by omega), zw_same, zw_same]
              exact ⟨rfl, rfl⟩
            · rw [zw_other (by omega), zw_other (by omega), zw_other (by omega), zw_other (by omega), f3 101 (by decide)]
              exact x5 y (by omega)
          · unfold qM_findBoth_L166
            simp (disch := omega) only [zn_lt, if_pos hj, nI_1]
            rw [zb_ok f1, zb_ok at0, zb_ok l0]
            simp (disch := omega) only [zn_cl, zq_in]
            rw [zb_ok at1, zb_ok l1]
            simp (disch := omega) only [zn_cl, zq_in]
        · obtain ⟨v7, M16⟩ := v
          obtain ⟨x1, x2, ⟨b3, x3⟩, x4, x5⟩ := hv
          dsimp only at x1 x2 x3 x4 x5
          subst x1
          refine ⟨M16, ⟨x2, ⟨i, b3, x3⟩, fun x y y1 y2 => ?_⟩, fun g rc => ?_⟩
          · by_cases z : x = i
            · subst z; exact x5 y y2
            · exact x4 x y (by omega) y2
          · unfold qM_findBoth_L166
            simp (disch := omega) only [zn_lt, Nat.lt_irrefl, if_false, nI_1]
      · obtain ⟨v6, M10⟩ := v
        obtain ⟨c1, c2, ⟨a2, b2, c3⟩, c4⟩ := hv
        dsimp only at c1 c2 c3 c4
        subst c1
        obtain ⟨⟨M12, g1, g2, g3⟩, -⟩ := m_tw c3 w (sRo A n 0) (by omega)
        obtain ⟨-, M13, f1, f2, f3⟩ := m_tw g2 w (sRo A n 1) (by omega)
        rw [tw_id w] at f2
        have fr : ∀ c, c ≠ 89 → c ≠ 101 → M13 c = M7 c := fun c x1 x2 => (f3 c x1).trans ((g3 c x1).trans (c2 c x1 x2))
        refine ⟨some (pB ((∃ r, r < R ∧ sO law A n 0 r) ∧ ∃ r, r < R ∧ sO law A n 1 r), M13), ⟨M13, rfl, fun c x1 x2 x3 => ?_, fun s r hs hr' => ?_, fun x y hx hy => ?_⟩, fun rc => ?_⟩
        · by_cases z : c = 89
          · subst z
            rw [f2.2.2.2.2.2.2.1, hM.2.2.2.2.2.2.1]
          · rw [fr c z x1]; exact d4 c z x2 x3
        · rw [fr 103 (by decide) (by decide)]
          exact d6 s r hs (by omega)
        · rw [f3 101 (by decide), g3 101 (by decide)]
          exact c4 x y (by omega) (by omega)
        · unfold qM_findBoth_L150
          simp (disch := omega) only [zn_lt, Nat.lt_irrefl, if_false]
          rw [zb_ok g1, zb_ok f1]
          by_cases y0 : ∃ r, r < R ∧ sO law A n 0 r
          · rw [pB_t y0, if_neg z10]
            by_cases y1 : ∃ r, r < R ∧ sO law A n 1 r
            · rw [pB_t y1, if_neg z10, pB_t ⟨y0, y1⟩]
            · rw [pB_f y1, if_pos rfl, pB_f (fun h => y1 h.2)]
          · rw [pB_f y0, if_pos rfl, pB_f (fun h => y0 h.1)]
    obtain ⟨M8, k1, k2, k3⟩ := key
    refine ⟨_, ⟨M8, rfl, k2, k3⟩, fun rc => ?_⟩
    unfold qM_findBoth_L26
    simp (disch := omega) only [zn_lt, Nat.lt_irrefl, if_false]
    exact k1
theorem m_at0 (a b : Nat) : qM_at 0 (nI a) (nI b) = some (nI (81 * a + b)) := by
  unfold qM_at
  rw [show (6561 : Int32) * 0 = 0 from rfl, Int32.zero_add, show (81 : Int32) * nI a = nI (81 * a) from pk_mul 81 a, nI_add]
theorem m_at1 (a b : Nat) : qM_at 1 (nI a) (nI b) = some (nI (6561 + 81 * a + b)) := by
  unfold qM_at
  rw [show (6561 : Int32) * 1 = nI 6561 from rfl, show (81 : Int32) * nI a = nI (81 * a) from pk_mul 81 a, nI_add, nI_add]
theorem m_isRest (hf : fT M law n m A) (w : wF n m k law A) (ha : a < sRc (sK A) n) (hb : b < sRc (sK A) n) : qM_isRest M (nI a) (nI b) (nI (sRc (sK A) n)) = some (pB (rP law A n m a b)) := by
  have hr := wf_rows w.wf
  have l0 := hf.1 0 a (by omega) ha
  have l1 := hf.1 1 b (by omega) hb
  rw [show 81 * 0 + a = a by omega] at l0
  rw [show 81 * 1 + b = 81 + b by omega] at l1
  have e81 : ∀ x : Nat, (81 : Int32) + nI x = nI (81 + x) := fun x => nI_add 81 x
  obtain ⟨R, hRe⟩ : ∃ R, R = sRc (sK A) n := ⟨_, rfl⟩
  obtain ⟨f1, f2⟩ := hf
  have tab := f2 a b ha hb
  unfold qM_isRest
  rw [e81]
  simp (disch := omega) only [zn_cl, zq_in, l0, l1, zlj_u]
  have hw : (if pB (sO law A n 0 a) = 0 then some (0 : Int32) else (if pB (sO law A n 1 b) = 0 then some 0 else some 1)) = some (pB (sO law A n 0 a ∧ sO law A n 1 b)) := by
    by_cases o0 : sO law A n 0 a
    · rw [pB_t o0, if_neg z10]
      by_cases o1 : sO law A n 1 b
      · rw [pB_t o1, if_neg z10, pB_t ⟨o0, o1⟩]
      · rw [pB_f o1, if_pos rfl, pB_f (fun h => o1 h.2)]
    · rw [pB_f o0, if_pos rfl, pB_f (fun h => o0 h.1)]
  rw [hw, zb_s]
  rw [← hRe] at hr ha hb ⊢
  obtain ⟨Q, hQ⟩ : ∃ Q : Nat → Prop, Q = fun i => (sO law A n 0 a ∧ sO law A n 1 b) ∧ ∀ r, r < i → (sO law A n 0 r → ¬ LB A n m 0 a b < LB A n m 0 r b) ∧ (sO law A n 1 r → ¬ LB A n m 1 b a < LB A n m 1 r a) := ⟨_, rfl⟩
  have hQR : Q R = rP law A n m a b := by rw [hQ, hRe]; rfl
  have hQ0 : (sO law A n 0 a ∧ sO law A n 1 b) = Q 0 := by rw [hQ]; exact propext ⟨fun h => ⟨h, fun r h => by omega⟩, fun h => h.1⟩
  have hQm : ∀ i j, i ≤ j → Q j → Q i := fun i j h1 h2 => by rw [hQ] at h2 ⊢; exact ⟨h2.1, fun r hr => h2.2 r (by omega)⟩
  rw [hQ0, ← hQR]
  refine zlp_ex (b := qM_isRest_L31 (nI R) M (nI a) (nI b)) (I := fun i v => v = (pB (Q i), nI i)) R (E := fun o => o = some (pB (Q R))) (zfu_gt (by omega)) (fun i hi v hv => ?_) (fun v hv => ?_) (s := (pB (Q 0), 0)) rfl
  · subst hv
    by_cases c : Q i
    · have g0 := f1 0 i (by omega) (by omega)
      have g1 := f1 1 i (by omega) (by omega)
      rw [show 81 * 0 + i = i by omega] at g0
      rw [show 81 * 1 + i = 81 + i by omega] at g1
      have t0 := (f2 i b (by omega) (by omega)).1
      have t1 := (f2 a i (by omega) (by omega)).2
      have a0 := m_at0 i b
      have a1 := m_at0 a b
      have a2 := m_at1 a i
      have a3 := m_at1 a b
      have hd : ∀ rc, qM_isRest_L31 (nI R) M (nI a) (nI b) rc (pB (Q i), nI i) = (if pB (sO law A n 0 i) = 0 then (if pB (sO law A n 1 i) = 0 then rc (1, nI (i + 1)) else if LB A n m 1 b a < LB A n m 1 i a then rc (0, nI (i + 1)) else rc (1, nI (i + 1))) else (if LB A n m 0 a b < LB A n m 0 i b then rc (0, nI (i + 1)) else (if pB (sO law A n 1 i) = 0 then rc (1, nI (i + 1)) else if LB A n m 1 b a < LB A n m 1 i a then rc (0, nI (i + 1)) else rc (1, nI (i + 1))))) := fun rc => by
        unfold qM_isRest_L31
        rw [pB_t c]
        dsimp only
        rw [if_pos (show nI i < nI R from nI_lt hi (by omega)), if_neg z10, e81]
        simp (disch := omega) only [zn_cl, zq_in, zlj_u, g0, g1, nI_1, a0, a1, a2, a3, zb_s, t0, t1, tab.1, tab.2]
        rfl
      have hS : ∀ P : Prop, (Q (i + 1) ↔ P) → pB (Q (i + 1)) = pB P := fun P h => by rw [propext h]
      have hq : Q (i + 1) ↔ ((sO law A n 0 i → ¬ LB A n m 0 a b < LB A n m 0 i b) ∧ (sO law A n 1 i → ¬ LB A n m 1 b a < LB A n m 1 i a)) := by
        rw [hQ] at c ⊢
        refine ⟨fun h => h.2 i (by omega), fun h => ⟨c.1, fun r hr => ?_⟩⟩
        by_cases z : r = i
        · subst z; exact h
        · exact c.2 r (by omega)
      refine Or.inl ⟨(pB (Q (i + 1)), nI (i + 1)), rfl, fun rc => ?_⟩
      rw [hd rc]
      by_cases o0 : sO law A n 0 i
      · rw [pB_t o0, if_neg z10]
        by_cases x0 : LB A n m 0 a b < LB A n m 0 i b
        · rw [if_pos x0, pB_f (fun h => (hq.mp h).1 o0 x0)]
        · rw [if_neg x0]
          by_cases o1 : sO law A n 1 i
          · rw [pB_t o1, if_neg z10]
            by_cases x1 : LB A n m 1 b a < LB A n m 1 i a
            · rw [if_pos x1, pB_f (fun h => (hq.mp h).2 o1 x1)]
            · rw [if_neg x1, pB_t (hq.mpr ⟨fun _ => x0, fun _ => x1⟩)]
          · rw [pB_f o1, if_pos rfl, pB_t (hq.mpr ⟨fun _ => x0, fun h => absurd h o1⟩)]
      · rw [pB_f o0, if_pos rfl]
        by_cases o1 : sO law A n 1 i
        · rw [pB_t o1, if_neg z10]
          by_cases x1 : LB A n m 1 b a < LB A n m 1 i a
          · rw [if_pos x1, pB_f (fun h => (hq.mp h).2 o1 x1)]
          · rw [if_neg x1, pB_t (hq.mpr ⟨fun h => absurd h o0, fun _ => x1⟩)]
        · rw [pB_f o1, if_pos rfl, pB_t (hq.mpr ⟨fun h => absurd h o0, fun h => absurd h o1⟩)]
    · refine Or.inr ⟨some 0, ?_, fun rc => ?_⟩
      · rw [pB_f (fun h => c (hQm i R (by omega) h))]
      · unfold qM_isRest_L31
        rw [pB_f c]
        dsimp only
        rw [if_pos (show nI i < nI R from nI_lt hi (by omega)), if_pos rfl, zq_b (Or.inl rfl)]
  · subst hv
    refine ⟨_, rfl, fun rc => ?_⟩
    unfold qM_isRest_L31
    simp (disch := omega) only [zn_lt, Nat.lt_irrefl, if_false]
    exact zq_b (pB_01 _)
end ZRest
