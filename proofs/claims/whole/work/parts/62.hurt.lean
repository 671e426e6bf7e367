section ZHurt
variable {M : zM} {n m k : Nat} {law : Int32} {A A' : zM} {q s t : Nat}
theorem sE_layA (r : Nat) : sE A (zA A 4 (sLay A n s r)) n s := ⟨fun c hc => zA_ne hc, fun j hj => by
  rw [zA_self]; unfold sLay; rw [if_neg hj]⟩
/-- a row is put over another -/
theorem c_put {f : Nat → Int32} (hM : cT M n m (zA A 4 f)) (hL : lT M n m (zA A 4 f)) (hW : sWF n m (zA A 4 f)) (hE : sE A (zA A 4 f) n s) (hs : s < 2) {r : Nat} (hr : r < 2147483648) : ∃ M', qG_putRow M (nI s) (nI r) = some M' ∧ cT M' n m (zA A 4 (sLay A n s r)) ∧ lT M' n m (zA A 4 (sLay A n s r)) ∧ ∀ c, c ≠ 68 → M' c = M c := by
  obtain ⟨M9, g1, g2, g3⟩ := c_putRow hM hW hs r hr
  rw [sE_lay hE] at g3
  refine ⟨M9, g1, ?_, ?_, g2⟩
  · have := cT_lay g2 g3 hM
    rw [zA_zA] at this
    exact this
  · have := lT_lay (f := sLay A n s r) g2 hL
    rw [zA_zA] at this
    exact this
noncomputable def sHu (A : zM) (n a b : Nat) : Nat → Int32
  | 0 => 0
  | q + 1 => if sSv (zA A 4 (sLay A n 0 a)) n q < sSv (zA A 4 (sLay A n 0 b)) n q then sHu A n a b q ||| (1 <<< (nI q &&& 31)) else sHu A n a b q
theorem sHu_s (A : zM) (n a b q : Nat) : sHu A n a b (q + 1) = if sSv (zA A 4 (sLay A n 0 a)) n q < sSv (zA A 4 (sLay A n 0 b)) n q then sHu A n a b q ||| (1 <<< (nI q &&& 31)) else sHu A n a b q := rfl
theorem m_relay {f : Nat → Int32} (hM : mT M n m (zA A 4 f)) (hW : sWF n m (zA A 4 f)) (hE : sE A (zA A 4 f) n s) (hs : s < 2) {r : Nat} (hr : r < 2147483648) : ∃ M', qM_lay M (nI s) (nI r) = some M' ∧ mT M' n m (zA A 4 (sLay A n s r)) ∧ M' 89 = sLay A n s r ∧ ∀ c, c ≠ 89 → M' c = M c := by
  obtain ⟨M9, g1, g2, g3⟩ := m_lay hM hW hs r hr
  rw [sE_lay hE] at g3
  refine ⟨M9, g1, ?_, g3, g2⟩
  have := mT_lay g2 g3 hM
  rw [zA_zA] at this
  exact this
theorem k_hurt (hI : zI M) : ∃ x M1 M2, qS_hurt M = some (x, M1) ∧ qM_hurt M1 = some (x, M2) ∧ zI M2 := by
  obtain ⟨n, m, k, law, A, hI⟩ := hI
  have hn := hI.n4
  have hm := hI.m5
  have hr := wf_rows hI.w.wf
  -- the reference's two searches
  have both : ∀ {M : zM}, zIn M n m k law A → ∃ M3 M5, qM_bestOf (zw M 86 18 1) 0 = some (bV (sBest 1 A n m 0), M3) ∧ qM_bestOf (zw M3 86 18 0) 0 = some (bV (sBest 0 A n m 0), M5) ∧ eM j19 M (zw M5 86 18 (M 86 18)) := by
    intro M hI
    have m1 : mT (zw M 86 18 1) n m A := mT_eq (zw_other (by decide)) (zw_other (by decide)) (fun c a b => zw_ne (by omega)) hI.m.t
    obtain ⟨M3, a1, a2, -⟩ := m_bestOf (s := 0) m1 hI.w.wf (by omega) (zw_same _ _ _ _) (Or.inr rfl)
    have m3 : mT M3 n m A := mT_eM a2 (by decide) (by decide) m1
    have m3' : mT (zw M3 86 18 0) n m A := mT_eq (zw_other (by decide)) (zw_other (by decide)) (fun c a b => zw_ne (by omega)) m3
    obtain ⟨M5, b1, b2, -⟩ := m_bestOf (s := 0) m3' hI.w.wf (by omega) (zw_same _ _ _ _) (Or.inl rfl)
    refine ⟨M3, M5, a1, b1, fun c hc => ?_, fun j hj => ?_⟩
    · rw [zw_ne hc, b2.1 c hc, zw_ne hc, a2.1 c hc, zw_ne hc]
    · by_cases z : j = 18
      · subst z; rw [zw_same]
      · rw [zw_other z, b2.2 j hj, zw_other z, a2.2 j hj, zw_other z]
  unfold qS_hurt qM_hurt
  have hf : qS_forbidsAll M 0 1 = _ := c_forbids (s := 0) hI (by omega) (Or.inr rfl)
  rw [zb_ok hf]
  by_cases hb : sBest 1 A n m 0 = none
  · rw [pB_t hb, if_neg z10]
    obtain ⟨M3, M5, a1, a2, a3⟩ := both hI
    refine ⟨_, _, _, rfl, ?_, (zIn_19 hI a3).z⟩
    have e0 : qM_rowOf M 0 = _ := m_rowOf (s := 0) hI.m.t hI.w.wf (by omega)
    rw [zb_ok e0, zb2_ok a1, zb2_ok a2, hb, if_pos (show bV none < 0 by decide)]
  · rw [pB_f hb, if_pos rfl]
    have hb0 : ¬ sBest 0 A n m 0 = none := fun h => absurd ((best_none (s := 0) (m := m) hI.w (Or.inl rfl)).mp h).1 (by decide)
    obtain ⟨a, xa, ha, hal, -, -⟩ := best_some hb
    obtain ⟨b, xb, hbb, hbl, -, -⟩ := best_some hb0
    obtain ⟨M1, g1, g2, g3, g4, g5⟩ := c_look hI
    have p1 : ∃ M4, qP_bestRow M1 0 1 = some (nI a, M4) ∧ wk M1 M4 := by
      obtain ⟨M4, h1, h2⟩ := c_bestRow (s := 0) g3 g4 hI.w.wf (by omega) 1
      rw [ha] at h1
      exact ⟨M4, h1, h2⟩
    obtain ⟨M4, h1, h2⟩ := p1
    have hc4 := cT_wk h2 g3
    have hl4 := lT_wk h2 g4
    have p2 : ∃ M6, qP_bestRow M4 0 0 = some (nI b, M6) ∧ wk M4 M6 := by
      obtain ⟨M6, h1, h2⟩ := c_bestRow (s := 0) hc4 hl4 hI.w.wf (by omega) 0
      rw [hbb] at h1
      exact ⟨M6, h1, h2⟩
    obtain ⟨M6, h3, h4⟩ := p2
    have hc6 := cT_wk h4 hc4
    have hl6 := lT_wk h4 hl4
    rw [zb_ok g1, zb2_ok h1, zb2_ok h3]
    have hWa := wf_lay hI.w.wf a (s := 0) (by omega)
    have hWb := wf_lay hI.w.wf b (s := 0) (by omega)
    have key : ∃ M9, zlp (qS_hurt_L41 (nI a) (nI b)) zfu (0, 0, M6) = some (sHu A n a b m, M9) ∧ ck M6 M9 ∧ ∃ f, cT M9 n m (zA A 4 f) ∧ sE A (zA A 4 f) n 0 := by
      refine zlp_inv (b := qS_hurt_L41 (nI a) (nI b)) (I := fun i v => v.1 = sHu A n a b i ∧ v.2.1 = nI i ∧ ck M6 v.2.2 ∧ ∃ f, cT v.2.2 n m (zA A 4 f) ∧ lT v.2.2 n m (zA A 4 f) ∧ sWF n m (zA A 4 f) ∧ sE A (zA A 4 f) n 0) m (E := fun o => ∃ M9, o = some (sHu A n a b m, M9) ∧ ck M6 M9 ∧ ∃ f, cT M9 n m (zA A 4 f) ∧ sE A (zA A 4 f) n 0) (zfu_gt (by omega)) (fun i hi v hv => ?_) (fun v hv => ?_) (s := (0, 0, M6)) ⟨rfl, rfl, ck.rf M6, A 4, by rw [zA_id rfl]; exact hc6, by rw [zA_id rfl]; exact hl6, by rw [zA_id rfl]; exact hI.w.wf, by rw [zA_id rfl]; exact sE.rf A⟩
      · obtain ⟨v3, v4, M9⟩ := v
        obtain ⟨e1, e2, e3, f, e4, e5, e6, e7⟩ := hv
        dsimp only at e1 e2 e3 e4 e5
        subst e1 e2
        obtain ⟨M11, q1, q2, q3, q4⟩ := c_put e4 e5 e6 e7 (by omega) (r := a) (by omega)
        have q1' : qG_putRow M9 0 (nI a) = some M11 := q1
        obtain ⟨M13, r1, r2⟩ := c_savedBy q2 q3 hWa hi
        obtain ⟨M14, s1, s2, s3, s4⟩ := c_put (cT_wk r2 q2) (lT_wk r2 q3) hWa (sE_layA a) (by omega) (r := b) (by omega)
        have s1' : qG_putRow M13 0 (nI b) = some M14 := s1
        obtain ⟨M16, t1, t2⟩ := c_savedBy s2 s3 hWb hi
        have h10 : M9 10 0 = nI m := e4.2.1
        refine ⟨(sHu A n a b (i + 1), nI (i + 1), M16), ⟨rfl, rfl, e3.tr ((ck_68 q4).tr ((ck_wk r2).tr ((ck_68 s4).tr (ck_wk t2)))), sLay A n 0 b, cT_wk t2 s2, lT_wk t2 s3, hWb, sE_layA b⟩, fun rc => ?_⟩
        unfold qS_hurt_L41
        simp (disch := omega) only [h10, zn_lt, if_pos hi, nI_1]
        rw [zb_ok q1', zb2_ok r1, zb_ok s1', zb2_ok t1, sHu_s]
        by_cases z : sSv (zA A 4 (sLay A n 0 a)) n i < sSv (zA A 4 (sLay A n 0 b)) n i
        · rw [if_pos z, if_pos z]
        · rw [if_neg z, if_neg z]
      · obtain ⟨v3, v4, M9⟩ := v
        obtain ⟨e1, e2, e3, f, e4, e5, e6, e7⟩ := hv
        dsimp only at e1 e2 e3 e4 e5
        subst e1 e2
        have h10 : M9 10 0 = nI m := e4.2.1
        refine ⟨_, ⟨M9, rfl, e3, f, e4, e7⟩, fun rc => ?_⟩
        unfold qS_hurt_L41
        simp (disch := omega) only [h10, zn_lt, Nat.lt_irrefl, if_false]
    obtain ⟨M9, k1, k2, f, k3, k4⟩ := key
    rw [k1]
    have hI9 : zIn M9 n m k law A := zIn_t hI ((cf_look g2).tr ((cf_wk h2).tr ((cf_wk h4).tr (cf_ck k2)))) k3 (az_sE (az_of hI) k4 hn (by omega))
    obtain ⟨N3, N5, a1, a2, a3⟩ := both hI9
    have hI5 := zIn_19 hI9 a3
    obtain ⟨N6, hN6⟩ : ∃ N6, N6 = zw N5 86 18 (M9 86 18) := ⟨_, rfl⟩
    rw [← hN6] at a3 hI5
    refine ⟨_, _, N6, rfl, ?_, hI5.z⟩
    have e0 : qM_rowOf M9 0 = _ := m_rowOf (s := 0) hI9.m.t hI9.w.wf (by omega)
    rw [zb_ok e0, zb2_ok a1, zb2_ok a2, ha, hbb, if_neg (show ¬ bV (some (a, xa)) < 0 from nI_nn a (by omega)), show bV (some (a, xa)) = nI a from rfl, show bV (some (b, xb)) = nI b from rfl, ← hN6]
    refine zlp_inv (b := qM_hurt_L52 (nI b) (nI a) (nI (sRw (sK A) (sAt A 0) n))) (I := fun i v => v.1 = sHu A n a b i ∧ v.2.1 = nI i ∧ (∀ c, c ≠ 89 → v.2.2 c = N6 c) ∧ ∃ f, v.2.2 89 = f ∧ sWF n m (zA A 4 f) ∧ sE A (zA A 4 f) n 0) m (E := fun o => o = some (sHu A n a b m, N6)) (zfu_gt (by omega)) (fun i hi v hv => ?_) (fun v hv => ?_) (s := (0, 0, N6)) ⟨rfl, rfl, fun _ _ => rfl, A 4, hI5.m.t.2.2.2.2.2.2.1, by rw [zA_id rfl]; exact hI.w.wf, by rw [zA_id rfl]; exact sE.rf A⟩
    · obtain ⟨v5, v6, M8⟩ := v
      obtain ⟨e1, e2, e3, f, e4, e5, e6⟩ := hv
      dsimp only at e1 e2 e3 e4
      subst e1 e2
      have hM8 : mT M8 n m (zA A 4 f) := mT_lay e3 e4 hI5.m.t
      obtain ⟨M11, q1, q2, q3, q4⟩ := m_relay hM8 e5 e6 (by omega) (r := b) (by omega)
      have q1' : qM_lay M8 0 (nI b) = some M11 := q1
      obtain ⟨M13, r1, r2, r3, r4⟩ := m_relay q2 hWb (sE_layA b) (by omega) (r := a) (by omega)
      have r1' : qM_lay M11 0 (nI a) = some M13 := r1
      have h14 : M8 86 14 = nI m := hM8.2.1
      refine ⟨(sHu A n a b (i + 1), nI (i + 1), M13), ⟨rfl, rfl, fun c hc => (r4 c hc).trans ((q4 c hc).trans (e3 c hc)), sLay A n 0 a, r3, hWa, sE_layA a⟩, fun rc => ?_⟩
      unfold qM_hurt_L52
      simp (disch := omega) only [h14, zn_lt, if_pos hi, nI_1]
      rw [zb_ok q1', zb_ok (m_savesOf q2 hWb hi), zb_ok r1', zb_ok (m_savesOf r2 hWa hi), sHu_s]
      by_cases z : sSv (zA A 4 (sLay A n 0 a)) n i < sSv (zA A 4 (sLay A n 0 b)) n i
      · rw [if_pos z, if_pos z]
      · rw [if_neg z, if_neg z, i32_or_0]
    · obtain ⟨v5, v6, M8⟩ := v
      obtain ⟨e1, e2, e3, f, e4, e5, e6⟩ := hv
      dsimp only at e1 e2 e3 e4
      subst e1 e2
      have hM8 : mT M8 n m (zA A 4 f) := mT_lay e3 e4 hI5.m.t
      have h14 : M8 86 14 = nI m := hM8.2.1
      have hback : qM_lay M8 0 (nI (sRw (sK A) (sAt A 0) n)) = some N6 := m_back (s := 0) hI5.m.t hI5.w.wf (by omega) e3 e4 e5 (fun r => sE_lay e6 r)
      refine ⟨_, rfl, fun rc => ?_⟩
      unfold qM_hurt_L52
      simp (disch := omega) only [h14, zn_lt, Nat.lt_irrefl, if_false]
      rw [zb_ok hback]
end ZHurt
