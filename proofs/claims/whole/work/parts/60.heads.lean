section ZHeads
variable {M : zM} {n m k : Nat} {law : Int32} {A A' : zM} {q s t : Nat}
theorem c_relearn (hM : cT M n m A') (hW : sWF n m A') (hL : lT M n m A) (h0 : A' 0 = A 0) (h1 : A' 1 = A 1) (h5 : A' 5 = A 5) (h8 : A' 8 = A 8) (h11 : A' 11 = A 11) (h12 : A' 12 = A 12) (hw : ∀ way q s' t' p, s' < 2 → t' < 4 → ¬ (s' = s ∧ t' = t) → sWt A' way q s' t' p = sWt A way q s' t' p) (hs : s < 2) (ht : t < n) : ∃ M', qW_learnThing M (nI s) (nI t) = some M' ∧ eT M M' ∧ lT M' n m A' := by
  have hn := hW.1
  obtain ⟨M', g1, g2, g3, g4⟩ := c_learnThing hM hW hs ht
  refine ⟨M', g1, g2, fun q s' t' k k' a1 a2 a3 a4 a5 a6 => ?_⟩
  by_cases c : s' = s ∧ t' = t
  · obtain ⟨rfl, rfl⟩ := c
    exact g3 q k k' a1 a4 a5 a6
  · have z := g4 q s' t' k (by omega) a2 (by omega) c
    have y := hL q s' t' k k' a1 a2 a3 (by rw [← h0]; exact a4) a5 a6
    unfold lT1 at *
    rw [z.1, z.2, y.1, y.2]
    unfold sGn sTk
    rw [h1, h5, h8, h11, h12, hw _ _ _ _ _ a2 (by omega) c, hw _ _ _ _ _ a2 (by omega) c]
    exact ⟨rfl, rfl⟩
theorem cT_w3 (h : cT M n m A) (j : Nat) (x : Int32) : cT (zw M 67 j x) n m (zw A 3 j x) := by
  obtain ⟨h1, h2, h3, h4, h5, h6, h7, h8, h9, h10, h11, h12, h13, h14⟩ := h
  exact ⟨h1, h2, h3, h4, h5, by rw [zw_at, zw_at, h6], h7, h8, h9, h10, h11, h12, h13, h14⟩
theorem cT_w2 (h : cT M n m A) (j : Nat) (x : Int32) : cT (zw M 66 j x) n m (zw A 2 j x) := by
  obtain ⟨h1, h2, h3, h4, h5, h6, h7, h8, h9, h10, h11, h12, h13, h14⟩ := h
  exact ⟨h1, h2, h3, h4, by rw [zw_at, zw_at, h5], h6, h7, h8, h9, h10, h11, h12, h13, h14⟩
theorem cT_w5 (h : cT M n m A) (j : Nat) (x : Int32) : cT (zw M 69 j x) n m (zw A 5 j x) := by
  obtain ⟨h1, h2, h3, h4, h5, h6, h7, h8, h9, h10, h11, h12, h13, h14⟩ := h
  exact ⟨h1, h2, h3, h4, h5, h6, h7, by rw [zw_at, zw_at, h8], h9, h10, h11, h12, h13, h14⟩
theorem cf_eT' {M' : zM} (h : eT M M') : cf M M' := cf_eT h
theorem c_leftWithHead (hM : cT M n m A) (hL : lT M n m A) (hW : sWF n m A) (hs : s < 2) (ht : t < n) (h : Int32) : ∃ M', qP_leftWithHead M (nI s) (nI t) h = some (sLf (zw A 3 (4 * s + t) h) n m s, M') ∧ cT M' n m (zw A 3 (4 * s + t) h) ∧ lT M' n m (zw A 3 (4 * s + t) h) ∧ cf M M' := by
  have hn := hW.1
  have c1 := cT_w3 hM (4 * s + t) h
  have hW' : sWF n m (zw A 3 (4 * s + t) h) := hW
  have hL' : lT (zw M 67 (4 * s + t) h) n m A := lT_of (zw_ne (by decide)) (zw_ne (by decide)) hL
  obtain ⟨M1, g1, g2, g3⟩ := c_relearn (A := A) c1 hW' hL' rfl rfl rfl rfl rfl rfl (fun way q s' t' p hs' ht' hne => by
    unfold sWt
    have e : (zw A 3 (4 * s + t) h) 3 (4 * s' + t') = A 3 (4 * s' + t') := zw_other (by omega)
    have e2 : (zw A 3 (4 * s + t) h) 10 = A 10 := rfl
    have e3 : (zw A 3 (4 * s + t) h) 11 = A 11 := rfl
    have e4 : (zw A 3 (4 * s + t) h) 2 = A 2 := rfl
    rw [e, e2, e3, e4]) hs ht
  have c2 := cT_eT g2 c1
  obtain ⟨M3, f1, f2⟩ := c_leftOf c2 g3 hW' hs
  refine ⟨M3, ?_, cT_wk f2 c2, lT_wk f2 g3, (cf_zw (by omega)).tr ((cf_eT g2).tr (cf_wk f2))⟩
  unfold qP_leftWithHead
  simp (disch := omega) only [zc_m4, nI_add, zn_cl, zq_in]
  rw [zb_ok g1, zb2_ok f1]
/-- LEFT by a head -/
noncomputable def hS (A : zM) (n m s t h : Nat) : Int32 := sLf (zw A 3 (4 * s + t) (nI h)) n m s
/-- the greatest best -/
def hB (H : Nat → Int32) (b : Nat) : Prop := b ≤ 3 ∧ ∀ h, h ≤ 3 → ¬ H b < H h ∧ (b < h → H h < H b)
theorem hB_one {H : Nat → Int32} {b b' : Nat} (h : hB H b) (h' : hB H b') : b = b' := by
  by_cases c : b < b'
  · exact absurd ((h.2 b' h'.1).2 c) (h'.2 b h.1).1
  · by_cases c2 : b' < b
    · exact absurd ((h'.2 b h.1).2 c2) (h.2 b' h'.1).1
    · omega
theorem c_headFor (hM : cT M n m A) (hL : lT M n m A) (hW : sWF n m A) (hs : s < 2) (ht : t < n) : ∃ b M', qP_headFor M (nI s) (nI t) = some (nI b, M') ∧ hB (hS A n m s t) b ∧ cf M M' ∧ ∃ x, cT M' n m (zw A 3 (4 * s + t) x) := by
  obtain ⟨M2, g1, g2, g3, g4⟩ := c_leftWithHead hM hL hW hs ht 3
  unfold qP_headFor
  rw [zb2_ok g1]
  refine zlp_inv (b := qP_headFor_L14 (nI s) (nI t)) (I := fun i v => ∃ b, 3 - i ≤ b ∧ b ≤ 3 ∧ v.1 = nI b ∧ v.2.1 = hS A n m s t b ∧ v.2.2.1 = nI (3 - i) - 1 ∧ (∀ h, 3 - i ≤ h → h ≤ 3 → ¬ hS A n m s t b < hS A n m s t h ∧ (b < h → hS A n m s t h < hS A n m s t b)) ∧ cf M v.2.2.2 ∧ ∃ x, cT v.2.2.2 n m (zw A 3 (4 * s + t) x) ∧ lT v.2.2.2 n m (zw A 3 (4 * s + t) x)) 3 (E := fun o => ∃ b M', o = some (nI b, M') ∧ hB (hS A n m s t) b ∧ cf M M' ∧ ∃ x, cT M' n m (zw A 3 (4 * s + t) x)) (zfu_gt (by omega)) (fun i hi v hv => ?_) (fun v hv => ?_) (s := (3, sLf (zw A 3 (4 * s + t) 3) n m s, 2, M2)) ⟨3, by omega, by omega, rfl, rfl, rfl, (fun h h1 h2 => by
    have e : h = 3 := by omega
    subst e
    exact ⟨Int32.lt_irrefl, fun z => by omega⟩), g4, 3, g2, g3⟩
  · obtain ⟨v3, v4, v5, M6⟩ := v
    obtain ⟨b, e1, e2, e3, e4, e5, e6, e7, x, e8, e9⟩ := hv
    dsimp only at e3 e4 e5 e7 e8 e9
    obtain ⟨j, hj⟩ : ∃ j, 3 - i = j + 1 := ⟨3 - i - 1, by omega⟩
    have hji : 3 - (i + 1) = j := by omega
    rw [hj, nI_pred] at e5
    subst e3 e4 e5
    have hW' : sWF n m (zw A 3 (4 * s + t) x) := hW
    obtain ⟨M9, f1, f2, f3, f4⟩ := c_leftWithHead e8 e9 hW' hs ht (nI j)
    rw [zw_zw] at f1 f2 f3
    have f1' : qP_leftWithHead M6 (nI s) (nI t) (nI j) = some (hS A n m s t j, M9) := f1
    have hd : ∀ rc, qP_headFor_L14 (nI s) (nI t) rc (nI b, hS A n m s t b, nI j, M6) = if hS A n m s t b < hS A n m s t j then rc (nI j, hS A n m s t j, nI j - 1, M9) else rc (nI b, hS A n m s t b, nI j - 1, M9) := fun rc => by
      unfold qP_headFor_L14
      simp (disch := omega) only [zn_ge0, if_false, zn_m1]
      rw [zb2_ok f1']
    by_cases c : hS A n m s t b < hS A n m s t j
    · refine ⟨(nI j, hS A n m s t j, nI j - 1, M9), ⟨j, by omega, by omega, rfl, rfl, by rw [hji], fun h h1 h2 => ?_, e7.tr f4, nI j, f2, f3⟩, fun rc => by rw [hd rc, if_pos c]⟩
      rw [hji] at h1
      by_cases z : h = j
      · subst z
        exact ⟨Int32.lt_irrefl, fun y => by omega⟩
      · have y := e6 h (by omega) h2
        have hlt : hS A n m s t h < hS A n m s t j := Int32.lt_of_le_of_lt (Int32.not_lt.mp y.1) c
        exact ⟨fun q => Int32.lt_irrefl (Int32.lt_trans q hlt), fun _ => hlt⟩
    · refine ⟨(nI b, hS A n m s t b, nI j - 1, M9), ⟨b, by omega, e2, rfl, rfl, by rw [hji], fun h h1 h2 => ?_, e7.tr f4, nI j, f2, f3⟩, fun rc => by rw [hd rc, if_neg c]⟩
      rw [hji] at h1
      by_cases z : h = j
      · subst z
        exact ⟨c, fun y => by omega⟩
      · exact e6 h (by omega) h2
  · obtain ⟨v3, v4, v5, M6⟩ := v
    obtain ⟨b, e1, e2, e3, e4, e5, e6, e7, x, e8, e9⟩ := hv
    dsimp only at e3 e4 e5 e7 e8 e9
    subst e3 e4 e5
    refine ⟨some (nI b, M6), ⟨b, M6, rfl, ⟨e2, fun h hh => e6 h (by omega) hh⟩, e7, x, e8⟩, fun rc => ?_⟩
    unfold qP_headFor_L14
    exact if_pos (by decide)
theorem m_heads (hM : mT M n m A) (hW : sWF n m A) (hs : s < 2) (ht : t < n) : ∃ b, qM_heads M (nI s) (nI t) = some (nI b, M) ∧ hB (hS A n m s t) b := by
  have hn := hW.1
  unfold qM_heads
  rw [zb_ok m_isShop, if_pos (show sIn 0 1 (nI s) from sIn_t (h := 2) (by omega) hs), if_neg z10, zb_ok (m_isThing hM.1), if_pos (sIn_t (by omega) ht), if_neg z10]
  simp (disch := omega) only [zn_4m, nI_add, zq_in]
  refine zlp_inv (b := qM_heads_L40 (nI s) (nI t) M) (I := fun i v => v.2.2.1 = nI i ∧ (∃ x, v.2.2.2 = zw M 88 (4 * s + t) x) ∧ (1 ≤ i → ∃ b, b < i ∧ v.1 = nI b ∧ v.2.1 = hS A n m s t b ∧ ∀ h, h < i → ¬ hS A n m s t b < hS A n m s t h ∧ (b < h → hS A n m s t h < hS A n m s t b))) 4 (E := fun o => ∃ b, o = some (nI b, M) ∧ hB (hS A n m s t) b) (zfu_gt (by omega)) (fun i hi v hv => ?_) (fun v hv => ?_) (s := (0, 0, 0, M)) ⟨rfl, ⟨M 88 (4 * s + t), (zw_id M 88 (4 * s + t)).symm⟩, fun h => by omega⟩
  · obtain ⟨v5, v6, v7, M6⟩ := v
    obtain ⟨e1, ⟨x, e2⟩, e3⟩ := hv
    dsimp only at e1 e2 e3
    subst e1 e2
    have m8 := mT_w3 hM (4 * s + t) (nI i)
    have f1 : qM_leftOf (zw M 88 (4 * s + t) (nI i)) (nI s) = some (hS A n m s t i) := m_leftOf m8 hW hs
    have hd : ∀ rc, qM_heads_L40 (nI s) (nI t) M rc (v5, v6, nI i, zw M 88 (4 * s + t) x) = if nI i = 0 then rc (nI i, hS A n m s t i, nI (i + 1), zw M 88 (4 * s + t) (nI i)) else if hS A n m s t i < v6 then rc (v5, v6, nI (i + 1), zw M 88 (4 * s + t) (nI i)) else rc (nI i, hS A n m s t i, nI (i + 1), zw M 88 (4 * s + t) (nI i)) := fun rc => by
      unfold qM_heads_L40
      dsimp only
      rw [if_neg (show ¬ (3 : Int32) < nI i from nI_nlt (a := 3) (b := i) (by omega) (by omega))]
      simp (disch := omega) only [zn_4m, nI_add, zq_in, zn_cl, zw_zw, nI_1]
      rw [zb_ok f1]
    by_cases c0 : i = 0
    · subst c0
      refine ⟨(nI 0, hS A n m s t 0, nI 1, zw M 88 (4 * s + t) (nI 0)), ⟨rfl, ⟨_, rfl⟩, fun _ => ⟨0, by omega, rfl, rfl, fun h hh => ?_⟩⟩, fun rc => by rw [hd rc, if_pos (show nI 0 = 0 from rfl)]⟩
      have e : h = 0 := by omega
      subst e
      exact ⟨Int32.lt_irrefl, fun z => by omega⟩
    · obtain ⟨b, b1, b2, b3, b4⟩ := e3 (by omega)
      subst b2 b3
      have n0 : ¬ nI i = 0 := nI_ne0 (by omega) (by omega)
      by_cases c : hS A n m s t i < hS A n m s t b
      · refine ⟨(nI b, hS A n m s t b, nI (i + 1), zw M 88 (4 * s + t) (nI i)), ⟨rfl, ⟨_, rfl⟩, fun _ => ⟨b, by omega, rfl, rfl, fun h hh => ?_⟩⟩, fun rc => by rw [hd rc, if_neg n0, if_pos c]⟩
        by_cases z : h = i
        · subst z
          exact ⟨fun q => Int32.lt_irrefl (Int32.lt_trans q c), fun _ => c⟩
        · exact b4 h (by omega)
      · refine ⟨(nI i, hS A n m s t i, nI (i + 1), zw M 88 (4 * s + t) (nI i)), ⟨rfl, ⟨_, rfl⟩, fun _ => ⟨i, by omega, rfl, rfl, fun h hh => ?_⟩⟩, fun rc => by rw [hd rc, if_neg n0, if_neg c]⟩
        by_cases z : h = i
        · subst z
          exact ⟨Int32.lt_irrefl, fun y => by omega⟩
        · have y := b4 h (by omega)
          exact ⟨fun q => c (Int32.lt_of_lt_of_le q (Int32.not_lt.mp y.1)), fun y => by omega⟩
  · obtain ⟨v5, v6, v7, M6⟩ := v
    obtain ⟨e1, ⟨x, e2⟩, e3⟩ := hv
    dsimp only at e1 e2 e3
    subst e1 e2
    obtain ⟨b, b1, b2, b3, b4⟩ := e3 (by omega)
    subst b2 b3
    refine ⟨some (nI b, M), ⟨b, rfl, by omega, fun h hh => b4 h (by omega)⟩, fun rc => ?_⟩
    unfold qM_heads_L40
    dsimp only
    rw [if_pos (show (3 : Int32) < nI 4 by decide)]
    simp (disch := omega) only [zn_4m, nI_add, zq_in, zn_cl]
    rw [zw_back]
theorem k_heads (hI : zI M) (u v : Int32) : ∃ x M1 M2, qS_heads M u v = some (x, M1) ∧ qM_heads M1 u v = some (x, M2) ∧ zI M2 := by
  obtain ⟨n, m, k, law, A, hI⟩ := hI
  have hn := hI.n4
  unfold qS_heads
  rw [zb_ok c_noShop]
  by_cases c : sIn 0 1 u
  · rw [if_pos c, if_pos rfl, zb_ok (c_noThing hI.c.n)]
    by_cases c2 : sIn 0 (nI n - 1) v
    · rw [if_pos c2, if_pos rfl]
      obtain ⟨s, hs, rfl⟩ := sIn_n (h := 1) (by omega) c
      obtain ⟨t, ht, rfl⟩ := sIn_m (by omega) c2
      have hs2 : s < 2 := by omega
      obtain ⟨M1, g1, g2, g3, g4, g5⟩ := c_look hI
      obtain ⟨b, M5, f1, f2, f3, x, f4⟩ := c_headFor g3 g4 hI.w.wf hs2 ht
      rw [zb_ok g1, zb2_ok f1]
      have hI5 : zIn M5 n m k law A := zIn_t hI ((cf_look g2).tr f3) f4 (az_w3 (az_of hI) (by omega) x)
      obtain ⟨b', h1, h2⟩ := m_heads hI5.m.t hI5.w.wf hs2 ht
      have e := hB_one f2 h2
      subst e
      exact ⟨_, _, M5, rfl, h1, hI5.z⟩
    · rw [if_neg c2, if_neg z10]
      refine ⟨_, _, _, rfl, ?_, hI.z⟩
      unfold qM_heads
      rw [zb_ok m_isShop, if_pos c, if_neg z10, zb_ok (m_isThing hI.m.t.1), if_neg c2, if_pos rfl]
  · rw [if_neg c, if_neg z10]
    refine ⟨_, _, _, rfl, ?_, hI.z⟩
    unfold qM_heads
    rw [zb_ok m_isShop, if_neg c, if_pos rfl]
end ZHeads
