section ZModel2
variable {M : zM} {n m : Nat} {A : zM} {q s t : Nat}
theorem m_gain (hM : mT M n m A) (hW : sWF n m A) (hq : q < m) (hs : s < 2) (ht : t < n) (p : Int32) : qM_gain M (nI q) (nI s) (nI t) p = some (sGn A (A 8 q) q s t p) := by
  have hw := m_wanted hM hW hq hs ht p
  obtain ⟨h1, h2, h3, h4, h5, h6, h7, h8, h9, h10, h11, h12, h13, h14, h15⟩ := hM
  obtain ⟨w1, w2, w3, w4, w5, w6⟩ := hW
  unfold qM_gain
  rw [zb_ok hw]
  simp (disch := omega) only [zn_4m, nI_add, zn_cl, zq_in]
  unfold sGn
  by_cases c1 : A 10 (4 * q + t) = 0
  · rw [sWt_0 c1]; simp
  · rw [h14 _ c1]
theorem sTg_0 {way : Int32} (h : A 10 (4 * q + t) = 0) : sTg A way q s t = 0 := by
  unfold sTg sGn
  rw [sWt_0 h]; simp
theorem sGn_0 {way p : Int32} (h : A 10 (4 * q + t) = 0) : sGn A way q s t p = 0 := by
  unfold sGn
  rw [sWt_0 h]; simp
theorem m_taken (hM : mT M n m A) (hW : sWF n m A) (hq : q < m) (hs : s < 2) (ht : t < n) : ∃ v, qM_takenFor M (nI q) (nI s) (nI t) = some v ∧ (A 10 (4 * q + t) ≠ 0 → v = sTk A q s t (sPr A s t)) := by
  have hp := m_priceOf hM hW hs ht
  obtain ⟨h1, h2, h3, h4, h5, h6, h7, h8, h9, h10, h11, h12, h13, h14, h15⟩ := hM
  obtain ⟨w1, w2, w3, w4, w5, w6⟩ := hW
  unfold qM_takenFor
  simp (disch := omega) only [zn_4m, nI_add, zn_cl, zq_in, h8, zlj_u, hp, zb_s]
  by_cases c1 : M 99 (4 * q + t) < 0
  · refine ⟨_, if_pos c1, fun hz => ?_⟩
    rw [h15 _ hz] at c1
    unfold sTk
    rw [if_pos (Or.inl c1)]
  · rw [if_neg c1]
    by_cases c2 : ((A 5 s >>> (nI t &&& 31)) &&& 1) = 1
    · refine ⟨_, if_pos c2, fun hz => ?_⟩
      unfold sTk
      rw [if_pos (Or.inr c2)]
    · refine ⟨_, if_neg c2, fun hz => ?_⟩
      unfold sTk
      rw [if_neg (fun h => h.elim (fun h => c1 (by rw [h15 _ hz]; exact h)) c2), h15 _ hz]
theorem m_thoughtGain (hM : mT M n m A) (hW : sWF n m A) (hq : q < m) (hs : s < 2) (ht : t < n) : qM_thoughtGain M (nI q) (nI s) (nI t) = some (sTg A (A 8 q) q s t) := by
  obtain ⟨v, hv, hz⟩ := m_taken hM hW hq hs ht
  unfold qM_thoughtGain
  rw [zb_ok hv, zb_ok (m_gain hM hW hq hs ht v)]
  by_cases c1 : A 10 (4 * q + t) = 0
  · rw [sTg_0 c1, sGn_0 c1]
  · rw [hz c1]; rfl
theorem m_thinksOf (hM : mT M n m A) (hW : sWF n m A) (hq : q < m) (hs : s < 2) : qM_thinksOf M (nI q) (nI s) = some (sTh A n q s) := by
  have h1 := hM.1
  have h10 : M 94 = A 7 := hM.2.2.2.2.2.2.2.2.2.1
  have w1 := hW.1
  have w2 := hW.2.1
  unfold qM_thinksOf
  simp (disch := omega) only [zn_2m, nI_add, zn_cl, zq_in, h10]
  have key := zlp_run (b := qM_thinksOf_L15 M (nI q) (nI s)) (s := fun i => (-(A 7 (2 * q + s)) + sSum (sTg A (A 8 q) q s) i, nI i)) n (e := some (sTh A n q s)) (zfu_gt (by omega)) (fun i hi rc => ?_) (fun rc => ?_)
  · rw [← key]
    show _ = zlp _ _ (_ + 0, _)
    rw [Int32.add_zero]
    rfl
  · unfold qM_thinksOf_L15
    simp (disch := omega) only [h1, zn_lt, if_pos hi, nI_1]
    rw [zb_ok (m_thoughtGain hM hW hq hs hi), Int32.add_assoc]
    rfl
  · unfold qM_thinksOf_L15
    simp (disch := omega) only [h1, zn_lt, Nat.lt_irrefl, if_false]
    rfl
theorem m_shopOf (hM : mT M n m A) (hW : sWF n m A) (hq : q < m) (ht : t < n) : qM_shopOf M (nI q) (nI t) = some (nI (sSd A (A 8 q) q t)) := by
  unfold qM_shopOf
  have e1 : qM_thoughtGain M (nI q) 1 (nI t) = _ := m_thoughtGain (s := 1) hM hW hq (by omega) ht
  have e0 : qM_thoughtGain M (nI q) 0 (nI t) = _ := m_thoughtGain (s := 0) hM hW hq (by omega) ht
  rw [zb_ok e1, zb_ok e0]
  unfold sSd
  by_cases c : sTg A (A 8 q) q 0 t < sTg A (A 8 q) q 1 t
  · rw [if_pos c, if_pos c]; rfl
  · rw [if_neg c, if_neg c]; rfl
theorem sSd_lt {way : Int32} : sSd A way q t < 2 := by
  unfold sSd
  split <;> omega
theorem m_thinksBoth (hM : mT M n m A) (hW : sWF n m A) (hq : q < m) : qM_thinksBoth M (nI q) = some (sBo A n (A 8 q) q) := by
  have h1 := hM.1
  have h10 : M 94 = A 7 := hM.2.2.2.2.2.2.2.2.2.1
  have w1 := hW.1
  have w2 := hW.2.1
  unfold qM_thinksBoth
  simp (disch := omega) only [zn_2m, nI_1, zn_cl, zq_in, h10]
  have key := zlp_run (b := qM_thinksBoth_L23 M (nI q)) (s := fun i => (-(A 7 (2 * q)) - A 7 (2 * q + 1) + sSum (fun t => sTg A (A 8 q) q (sSd A (A 8 q) q t) t) i, nI i)) n (e := some (sBo A n (A 8 q) q)) (zfu_gt (by omega)) (fun i hi rc => ?_) (fun rc => ?_)
  · rw [← key]
    show _ = zlp _ _ (_ + 0, _)
    rw [Int32.add_zero]
    rfl
  · unfold qM_thinksBoth_L23
    simp (disch := omega) only [h1, zn_lt, if_pos hi, nI_1]
    rw [zb_ok (m_shopOf hM hW hq hi), zb_ok (m_thoughtGain hM hW hq sSd_lt hi), Int32.add_assoc]
    rfl
  · unfold qM_thinksBoth_L23
    simp (disch := omega) only [h1, zn_lt, Nat.lt_irrefl, if_false]
    rfl
theorem m_goesTo (hM : mT M n m A) (hW : sWF n m A) (hq : q < m) : qM_goesTo M (nI q) = some (sGo A n q) := by
  have h11 : M 95 = A 8 := hM.2.2.2.2.2.2.2.2.2.2.1
  have w2 := hW.2.1
  unfold qM_goesTo
  have e0 : qM_thinksOf M (nI q) 0 = _ := m_thinksOf (s := 0) hM hW hq (by omega)
  have e1 : qM_thinksOf M (nI q) 1 = _ := m_thinksOf (s := 1) hM hW hq (by omega)
  rw [zb_ok e0, zb_ok e1]
  simp (disch := omega) only [zn_cl, zq_in, h11]
  show (if A 8 q = 1 then zb (qM_thinksBoth M (nI q)) (fun x7 => if sMx A n q < x7 then some 3 else some (sGo0 A n q)) else some (sGo0 A n q)) = some (if A 8 q = 1 ∧ sMx A n q < sBo A n (A 8 q) q then 3 else sGo0 A n q)
  rw [m_thinksBoth hM hW hq, zb_s]
  by_cases c : A 8 q = 1
  · by_cases c2 : sMx A n q < sBo A n (A 8 q) q
    · rw [if_pos c, if_pos c2, if_pos ⟨c, c2⟩]
    · rw [if_pos c, if_neg c2, if_neg (fun h => c2 h.2)]
  · rw [if_neg c, if_neg (fun h => c h.1)]
theorem sGo_v : sGo A n q = 0 ∨ sGo A n q = 1 ∨ sGo A n q = 2 ∨ sGo A n q = 3 := by
  unfold sGo sGo0
  repeat' split
  all_goals simp
theorem m_bought (hM : mT M n m A) (hW : sWF n m A) (hq : q < m) (hs : s < 2) (ht : t < n) : qM_bought M (nI q) (sGo A n q) (nI s) (nI t) = some (sBy A n q s t) := by
  have hw := m_wanted hM hW hq hs ht (sPr A s t)
  have hp := m_priceOf hM hW hs ht
  have hsd := m_shopOf hM hW hq ht
  have hlt := sSd_lt (A := A) (q := q) (t := t) (way := A 8 q)
  unfold qM_bought
  simp only [zlj_u]
  rw [hsd]
  simp (disch := omega) only [zb_s, zn_eq]
  have hend : zb (qM_priceOf M (nI s) (nI t)) (fun x16 => zb (qM_wanted M (nI q) (nI s) (nI t) x16) fun x17 => some x17) = some (sWt A (A 8 q) q s t (sPr A s t)) := by rw [zb_ok hp, zb_ok hw]
  unfold sBy
  by_cases c1 : sVs (sGo A n q) s
  · have c1' : ((sGo A n q >>> (nI s &&& 31)) &&& 1) = 1 := c1
    rw [if_pos c1']
    by_cases c2 : sGo A n q = 3
    · rw [c2, if_neg (by decide)]
      by_cases c3 : sSd A (A 8 q) q t = s
      · rw [if_pos c3, zb_s, if_neg (by decide), hend, if_pos ⟨by rw [← c2]; exact c1, fun _ => c3⟩]
      · rw [if_neg c3, zb_s, if_pos rfl, if_neg (fun h => c3 (h.2 rfl))]
    · have c4 : sGo A n q < 3 := by
        rcases sGo_v (A := A) (n := n) (q := q) with h | h | h | h
        · rw [h]; decide
        · rw [h]; decide
        · rw [h]; decide
        · exact absurd h c2
      rw [if_pos c4, zb_s, if_neg (by decide), hend, if_pos ⟨c1, fun h => absurd h c2⟩]
  · have c1' : ¬ ((sGo A n q >>> (nI s &&& 31)) &&& 1) = 1 := c1
    rw [if_neg c1', zb_s, if_pos rfl, if_neg (fun h => c1 h.1)]
theorem m_broughtBy (hM : mT M n m A) (hW : sWF n m A) (hq : q < m) (hs : s < 2) : qM_broughtBy M (nI q) (nI s) = some (sBr A n q s) := by
  have h1 := hM.1
  have h5 : M 87 = A 2 := hM.2.2.2.2.1
  have h9 : M 93 = A 6 := hM.2.2.2.2.2.2.2.2.1
  have w1 := hW.1
  have w2 := hW.2.1
  unfold qM_broughtBy
  rw [zb_ok (m_goesTo hM hW hq)]
  refine zlp_run (b := qM_broughtBy_L12 M (nI q) (sGo A n q) (nI s)) (s := fun i => (sSum (fun t => sBy A n q s t * (sPr A s t - A 2 (4 * s + t))) i, nI i)) n (e := some (sBr A n q s)) (zfu_gt (by omega)) (fun i hi rc => ?_) (fun rc => ?_)
  · unfold qM_broughtBy_L12
    simp (disch := omega) only [h1, zn_lt, if_pos hi, nI_1]
    rw [zb_ok (m_bought hM hW hq hs hi), zb_ok (m_priceOf hM hW hs hi)]
    simp (disch := omega) only [zn_4m, nI_add, zn_cl, zq_in, h5]
    rfl
  · unfold qM_broughtBy_L12
    simp (disch := omega) only [h1, zn_lt, Nat.lt_irrefl, if_false, zq_in, zn_cl, h9]
    rfl
theorem m_leftOf (hM : mT M n m A) (hW : sWF n m A) (hs : s < 2) : qM_leftOf M (nI s) = some (sLf A n m s) := by
  have h2 := hM.2.1
  have w2 := hW.2.1
  unfold qM_leftOf
  refine zlp_run (b := qM_leftOf_L4 M (nI s)) (s := fun i => (sSum (fun q => sBr A n q s) i, nI i)) m (e := some (sLf A n m s)) (zfu_gt (by omega)) (fun i hi rc => ?_) (fun rc => ?_)
  · unfold qM_leftOf_L4
    simp (disch := omega) only [h2, zn_lt, if_pos hi, nI_1]
    rw [zb_ok (m_broughtBy hM hW hi hs)]
    rfl
  · unfold qM_leftOf_L4
    simp (disch := omega) only [h2, zn_lt, Nat.lt_irrefl, if_false]
    rfl
end ZModel2
