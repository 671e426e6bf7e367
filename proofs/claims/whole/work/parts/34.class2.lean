section ZClass2
variable {M : zM} {n m : Nat} {A : zM} {q s t : Nat}
theorem zw_same (M : zM) (r j : Nat) (x : Int32) : zw M r j x r j = x := by simp [zw, zA, upd]
theorem zw_other {M : zM} {r j i : Nat} {x : Int32} (h : i ≠ j) : zw M r j x r i = M r i := by simp [zw, zA, upd, h]
theorem zw_ne {M : zM} {r r' j : Nat} {x : Int32} (h : r' ≠ r) : zw M r j x r' = M r' := by simp [zw, zA, h]
/-- nothing but side and basket has changed -/
def wk (M M' : zM) : Prop := ∀ r, r ≠ 73 → r ≠ 74 → M' r = M r
theorem wk.rf (M : zM) : wk M M := fun _ _ _ => rfl
theorem wk.tr {M1 M2 M3 : zM} (h1 : wk M1 M2) (h2 : wk M2 M3) : wk M1 M3 := fun r a b => (h2 r a b).trans (h1 r a b)
theorem cT_wk {M' : zM} (h : wk M M') (hM : cT M n m A) : cT M' n m A := by
  unfold cT at *
  simp only [h 63 (by decide) (by decide), h 10 (by decide) (by decide), h 64 (by decide) (by decide), h 65 (by decide) (by decide), h 66 (by decide) (by decide), h 67 (by decide) (by decide), h 68 (by decide) (by decide), h 69 (by decide) (by decide), h 11 (by decide) (by decide), h 12 (by decide) (by decide), h 13 (by decide) (by decide), h 15 (by decide) (by decide), h 16 (by decide) (by decide), h 17 (by decide) (by decide)]
  exact hM
theorem lT_wk {M' : zM} (h : wk M M') (hL : lT M n m A) : lT M' n m A := by
  intro q s t k k' a1 a2 a3 a4 a5 a6
  have := hL q s t k k' a1 a2 a3 a4 a5 a6
  unfold lT1 at *
  rw [h 71 (by decide) (by decide), h 72 (by decide) (by decide)]
  exact this
theorem tab_now (hL : lT M n m A) (hW : sWF n m A) (hq : q < m) (hs : s < 2) (ht : t < n) {a : Nat} (ha : A 4 (4 * s + t) = nI a) (ha3 : a < 3) : M 71 (cPos q s t a) = sTg A (A 8 q) q s t ∧ M 72 (cPos q s t a) = sWt A (A 8 q) q s t (sPr A s t) := by
  obtain ⟨a', k, h1, h2, h3, h4⟩ := hW.2.2.2.1 s t hs ht
  have : a' = a := (nI_eq (by omega) (by omega)).mp (h1.symm.trans ha)
  subst this
  have := hL q s t a' k hq hs ht h2 h3 h4
  unfold lT1 at this
  unfold sTg sPr
  rw [ha, zn_cl (by omega)]
  exact this
theorem c_placeOf (hM : cT M n m A) (hL : lT M n m A) (hW : sWF n m A) (hq : q < m) : ∃ M', qW_placeOf M (nI q) = some (sGo A n q, M') ∧ (∀ r, r ≠ 73 → M' r = M r) ∧ ∀ t, t < n → M' 73 t = nI (sSd A (A 8 q) q t) := by
  have w1 := hW.1
  have w2 := hW.2.1
  have h10 : M 12 = A 7 := hM.2.2.2.2.2.2.2.2.2.1
  unfold qW_placeOf
  simp (disch := omega) only [zc_m2, nI_1, zn_cl, zq_in, h10]
  refine zlp_inv (b := qW_placeOf_L43 (nI q)) (I := fun i v => v.1 = -(A 7 (2 * q)) + sSum (sTg A (A 8 q) q 0) i ∧ v.2.1 = -(A 7 (2 * q + 1)) + sSum (sTg A (A 8 q) q 1) i ∧ v.2.2.1 = -(A 7 (2 * q)) + -(A 7 (2 * q + 1)) + sSum (fun t => sTg A (A 8 q) q (sSd A (A 8 q) q t) t) i ∧ v.2.2.2.1 = nI i ∧ (∀ r, r ≠ 73 → v.2.2.2.2 r = M r) ∧ (∀ t, t < i → v.2.2.2.2 73 t = nI (sSd A (A 8 q) q t))) n (E := fun o => ∃ M', o = some (sGo A n q, M') ∧ (∀ r, r ≠ 73 → M' r = M r) ∧ ∀ t, t < n → M' 73 t = nI (sSd A (A 8 q) q t)) (zfu_gt (by omega)) (fun i hi v hI => ?_) (fun v hI => ?_) ⟨by show _ = _ + 0; rw [Int32.add_zero], by show _ = _ + 0; rw [Int32.add_zero], by show _ = _ + 0; rw [Int32.add_zero], rfl, fun _ _ => rfl, fun t h => by omega⟩
  · obtain ⟨v1, v2, v3, v4, M5⟩ := v
    obtain ⟨e1, e2, e3, e4, e5, e6⟩ := hI
    dsimp only at e1 e2 e3 e4 e5 e6
    subst e1 e2 e3 e4
    have hwk : wk M M5 := fun r a _ => e5 r a
    have hM5 := cT_wk hwk hM
    have hL5 := lT_wk hwk hL
    obtain ⟨a0, k0, ha0, hk0, hak0, hk03⟩ := hW.2.2.2.1 0 i (by omega) hi
    obtain ⟨a1, k1, ha1, hk1, hak1, hk13⟩ := hW.2.2.2.1 1 i (by omega) hi
    have t0 := (tab_now hL5 hW hq (s := 0) (by omega) hi ha0 (by omega)).1
    have t1 := (tab_now hL5 hW hq (s := 1) (by omega) hi ha1 (by omega)).1
    have b0 : M5 68 i = nI a0 := by rw [hM5.2.2.2.2.2.2.1]; exact (by simpa using ha0)
    have b1 : M5 68 (4 + i) = nI a1 := by rw [hM5.2.2.2.2.2.2.1]; exact (by simpa using ha1)
    have i0 : 3 * (4 * (2 * q) + i) + a0 = cPos q 0 i a0 := rfl
    have i1 : 3 * (4 * (2 * q) + 4 + i) + a1 = cPos q 1 i a1 := by unfold cPos; omega
    have l0 : cPos q 0 i a0 < 120 := by unfold cPos; omega
    have l1 : cPos q 1 i a1 < 120 := by unfold cPos; omega
    refine ⟨(-(A 7 (2 * q)) + sSum (sTg A (A 8 q) q 0) (i + 1), -(A 7 (2 * q + 1)) + sSum (sTg A (A 8 q) q 1) (i + 1), -(A 7 (2 * q)) + -(A 7 (2 * q + 1)) + sSum (fun t => sTg A (A 8 q) q (sSd A (A 8 q) q t) t) (i + 1), nI (i + 1), zw M5 73 i (nI (sSd A (A 8 q) q i))), ⟨rfl, rfl, rfl, rfl, fun r hr => by show zw _ _ _ _ r = _; rw [zw_ne hr]; exact e5 r hr, fun t ht => ?_⟩, fun rc => ?_⟩
    · by_cases hti : t = i
      · subst hti
        show zw M5 73 t _ 73 t = _
        exact zw_same _ _ _ _
      · show zw M5 73 i _ 73 t = _
        rw [zw_other hti]
        exact e6 t (by omega)
    · unfold qW_placeOf_L43
      simp (disch := omega) only [hM5.1, zn_lt, if_pos hi, zc_m2, zc_m4, zc_m3, zn_4a, zn_a4, nI_add, nI_1, zn_cl, zq_in, b0, b1, i0, i1, t0, t1, zw_same]
      have hsd : (if sTg A (A 8 q) q 0 i < sTg A (A 8 q) q 1 i then (1 : Int32) else 0) = nI (sSd A (A 8 q) q i) := by
        unfold sSd
        split <;> rfl
      have hs1 : sSum (sTg A (A 8 q) q 0) (i + 1) = sSum (sTg A (A 8 q) q 0) i + sTg A (A 8 q) q 0 i := rfl
      have hs2 : sSum (sTg A (A 8 q) q 1) (i + 1) = sSum (sTg A (A 8 q) q 1) i + sTg A (A 8 q) q 1 i := rfl
      have hs3 : sSum (fun t => sTg A (A 8 q) q (sSd A (A 8 q) q t) t) (i + 1) = sSum (fun t => sTg A (A 8 q) q (sSd A (A 8 q) q t) t) i + sTg A (A 8 q) q (sSd A (A 8 q) q i) i := rfl
      rw [hs1, hs2, hs3, hsd]
      by_cases c : sTg A (A 8 q) q 0 i < sTg A (A 8 q) q 1 i
      · have c1 : sSd A (A 8 q) q i = 1 := by unfold sSd; rw [if_pos c]
        rw [c1, if_pos (show nI 1 = 1 from rfl)]
        simp only [Int32.add_assoc]
      · have c1 : sSd A (A 8 q) q i = 0 := by unfold sSd; rw [if_neg c]
        rw [c1, if_neg (show ¬ nI 0 = 1 by decide)]
        simp only [Int32.add_assoc]
  · obtain ⟨v1, v2, v3, v4, M5⟩ := v
    obtain ⟨e1, e2, e3, e4, e5, e6⟩ := hI
    dsimp only at e1 e2 e3 e4 e5 e6
    have hwk : wk M M5 := fun r a _ => e5 r a
    have hM5 := cT_wk hwk hM
    have h11 : M5 13 = A 8 := hM5.2.2.2.2.2.2.2.2.2.2.1
    have f1 : v1 = sTh A n q 0 := e1
    have f2 : v2 = sTh A n q 1 := e2
    have f3 : v3 = sBo A n (A 8 q) q := by rw [e3, sBo, Int32.sub_eq_add_neg]
    subst f1 f2 f3 e4
    refine ⟨some (sGo A n q, M5), ⟨M5, rfl, e5, e6⟩, fun rc => ?_⟩
    unfold qW_placeOf_L43
    simp (disch := omega) only [hM5.1, zn_lt, Nat.lt_irrefl, if_false, zn_cl, zq_in, h11]
    show (if A 8 q = 1 then (if sMx A n q < sBo A n (A 8 q) q then some (3, M5) else some (sGo0 A n q, M5)) else some (sGo0 A n q, M5)) = some (sGo A n q, M5)
    unfold sGo
    by_cases c : A 8 q = 1
    · by_cases c2 : sMx A n q < sBo A n (A 8 q) q
      · rw [if_pos c, if_pos c2, if_pos ⟨c, c2⟩]
      · rw [if_pos c, if_neg c2, if_neg (fun h => c2 h.2)]
    · rw [if_neg c, if_neg (fun h => c h.1)]
theorem c_visits (to : Int32) : qW_visits to (nI s) = some (@ite _ (sVs to s) (Classical.propDecidable _) 1 0) := by
  unfold qW_visits
  by_cases c : sVs to s
  · rw [if_pos c]
    exact if_pos c
  · rw [if_neg c]
    exact if_neg c
theorem c_cell (hM : cT M n m A) (hW : sWF n m A) (hq : q < m) (hs : s < 2) (ht : t < n) {a : Nat} (ha : A 4 (4 * s + t) = nI a) (ha3 : a < 3) : qW_cell M (nI q) (nI s) (nI t) = some (nI (cPos q s t a)) := by
  have w1 := hW.1
  have w2 := hW.2.1
  have b0 : M 68 (4 * s + t) = nI a := by rw [hM.2.2.2.2.2.2.1]; exact ha
  have i0 : 3 * (4 * (2 * q) + (4 * s + t)) + a = cPos q s t a := by unfold cPos; omega
  unfold qW_cell
  simp (disch := omega) only [zc_m2, zc_m4, zc_m3, nI_add, zn_cl, zq_in, b0, i0]
/-- the basket of one sort -/
def bT (M : zM) (n : Nat) (A : zM) (q : Nat) : Prop := ∀ s t, s < 2 → t < n → M 74 (4 * s + t) = sBy A n q s t
theorem c_send (hM : cT M n m A) (hL : lT M n m A) (hW : sWF n m A) (hq : q < m) : ∃ M', qW_send M (nI q) = some (sGo A n q, M') ∧ wk M M' ∧ bT M' n A q := by
  have w1 := hW.1
  have w2 := hW.2.1
  obtain ⟨M2, p1, p2, p3⟩ := c_placeOf hM hL hW hq
  have hwk2 : wk M M2 := fun r a _ => p2 r a
  unfold qW_send
  rw [zb2_ok p1]
  refine zlp_inv (b := qW_send_L8 (sGo A n q) (nI q)) (I := fun i v => v.1 = nI i ∧ (∀ r, r ≠ 74 → v.2 r = M2 r) ∧ (∀ s t, s < i → t < n → v.2 74 (4 * s + t) = sBy A n q s t)) 2 (E := fun o => ∃ M', o = some (sGo A n q, M') ∧ wk M M' ∧ bT M' n A q) (zfu_gt (by omega)) (fun i hi v hI => ?_) (fun v hI => ?_) (s := (0, M2)) ⟨rfl, fun _ _ => rfl, fun s t h => by omega⟩
  · obtain ⟨v1, M4⟩ := v
    obtain ⟨e1, e2, e3⟩ := hI
    dsimp only at e1 e2 e3
    subst e1
    have inner := zlp_fam (b := fun rc => qW_send_L23 (@ite _ (sVs (sGo A n q) i) (Classical.propDecidable _) 1 0) (sGo A n q) (nI i) (nI q) rc) (I := fun j v => v.1 = nI j ∧ (∀ r, r ≠ 74 → v.2 r = M2 r) ∧ (∀ s t, s < i → t < n → v.2 74 (4 * s + t) = sBy A n q s t) ∧ (∀ t, t < j → v.2 74 (4 * i + t) = sBy A n q i t)) n (F := zfu) (zfu_gt (by omega)) (e := fun rc M3 => rc (nI (i + 1), M3)) (P := fun M3 => (∀ r, r ≠ 74 → M3 r = M2 r) ∧ (∀ s t, s < i + 1 → t < n → M3 74 (4 * s + t) = sBy A n q s t)) (fun j hj v hI => ?_) (fun v hI => ?_) (s := (0, M4)) ⟨rfl, e2, e3, fun t h => by omega⟩
    · obtain ⟨M3, ⟨f1, f2⟩, f4⟩ := inner
      refine ⟨(nI (i + 1), M3), ⟨rfl, f1, f2⟩, fun rc => ?_⟩
      unfold qW_send_L8
      simp (disch := omega) only [zn_lt2, if_pos hi]
      rw [zb_ok (c_visits (s := i) (sGo A n q))]
      exact f4 rc
    · obtain ⟨v1, M8⟩ := v
      obtain ⟨d1, d2, d3, d4⟩ := hI
      dsimp only at d1 d2 d3 d4
      subst d1
      have hwk8 : wk M M8 := fun r a b => (d2 r b).trans (p2 r a)
      have hM8 := cT_wk hwk8 hM
      have hL8 := lT_wk hwk8 hL
      obtain ⟨a, k, ha, hk, hak, hk3⟩ := hW.2.2.2.1 i j hi hj
      have t1 := (tab_now hL8 hW hq hi hj ha (by omega)).2
      have hsd : M8 73 j = nI (sSd A (A 8 q) q j) := by rw [d2 73 (by decide)]; exact p3 j hj
      have hlt := sSd_lt (A := A) (q := q) (t := j) (way := A 8 q)
      have l0 : cPos q i j a < 120 := by unfold cPos; omega
      refine ⟨(nI (j + 1), zw M8 74 (4 * i + j) (sBy A n q i j)), ⟨rfl, fun r hr => by show zw _ _ _ _ r = _; rw [zw_ne hr]; exact d2 r hr, fun s t hs ht => ?_, fun t ht => ?_⟩, fun g rc => ?_⟩
      · show zw M8 74 _ _ 74 _ = _
        rw [zw_other (by omega)]
        exact d3 s t hs ht
      · by_cases htj : t = j
        · subst htj
          show zw M8 74 _ _ 74 _ = _
          exact zw_same _ _ _ _
        · show zw M8 74 _ _ 74 _ = _
          rw [zw_other (by omega)]
          exact d4 t (by omega)
      · unfold qW_send_L23
        simp (disch := omega) only [hM8.1, zn_lt, if_pos hj, zlj_u, zn_cl, zq_in, hsd, zn_eq, c_cell hM8 hW hq hi hj ha (by omega), zb_s, t1, zc_m4, nI_add, nI_1]
        unfold sBy
        by_cases c1 : sVs (sGo A n q) i
        · rw [if_pos c1, if_neg (by decide)]
          by_cases c2 : sGo A n q = 3
          · rw [if_pos c2]
            by_cases c3 : sSd A (A 8 q) q j = i
            · rw [if_pos c3, zb_s, if_neg (by decide), if_pos ⟨c1, fun _ => c3⟩]
            · rw [if_neg c3, zb_s, if_pos rfl, if_neg (fun h => c3 (h.2 c2))]
          · rw [if_neg c2, zb_s, if_neg (by decide), if_pos ⟨c1, fun h => absurd h c2⟩]
        · rw [if_neg c1, if_pos rfl, zb_s, if_pos rfl, if_neg (fun h => c1 h.1)]
    · obtain ⟨v1, M8⟩ := v
      obtain ⟨d1, d2, d3, d4⟩ := hI
      dsimp only at d1 d2 d3 d4
      subst d1
      have hwk8 : wk M M8 := fun r a b => (d2 r b).trans (p2 r a)
      have hM8 := cT_wk hwk8 hM
      refine ⟨M8, ⟨d2, fun s t hs ht => ?_⟩, fun g rc => ?_⟩
      · by_cases hsi : s = i
        · subst hsi
          exact d4 t ht
        · exact d3 s t (by omega) ht
      · unfold qW_send_L23
        simp (disch := omega) only [hM8.1, zn_lt, Nat.lt_irrefl, if_false, nI_1]
  · obtain ⟨v1, M4⟩ := v
    obtain ⟨e1, e2, e3⟩ := hI
    dsimp only at e1 e2 e3
    subst e1
    refine ⟨some (sGo A n q, M4), ⟨M4, rfl, fun r a b => (e2 r b).trans (p2 r a), e3⟩, fun rc => ?_⟩
    unfold qW_send_L8
    simp (disch := omega) only [zn_lt2, Nat.lt_irrefl, if_false]
theorem c_priceNow (hM : cT M n m A) (hW : sWF n m A) (hs : s < 2) (ht : t < n) : qG_priceNow M (nI s) (nI t) = some (sPr A s t) := by
  obtain ⟨h1, h2, h3, h4, h5, h6, h7, h8, h9, h10, h11, h12, h13, h14⟩ := hM
  obtain ⟨w1, w2, w3, w4, w5, w6⟩ := hW
  obtain ⟨a, k, ha, hk, hak, hk3⟩ := w4 s t hs ht
  unfold qG_priceNow sPr
  simp (disch := omega) only [zc_m4, zc_m3, nI_add, zn_cl, zq_in, h7, h4, ha]
theorem c_brought (hM : cT M n m A) (hW : sWF n m A) (hB : bT M n A q) (hq : q < m) (hs : s < 2) : qW_brought M (nI q) (nI s) = some (sBr A n q s) := by
  obtain ⟨h1, h2, h3, h4, h5, h6, h7, h8, h9, h10, h11, h12, h13, h14⟩ := hM
  obtain ⟨w1, w2, w3, w4, w5, w6⟩ := hW
  unfold qW_brought
  refine zlp_run (b := qW_brought_L5 M (nI s) (nI q)) (s := fun i => (sSum (fun t => sBy A n q s t * (sPr A s t - A 2 (4 * s + t))) i, nI i)) n (e := some (sBr A n q s)) (zfu_gt (by omega)) (fun i hi rc => ?_) (fun rc => ?_)
  · obtain ⟨a, k, ha, hk, hak, hk3⟩ := w4 s i hs hi
    have hb := hB s i hs hi
    unfold qW_brought_L5
    simp (disch := omega) only [h1, zn_lt, if_pos hi, zc_m4, zc_m3, nI_add, nI_1, zn_cl, zq_in, h7, h4, h5, ha, hb]
    show rc (_ + sBy A n q s i * (A 1 (3 * i + a) - A 2 (4 * s + i)), _) = rc (_ + sBy A n q s i * (sPr A s i - A 2 (4 * s + i)), _)
    unfold sPr
    rw [ha, zn_cl (by omega)]
  · unfold qW_brought_L5
    simp (disch := omega) only [h1, zn_lt, Nat.lt_irrefl, if_false, zq_in, zn_cl, h9]
    rw [Int32.mul_comm]
    rfl
theorem sBr_0 (h : ¬ sVs (sGo A n q) s) : sBr A n q s = 0 := by
  unfold sBr
  have e : sSum (fun t => sBy A n q s t * (sPr A s t - A 2 (4 * s + t))) n = sSum (fun _ => 0) n := by
    apply sSum_congr
    intro i _
    unfold sBy
    rw [if_neg (fun q => h q.1)]
    simp
  have e0 : ∀ n, sSum (fun _ => 0) n = 0 := by
    intro n
    induction n with
    | zero => rfl
    | succ n ih => show sSum _ n + 0 = 0; rw [ih]; rfl
  rw [e, e0]
  simp
theorem c_leftOf (hM : cT M n m A) (hL : lT M n m A) (hW : sWF n m A) (hs : s < 2) : ∃ M', qW_leftOf M (nI s) = some (sLf A n m s, M') ∧ wk M M' := by
  have w1 := hW.1
  have w2 := hW.2.1
  unfold qW_leftOf
  refine zlp_inv (b := qW_leftOf_L4 (nI s)) (I := fun i v => v.1 = sSum (fun q => sBr A n q s) i ∧ v.2.1 = nI i ∧ wk M v.2.2) m (E := fun o => ∃ M', o = some (sLf A n m s, M') ∧ wk M M') (zfu_gt (by omega)) (fun i hi v hI => ?_) (fun v hI => ?_) (s := (0, 0, M)) ⟨rfl, rfl, wk.rf M⟩
  · obtain ⟨v1, v2, M3⟩ := v
    obtain ⟨e1, e2, e3⟩ := hI
    dsimp only at e1 e2 e3
    subst e1 e2
    have hM3 := cT_wk e3 hM
    have hL3 := lT_wk e3 hL
    obtain ⟨M6, g1, g2, g3⟩ := c_send hM3 hL3 hW hi
    have hM6 := cT_wk g2 hM3
    refine ⟨(sSum (fun q => sBr A n q s) (i + 1), nI (i + 1), M6), ⟨rfl, rfl, e3.tr g2⟩, fun rc => ?_⟩
    unfold qW_leftOf_L4
    simp (disch := omega) only [hM3.2.1, zn_lt, if_pos hi, nI_1]
    rw [zb2_ok g1, zb_ok (c_visits (s := s) (sGo A n i))]
    show _ = rc (sSum (fun q => sBr A n q s) i + sBr A n i s, _)
    by_cases c : sVs (sGo A n i) s
    · rw [if_pos c, if_neg (by decide), zb_ok (c_brought hM6 hW g3 hi hs)]
    · rw [if_neg c, if_pos rfl, sBr_0 c, Int32.add_zero]
  · obtain ⟨v1, v2, M3⟩ := v
    obtain ⟨e1, e2, e3⟩ := hI
    dsimp only at e1 e2 e3
    subst e1 e2
    have hM3 := cT_wk e3 hM
    refine ⟨some (sLf A n m s, M3), ⟨M3, rfl, e3⟩, fun rc => ?_⟩
    unfold qW_leftOf_L4
    simp (disch := omega) only [hM3.2.1, zn_lt, Nat.lt_irrefl, if_false]
    rfl
end ZClass2
