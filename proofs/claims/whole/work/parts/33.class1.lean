section ZClass1
theorem zc_m2 (a : Nat) : nI a * 2 = nI (2 * a) := by rw [zn_m2, Nat.mul_comm]
theorem zc_m3 (a : Nat) : nI a * 3 = nI (3 * a) := by rw [zn_m3, Nat.mul_comm]
theorem zc_m4 (a : Nat) : nI a * 4 = nI (4 * a) := by rw [zn_m4, Nat.mul_comm]
/-- the class's trial goods and its people hold the town -/
def cT (M : zM) (n m : Nat) (A : zM) : Prop := M 63 0 = nI n ∧ M 10 0 = nI m ∧ M 64 = A 0 ∧ M 65 = A 1 ∧ M 66 = A 2 ∧ M 67 = A 3 ∧ M 68 = A 4 ∧ M 69 = A 5 ∧ M 11 = A 6 ∧ M 12 = A 7 ∧ M 13 = A 8 ∧ M 15 = A 10 ∧ (∀ j, A 10 j ≠ 0 → M 16 j = A 11 j) ∧ (∀ j, A 10 j ≠ 0 → M 17 j = A 12 j)
/-- the place of a sort, shop, thing and step in the tables -/
def cPos (q s t k : Nat) : Nat := 3 * (4 * (2 * q + s) + t) + k
def lT1 (M : zM) (A : zM) (q s t k : Nat) : Prop := M 71 (cPos q s t k) = sGn A (A 8 q) q s t (sTk A q s t (A 1 (3 * t + k))) ∧ M 72 (cPos q s t k) = sWt A (A 8 q) q s t (A 1 (3 * t + k))
/-- the tables are learned -/
def lT (M : zM) (n m : Nat) (A : zM) : Prop := ∀ q s t k k', q < m → s < 2 → t < n → A 0 t = nI k' → k < k' → k' ≤ 3 → lT1 M A q s t k
variable {M : zM} {n m : Nat} {A : zM} {q s t : Nat}
theorem c_wantedAt (hM : cT M n m A) (hW : sWF n m A) (hq : q < m) (hs : s < 2) (ht : t < n) (p way : Int32) : qW_wantedAt M (nI q) (nI s) (nI t) p way = some (sWt A way q s t p) := by
  obtain ⟨h1, h2, h3, h4, h5, h6, h7, h8, h9, h10, h11, h12, h13, h14⟩ := hM
  obtain ⟨w1, w2, w3, w4, w5, w6⟩ := hW
  unfold qW_wantedAt
  simp (disch := omega) only [zc_m4, nI_add, zn_cl, zq_in, h12, h5, h6, zlj_u]
  by_cases c1 : A 10 (4 * q + t) = 0
  · rw [sWt_0 c1, if_pos c1]
  · rw [if_neg c1, h13 _ c1]
    unfold sWt
    by_cases c3 : A 11 (4 * q + t) < p
    · simp [c3]
    · by_cases c4 : way = 2
      · by_cases c5 : p < A 2 (4 * s + t)
        · simp [c1, c3, c4, c5]
          split <;> rfl
        · simp [c3, c4, c5]
      · simp [c1, c3, c4]
        split <;> rfl
theorem c_gainAt (hM : cT M n m A) (hW : sWF n m A) (hq : q < m) (hs : s < 2) (ht : t < n) (p way : Int32) : qW_gainAt M (nI q) (nI s) (nI t) p way = some (sGn A way q s t p) := by
  have hw := c_wantedAt hM hW hq hs ht p way
  obtain ⟨h1, h2, h3, h4, h5, h6, h7, h8, h9, h10, h11, h12, h13, h14⟩ := hM
  obtain ⟨w1, w2, w3, w4, w5, w6⟩ := hW
  unfold qW_gainAt
  rw [zb_ok hw]
  simp (disch := omega) only [zc_m4, nI_add, zn_cl, zq_in]
  unfold sGn
  by_cases c1 : A 10 (4 * q + t) = 0
  · rw [sWt_0 c1]; simp
  · by_cases c2 : sWt A way q s t p = 0
    · rw [if_pos c2, c2]; simp
    · rw [if_neg c2, h13 _ c1]
theorem c_taken (hM : cT M n m A) (hW : sWF n m A) (hq : q < m) (hs : s < 2) (ht : t < n) (p : Int32) : ∃ v, qW_takenFor M (nI q) (nI s) (nI t) p = some v ∧ (A 10 (4 * q + t) ≠ 0 → v = sTk A q s t p) := by
  obtain ⟨h1, h2, h3, h4, h5, h6, h7, h8, h9, h10, h11, h12, h13, h14⟩ := hM
  obtain ⟨w1, w2, w3, w4, w5, w6⟩ := hW
  unfold qW_takenFor
  simp (disch := omega) only [zc_m4, nI_add, zn_cl, zq_in, h8, zlj_u]
  by_cases c1 : M 17 (4 * q + t) = -6
  · rw [if_pos c1, zb_s, if_neg (by decide)]
    refine ⟨_, rfl, fun hz => ?_⟩
    rw [h14 _ hz] at c1
    unfold sTk
    rw [if_pos (Or.inl (by rw [c1]; decide))]
  · rw [if_neg c1]
    by_cases c2 : ((A 5 s >>> (nI t &&& 31)) &&& 1) = 1
    · rw [if_pos c2, zb_s, if_neg (by decide)]
      refine ⟨_, rfl, fun hz => ?_⟩
      unfold sTk
      rw [if_pos (Or.inr c2)]
    · rw [if_neg c2, zb_s, if_pos rfl]
      refine ⟨_, rfl, fun hz => ?_⟩
      unfold sTk
      rw [h14 _ hz] at c1
      rw [if_neg, h14 _ hz]
      rintro (h | h)
      · rcases w5 _ (by omega) hz with z | z
        · exact c1 z
        · exact absurd h (Int32.not_lt.mpr z)
      · exact c2 h
theorem c_thought (hM : cT M n m A) (hW : sWF n m A) (hq : q < m) (hs : s < 2) (ht : t < n) (p way : Int32) : ∃ v, qW_takenFor M (nI q) (nI s) (nI t) p = some v ∧ qW_gainAt M (nI q) (nI s) (nI t) v way = some (sGn A way q s t (sTk A q s t p)) := by
  obtain ⟨v, hv, hz⟩ := c_taken hM hW hq hs ht p
  refine ⟨v, hv, ?_⟩
  rw [c_gainAt hM hW hq hs ht]
  by_cases c1 : A 10 (4 * q + t) = 0
  · rw [sGn_0 c1, sGn_0 c1]
  · rw [hz c1]
/-- nothing but the tables of the walks has changed -/
def eT (M M' : zM) : Prop := ∀ r, r ≠ 71 → r ≠ 72 → M' r = M r
theorem cT_eT {M' : zM} (h : eT M M') (hM : cT M n m A) : cT M' n m A := by
  unfold cT at *
  simp only [h 63 (by decide) (by decide), h 10 (by decide) (by decide), h 64 (by decide) (by decide), h 65 (by decide) (by decide), h 66 (by decide) (by decide), h 67 (by decide) (by decide), h 68 (by decide) (by decide), h 69 (by decide) (by decide), h 11 (by decide) (by decide), h 12 (by decide) (by decide), h 13 (by decide) (by decide), h 15 (by decide) (by decide), h 16 (by decide) (by decide), h 17 (by decide) (by decide)]
  exact hM
theorem cPos_inj {q' s' t' k k' : Nat} (ht : t < 4) (ht' : t' < 4) (hs : s < 2) (hs' : s' < 2) (hk : k < 3) (hk' : k' < 3) (h : cPos q s t k = cPos q' s' t' k') : q = q' ∧ s = s' ∧ t = t' ∧ k = k' := by
  unfold cPos at h
  omega
/-- learnThing: the rows of one shop and thing -/
theorem c_learnThing (hM : cT M n m A) (hW : sWF n m A) (hs : s < 2) (ht : t < n) : ∃ M', qW_learnThing M (nI s) (nI t) = some M' ∧ eT M M' ∧ (∀ q k k', q < m → A 0 t = nI k' → k < k' → k' ≤ 3 → lT1 M' A q s t k) ∧ (∀ q s' t' k, t' < 4 → s' < 2 → k < 3 → ¬ (s' = s ∧ t' = t) → M' 71 (cPos q s' t' k) = M 71 (cPos q s' t' k) ∧ M' 72 (cPos q s' t' k) = M 72 (cPos q s' t' k)) := by
  obtain ⟨kk, hkk, hk1, hk3⟩ := hW.2.2.1 t ht
  have w1 := hW.1
  have w2 := hW.2.1
  unfold qW_learnThing
  refine zlp_inv (b := qW_learnThing_L2 (nI t) (nI s)) (I := fun i v => v.1 = nI i ∧ eT M v.2 ∧ (∀ q k, q < i → k < kk → lT1 v.2 A q s t k) ∧ (∀ q s' t' k, t' < 4 → s' < 2 → k < 3 → ¬ (s' = s ∧ t' = t) → v.2 71 (cPos q s' t' k) = M 71 (cPos q s' t' k) ∧ v.2 72 (cPos q s' t' k) = M 72 (cPos q s' t' k))) m (E := fun o => ∃ M', o = some M' ∧ eT M M' ∧ (∀ q k k', q < m → A 0 t = nI k' → k < k' → k' ≤ 3 → lT1 M' A q s t k) ∧ (∀ q s' t' k, t' < 4 → s' < 2 → k < 3 → ¬ (s' = s ∧ t' = t) → M' 71 (cPos q s' t' k) = M 71 (cPos q s' t' k) ∧ M' 72 (cPos q s' t' k) = M 72 (cPos q s' t' k))) (zfu_gt (by omega)) (fun i hi v hI => ?_) (fun v hI => ?_) (s := (0, M)) ⟨rfl, fun _ _ _ => rfl, fun q k h => by omega, fun _ _ _ _ _ _ _ _ => ⟨rfl, rfl⟩⟩
  · obtain ⟨v1, M2⟩ := v
    obtain ⟨e1, e2, e3, e4⟩ := hI
    dsimp only at e1 e2 e3 e4
    subst e1
    have hM2 := cT_eT e2 hM
    obtain ⟨h1, h2, h3, h4, h5, h6, h7, h8, h9, h10, h11, h12, h13, h14⟩ := id hM2
    have inner := zlp_fam (b := fun rc => qW_learnThing_L40 (nI t) (nI i) (nI s) M2 rc) (I := fun k v => v.1 = nI k ∧ eT M v.2 ∧ (∀ k', k' < k → lT1 v.2 A i s t k') ∧ (∀ q s' t' k', t' < 4 → s' < 2 → k' < 3 → ¬ (q = i ∧ s' = s ∧ t' = t) → v.2 71 (cPos q s' t' k') = M2 71 (cPos q s' t' k') ∧ v.2 72 (cPos q s' t' k') = M2 72 (cPos q s' t' k'))) kk (F := zfu) (zfu_gt (by omega)) (e := fun rc M3 => rc (nI (i + 1), M3)) (P := fun M3 => eT M M3 ∧ (∀ k', k' < kk → lT1 M3 A i s t k') ∧ (∀ q s' t' k', t' < 4 → s' < 2 → k' < 3 → ¬ (q = i ∧ s' = s ∧ t' = t) → M3 71 (cPos q s' t' k') = M2 71 (cPos q s' t' k') ∧ M3 72 (cPos q s' t' k') = M2 72 (cPos q s' t' k'))) (fun k hk v hI => ?_) (fun v hI => ?_) (s := (0, M2)) ⟨rfl, e2, fun k' h => by omega, fun _ _ _ _ _ _ _ _ => ⟨rfl, rfl⟩⟩
    · obtain ⟨M3, ⟨f1, f2, f3⟩, f4⟩ := inner
      refine ⟨(nI (i + 1), M3), ⟨rfl, f1, fun q k hq hk => ?_, fun q s' t' k h1 h2 h3 h4 => ?_⟩, fun rc => ?_⟩
      · by_cases hqi : q = i
        · subst hqi
          exact f2 k hk
        · have g1 := e3 q k (by omega) hk
          have g2 := f3 q s t k (by omega) hs (by omega) (fun h => hqi h.1)
          exact ⟨g2.1.trans g1.1, g2.2.trans g1.2⟩
      · have g2 := f3 q s' t' k h1 h2 h3 (fun h => h4 h.2)
        have g1 := e4 q s' t' k h1 h2 h3 h4
        exact ⟨g2.1.trans g1.1, g2.2.trans g1.2⟩
      · unfold qW_learnThing_L2
        simp (disch := omega) only [h2, zn_lt, if_pos hi, zq_in]
        exact f4 rc
    · obtain ⟨v1, M5⟩ := v
      obtain ⟨d1, d2, d3, d4⟩ := hI
      dsimp only at d1 d2 d3 d4
      subst d1
      have hM5 := cT_eT d2 hM
      obtain ⟨x, hx1, hx2⟩ := c_thought hM5 hW hi hs ht (A 1 (3 * t + k)) (A 8 i)
      have hM6 : ∀ x8, cT (zw M5 71 (cPos i s t k) x8) n m A := fun x8 => cT_eT (M := M5) (fun r h1 h2 => zA_ne h1) hM5
      have hpos : 3 * (4 * (2 * i + s) + t) + k = cPos i s t k := rfl
      refine ⟨(nI (k + 1), zw (zw M5 71 (cPos i s t k) (sGn A (A 8 i) i s t (sTk A i s t (A 1 (3 * t + k))))) 72 (cPos i s t k) (sWt A (A 8 i) i s t (A 1 (3 * t + k)))), ⟨rfl, fun r h1 h2 => ?_, fun k' hk' => ?_, fun q s' t' k' g1 g2 g3 g4 => ?_⟩, fun g rc => ?_⟩
      · show zA (zA M5 _ _) _ _ r = M r
        rw [zA_ne h2, zA_ne h1]
        exact d2 r h1 h2
      · unfold lT1
        by_cases hkk' : k' = k
        · subst hkk'
          constructor
          · show upd _ _ _ _ = _
            simp [upd]
          · show upd _ _ _ _ = _
            simp [upd]
        · have hne : cPos i s t k' ≠ cPos i s t k := fun h => hkk' (cPos_inj (by omega) (by omega) hs hs (by omega) (by omega) h).2.2.2
          have g := d3 k' (by omega)
          constructor
          · show upd _ _ _ _ = _
            simp only [upd, if_neg hne]
            exact g.1
          · show upd _ _ _ _ = _
            simp only [upd, if_neg hne]
            exact g.2
      · have hne : cPos q s' t' k' ≠ cPos i s t k := fun h => by
          have := cPos_inj g1 (by omega) g2 hs g3 (by omega) h
          exact g4 ⟨this.1, this.2.1, this.2.2.1⟩
        have g := d4 q s' t' k' g1 g2 g3 g4
        constructor
        · show upd _ _ _ _ = _
          simp only [upd, if_neg hne]
          exact g.1
        · show upd _ _ _ _ = _
          simp only [upd, if_neg hne]
          exact g.2
      · have hk0 : M5 64 t = nI kk := by rw [hM5.2.2.1]; exact hkk
        have hp0 : M5 65 (3 * t + k) = A 1 (3 * t + k) := by rw [hM5.2.2.2.1]
        have hway : M2 13 i = A 8 i := by rw [h11]
        unfold qW_learnThing_L40
        simp (disch := omega) only [zn_cl, zq_in, hk0, zn_lt, if_pos hk, zc_m3, zc_m2, zc_m4, nI_add, nI_1, hp0, hway, hx1, zb_s, hx2, hpos]
        have hlt : cPos i s t k < 120 := by unfold cPos; omega
        try simp (disch := omega) only [zn_cl, zq_in]
        rw [zb_ok (c_wantedAt (hM6 _) hW hi hs ht (A 1 (3 * t + k)) (A 8 i))]
    · obtain ⟨v1, M5⟩ := v
      obtain ⟨d1, d2, d3, d4⟩ := hI
      dsimp only at d1 d2 d3 d4
      subst d1
      have hM5 := cT_eT d2 hM
      have hk0 : M5 64 t = nI kk := by rw [hM5.2.2.1]; exact hkk
      refine ⟨M5, ⟨d2, d3, d4⟩, fun g rc => ?_⟩
      unfold qW_learnThing_L40
      simp (disch := omega) only [zn_cl, zq_in, hk0, zn_lt, Nat.lt_irrefl, if_false, nI_1]
  · obtain ⟨v1, M2⟩ := v
    obtain ⟨e1, e2, e3, e4⟩ := hI
    dsimp only at e1 e2 e3 e4
    subst e1
    have hM2 := cT_eT e2 hM
    refine ⟨some M2, ⟨M2, rfl, e2, fun q k k' hq hk' hk hk3 => ?_, e4⟩, fun rc => ?_⟩
    · rw [hkk] at hk'
      have : kk = k' := (nI_eq (by omega) (by omega)).mp hk'
      subst this
      exact e3 q k hq hk
    · unfold qW_learnThing_L2
      simp (disch := omega) only [hM2.2.1, zn_lt, Nat.lt_irrefl, if_false]
/-- learn: all the tables -/
theorem c_learn (hM : cT M n m A) (hW : sWF n m A) : ∃ M', qW_learn M = some M' ∧ eT M M' ∧ lT M' n m A := by
  have w1 := hW.1
  have w2 := hW.2.1
  unfold qW_learn
  refine zlp_inv (b := qW_learn_L2) (I := fun i v => v.1 = nI i ∧ eT M v.2 ∧ (∀ q s t k k', q < m → s < i → t < n → A 0 t = nI k' → k < k' → k' ≤ 3 → lT1 v.2 A q s t k)) 2 (E := fun o => ∃ M', o = some M' ∧ eT M M' ∧ lT M' n m A) (zfu_gt (by omega)) (fun i hi v hI => ?_) (fun v hI => ?_) (s := (0, M)) ⟨rfl, fun _ _ _ => rfl, fun q s t k k' h1 h2 => by omega⟩
  · obtain ⟨v1, M2⟩ := v
    obtain ⟨e1, e2, e3⟩ := hI
    dsimp only at e1 e2 e3
    subst e1
    have inner := zlp_fam (b := fun rc => qW_learn_L9 (nI i) rc) (I := fun j v => v.1 = nI j ∧ eT M v.2 ∧ (∀ q s t k k', q < m → s < i → t < n → A 0 t = nI k' → k < k' → k' ≤ 3 → lT1 v.2 A q s t k) ∧ (∀ q t k k', q < m → t < j → A 0 t = nI k' → k < k' → k' ≤ 3 → lT1 v.2 A q i t k)) n (F := zfu) (zfu_gt (by omega)) (e := fun rc M3 => rc (nI (i + 1), M3)) (P := fun M3 => eT M M3 ∧ (∀ q s t k k', q < m → s < i + 1 → t < n → A 0 t = nI k' → k < k' → k' ≤ 3 → lT1 M3 A q s t k)) (fun j hj v hI => ?_) (fun v hI => ?_) (s := (0, M2)) ⟨rfl, e2, e3, fun q t k k' h1 h2 => by omega⟩
    · obtain ⟨M3, ⟨f1, f2⟩, f4⟩ := inner
      refine ⟨(nI (i + 1), M3), ⟨rfl, f1, f2⟩, fun rc => ?_⟩
      unfold qW_learn_L2
      simp (disch := omega) only [zn_lt2, if_pos hi]
      exact f4 rc
    · obtain ⟨v1, M5⟩ := v
      obtain ⟨d1, d2, d3, d4⟩ := hI
      dsimp only at d1 d2 d3 d4
      subst d1
      have hM5 := cT_eT d2 hM
      obtain ⟨M6, g1, g2, g3, g4⟩ := c_learnThing (s := i) (t := j) hM5 hW hi hj
      refine ⟨(nI (j + 1), M6), ⟨rfl, fun r a b => (g2 r a b).trans (d2 r a b), fun q s t k k' a1 a2 a3 a4 a5 a6 => ?_, fun q t k k' a1 a2 a4 a5 a6 => ?_⟩, fun g rc => ?_⟩
      · have z := g4 q s t k (by omega) (by omega) (by omega) (fun h => by omega)
        have y := d3 q s t k k' a1 a2 a3 a4 a5 a6
        exact ⟨z.1.trans y.1, z.2.trans y.2⟩
      · by_cases htj : t = j
        · subst htj
          exact g3 q k k' a1 a4 a5 a6
        · have z := g4 q i t k (by omega) (by omega) (by omega) (fun h => htj h.2)
          have y := d4 q t k k' a1 (by omega) a4 a5 a6
          exact ⟨z.1.trans y.1, z.2.trans y.2⟩
      · unfold qW_learn_L9
        simp (disch := omega) only [hM5.1, zn_lt, if_pos hj, nI_1]
        rw [zb_ok g1]
    · obtain ⟨v1, M5⟩ := v
      obtain ⟨d1, d2, d3, d4⟩ := hI
      dsimp only at d1 d2 d3 d4
      subst d1
      have hM5 := cT_eT d2 hM
      refine ⟨M5, ⟨d2, fun q s t k k' a1 a2 a3 a4 a5 a6 => ?_⟩, fun g rc => ?_⟩
      · by_cases hsi : s = i
        · subst hsi
          exact d4 q t k k' a1 a3 a4 a5 a6
        · exact d3 q s t k k' a1 (by omega) a3 a4 a5 a6
      · unfold qW_learn_L9
        simp (disch := omega) only [hM5.1, zn_lt, Nat.lt_irrefl, if_false, nI_1]
  · obtain ⟨v1, M2⟩ := v
    obtain ⟨e1, e2, e3⟩ := hI
    dsimp only at e1 e2 e3
    subst e1
    refine ⟨some M2, ⟨M2, rfl, e2, e3⟩, fun rc => ?_⟩
    unfold qW_learn_L2
    simp (disch := omega) only [zn_lt2, Nat.lt_irrefl, if_false]
end ZClass1
