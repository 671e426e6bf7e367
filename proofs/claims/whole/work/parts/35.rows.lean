section ZRowsP
/-! rows of prices: k steps of each thing -/
def sK (A : zM) (t : Nat) : Nat := (A 0 t).toNatClampNeg
def sRc (k : Nat → Nat) : Nat → Nat
  | 0 => 1
  | t + 1 => sRc k t * k t
def sRw (k d : Nat → Nat) : Nat → Nat
  | 0 => 0
  | t + 1 => sRw k d t * k t + d t
/-- the step of thing t in row r of n things -/
def sDg (k : Nat → Nat) : Nat → Nat → Nat → Nat
  | 0, _, _ => 0
  | n + 1, r, t => if t = n then r % k n else sDg k n (r / k n) t
theorem sDg_lt {k : Nat → Nat} : ∀ {n r t : Nat}, t < n → (∀ t, t < n → 1 ≤ k t) → sDg k n r t < k t
  | 0, _, _, h, _ => by omega
  | n + 1, r, t, h, hk => by
    unfold sDg
    split
    · rename_i e
      subst e
      exact Nat.mod_lt _ (hk t (by omega))
    · exact sDg_lt (by omega) (fun t ht => hk t (by omega))
theorem sRw_congr {k d d' : Nat → Nat} : ∀ {n : Nat}, (∀ t, t < n → d t = d' t) → sRw k d n = sRw k d' n
  | 0, _ => rfl
  | n + 1, h => by
    show sRw k d n * k n + d n = sRw k d' n * k n + d' n
    rw [sRw_congr (n := n) (fun t ht => h t (by omega)), h n (by omega)]
/-- the row of a row's steps is the row -/
theorem sRw_Dg {k : Nat → Nat} : ∀ {n r : Nat}, (∀ t, t < n → 1 ≤ k t) → r < sRc k n → sRw k (sDg k n r) n = r
  | 0, r, _, h => by
    have : r < 1 := h
    show 0 = r
    omega
  | n + 1, r, hk, h => by
    have hr : r < sRc k n * k n := h
    have h1 : r / k n < sRc k n := Nat.div_lt_of_lt_mul (by rw [Nat.mul_comm]; exact hr)
    have e1 : sRw k (sDg k (n + 1) r) n = sRw k (sDg k n (r / k n)) n := by
      apply sRw_congr
      intro t ht
      show (if t = n then _ else _) = _
      rw [if_neg (by omega)]
    show sRw k (sDg k (n + 1) r) n * k n + sDg k (n + 1) r n = r
    rw [e1, sRw_Dg (fun t ht => hk t (by omega)) h1]
    show r / k n * k n + (if n = n then r % k n else _) = r
    rw [if_pos rfl, Nat.mul_comm]
    exact Nat.div_add_mod r (k n)
/-- the steps of a row's number are the steps -/
theorem sDg_Rw {k d : Nat → Nat} : ∀ {n : Nat}, (∀ t, t < n → d t < k t) → ∀ t, t < n → sDg k n (sRw k d n) t = d t
  | 0, _, t, h => by omega
  | n + 1, hd, t, h => by
    have hn := hd n (by omega)
    show (if t = n then (sRw k d n * k n + d n) % k n else sDg k n ((sRw k d n * k n + d n) / k n) t) = d t
    by_cases e : t = n
    · subst e
      rw [if_pos rfl, Nat.add_comm, Nat.add_mul_mod_self_right]
      exact Nat.mod_eq_of_lt hn
    · rw [if_neg e]
      have e2 : (sRw k d n * k n + d n) / k n = sRw k d n := by
        rw [Nat.add_comm, Nat.add_mul_div_right _ _ (by omega), Nat.div_eq_of_lt hn, Nat.zero_add]
      rw [e2]
      exact sDg_Rw (fun t ht => hd t (by omega)) t (by omega)
theorem sRw_lt {k d : Nat → Nat} : ∀ {n : Nat}, (∀ t, t < n → d t < k t) → sRw k d n < sRc k n
  | 0, _ => by show 0 < 1; omega
  | n + 1, hd => by
    have h1 := sRw_lt (n := n) (fun t ht => hd t (by omega))
    have h2 := hd n (by omega)
    show sRw k d n * k n + d n < sRc k n * k n
    calc sRw k d n * k n + d n < sRw k d n * k n + k n := by omega
      _ = (sRw k d n + 1) * k n := by rw [Nat.add_mul, Nat.one_mul]
      _ ≤ sRc k n * k n := Nat.mul_le_mul h1 (Nat.le_refl _)
theorem sRc_pos {k : Nat → Nat} : ∀ {n : Nat}, (∀ t, t < n → 1 ≤ k t) → 1 ≤ sRc k n
  | 0, _ => Nat.le_refl 1
  | n + 1, hk => Nat.mul_pos (sRc_pos (fun t ht => hk t (by omega))) (hk n (by omega))
theorem sRc_le {k : Nat → Nat} : ∀ {n : Nat}, (∀ t, t < n → k t ≤ 3) → sRc k n ≤ 3 ^ n
  | 0, _ => Nat.le_refl 1
  | n + 1, hk => by
    show sRc k n * k n ≤ 3 ^ n * 3
    exact Nat.mul_le_mul (sRc_le (fun t ht => hk t (by omega))) (hk n (by omega))
theorem sRc_81 {k : Nat → Nat} {n : Nat} (hn : n ≤ 4) (hk : ∀ t, t < n → k t ≤ 3) : sRc k n ≤ 81 := by
  refine Nat.le_trans (sRc_le hk) ?_
  rcases (show n = 0 ∨ n = 1 ∨ n = 2 ∨ n = 3 ∨ n = 4 by omega) with rfl | rfl | rfl | rfl | rfl <;> decide
/-- the row of steps of one shop -/
def sAt (A : zM) (s t : Nat) : Nat := (A 4 (4 * s + t)).toNatClampNeg
def sLay (A : zM) (n s r : Nat) : Nat → Int32 := fun j => if 4 * s ≤ j ∧ j < 4 * s + n then nI (sDg (sK A) n r (j - 4 * s)) else A 4 j
variable {M : zM} {n m : Nat} {A : zM} {q s t : Nat}
theorem wf_K (hW : sWF n m A) (ht : t < n) : A 0 t = nI (sK A t) ∧ 1 ≤ sK A t ∧ sK A t ≤ 3 := by
  obtain ⟨k, h1, h2, h3⟩ := hW.2.2.1 t ht
  have : sK A t = k := by unfold sK; rw [h1, zn_cl (by omega)]
  rw [this]
  exact ⟨h1, h2, h3⟩
theorem wf_A (hW : sWF n m A) (hs : s < 2) (ht : t < n) : A 4 (4 * s + t) = nI (sAt A s t) ∧ sAt A s t < sK A t := by
  obtain ⟨a, k, h1, h2, h3, h4⟩ := hW.2.2.2.1 s t hs ht
  have e1 : sAt A s t = a := by unfold sAt; rw [h1, zn_cl (by omega)]
  have e2 : sK A t = k := by unfold sK; rw [h2, zn_cl (by omega)]
  rw [e1, e2]
  exact ⟨h1, h3⟩
theorem wf_lay (hW : sWF n m A) (r : Nat) (hs : s < 2) : sWF n m (zA A 4 (sLay A n s r)) := by
  have hK : ∀ t, t < n → 1 ≤ sK A t := fun t ht => (wf_K hW ht).2.1
  refine ⟨hW.1, hW.2.1, hW.2.2.1, fun s' t hs' ht => ?_, hW.2.2.2.2.1, hW.2.2.2.2.2⟩
  have w1 := hW.1
  obtain ⟨k1, k2, k3⟩ := wf_K hW ht
  by_cases e : s' = s
  · subst e
    refine ⟨sDg (sK A) n r t, sK A t, ?_, k1, sDg_lt ht hK, k3⟩
    show sLay A n s' r (4 * s' + t) = _
    unfold sLay
    rw [if_pos (by omega), show 4 * s' + t - 4 * s' = t by omega]
  · obtain ⟨a, k, h1, h2, h3, h4⟩ := hW.2.2.2.1 s' t hs' ht
    refine ⟨a, k, ?_, h2, h3, h4⟩
    show sLay A n s r (4 * s' + t) = _
    unfold sLay
    rw [if_neg (by omega)]
    exact h1
theorem sLay_lay (r r' : Nat) : sLay (zA A 4 (sLay A n s r)) n s r' = sLay A n s r' := by
  funext j
  unfold sLay
  by_cases h : 4 * s ≤ j ∧ j < 4 * s + n
  · rw [if_pos h, if_pos h]; rfl
  · rw [if_neg h, if_neg h]
    show (if _ then _ else _) = _
    rw [if_neg h]
theorem zA_zA (A : zM) (r : Nat) (f g : Nat → Int32) : zA (zA A r f) r g = zA A r g := by
  funext x
  unfold zA
  split <;> rfl
theorem zA_id {A : zM} {r : Nat} {f : Nat → Int32} (h : f = A r) : zA A r f = A := by
  funext x
  unfold zA
  split
  · rename_i e; rw [h, e]
  · rfl
/-- laying the row that is changes nothing -/
theorem sLay_id (hW : sWF n m A) (hs : s < 2) : sLay A n s (sRw (sK A) (sAt A s) n) = A 4 := by
  funext j
  unfold sLay
  by_cases h : 4 * s ≤ j ∧ j < 4 * s + n
  · rw [if_pos h, sDg_Rw (fun t ht => (wf_A hW hs ht).2) (j - 4 * s) (by omega)]
    have := (wf_A hW hs (t := j - 4 * s) (by omega)).1
    rw [← this]
    congr 1
    omega
  · rw [if_neg h]
theorem m_rowOf (hM : mT M n m A) (hW : sWF n m A) (hs : s < 2) : qM_rowOf M (nI s) = some (nI (sRw (sK A) (sAt A s) n)) := by
  have h1 := hM.1
  have h3 : M 92 = A 0 := hM.2.2.1
  have h7 : M 89 = A 4 := hM.2.2.2.2.2.2.1
  have w1 := hW.1
  unfold qM_rowOf
  refine zlp_run (b := qM_rowOf_L4 M (nI s)) (s := fun i => (nI (sRw (sK A) (sAt A s) i), nI i)) n (zfu_gt (by omega)) (fun i hi rc => ?_) (fun rc => ?_)
  · unfold qM_rowOf_L4
    simp (disch := omega) only [h1, zn_lt, if_pos hi, zn_4m, nI_add, nI_1, zn_cl, zq_in, h3, h7, (wf_K hW hi).1, (wf_A hW hs hi).1, pk_mul]
    rfl
  · unfold qM_rowOf_L4
    simp (disch := omega) only [h1, zn_lt, Nat.lt_irrefl, if_false]
theorem m_rows (hM : mT M n m A) (hW : sWF n m A) : qM_rows M = some (nI (sRc (sK A) n)) := by
  have h1 := hM.1
  have h3 : M 92 = A 0 := hM.2.2.1
  have w1 := hW.1
  unfold qM_rows
  refine zlp_run (b := qM_rows_L4 M) (s := fun i => (nI (sRc (sK A) i), nI i)) n (zfu_gt (by omega)) (fun i hi rc => ?_) (fun rc => ?_)
  · unfold qM_rows_L4
    simp (disch := omega) only [h1, zn_lt, if_pos hi, nI_1, zn_cl, zq_in, h3, (wf_K hW hi).1, pk_mul]
    rfl
  · unfold qM_rows_L4
    simp (disch := omega) only [h1, zn_lt, Nat.lt_irrefl, if_false]
theorem c_rowOf (hM : cT M n m A) (hW : sWF n m A) (hs : s < 2) : qG_rowOf_63 M (nI s) = some (nI (sRw (sK A) (sAt A s) n)) := by
  have h1 := hM.1
  have h3 : M 64 = A 0 := hM.2.2.1
  have h7 : M 68 = A 4 := hM.2.2.2.2.2.2.1
  have w1 := hW.1
  unfold qG_rowOf_63
  refine zlp_run (b := qG_rowOf_63_L4 M (nI s)) (s := fun i => (nI (sRw (sK A) (sAt A s) i), nI i)) n (zfu_gt (by omega)) (fun i hi rc => ?_) (fun rc => ?_)
  · unfold qG_rowOf_63_L4
    simp (disch := omega) only [h1, zn_lt, if_pos hi, zc_m4, nI_add, nI_1, zn_cl, zq_in, h3, h7, (wf_K hW hi).1, (wf_A hW hs hi).1, pk_mul]
    rfl
  · unfold qG_rowOf_63_L4
    simp (disch := omega) only [h1, zn_lt, Nat.lt_irrefl, if_false]
theorem c_rowCount (hM : cT M n m A) (hW : sWF n m A) : qG_rowCount_63 M = some (nI (sRc (sK A) n)) := by
  have h1 := hM.1
  have h3 : M 64 = A 0 := hM.2.2.1
  have w1 := hW.1
  unfold qG_rowCount_63
  refine zlp_run (b := qG_rowCount_63_L4 M) (s := fun i => (nI (sRc (sK A) i), nI i)) n (zfu_gt (by omega)) (fun i hi rc => ?_) (fun rc => ?_)
  · unfold qG_rowCount_63_L4
    simp (disch := omega) only [h1, zn_lt, if_pos hi, nI_1, zn_cl, zq_in, h3, (wf_K hW hi).1, pk_mul]
    rfl
  · unfold qG_rowCount_63_L4
    simp (disch := omega) only [h1, zn_lt, Nat.lt_irrefl, if_false]
theorem zn_rm {a d : Nat} (ha : a < 2147483648) (h0 : 0 < d) (hd : d < 2147483648) : nI a - nI (a / d) * nI d = nI (a % d) := by
  rw [← pk_div ha h0 hd]
  exact pk_rem ha h0 hd
theorem zn_m1 (x : Int32) : x + -1 = x - 1 := (Int32.sub_eq_add_neg x 1).symm
/-- the row is laid -/
theorem m_lay (hM : mT M n m A) (hW : sWF n m A) (hs : s < 2) (r : Nat) (hr : r < 2147483648) : ∃ M', qM_lay M (nI s) (nI r) = some M' ∧ (∀ c, c ≠ 89 → M' c = M c) ∧ M' 89 = sLay A n s r := by
  have h1 := hM.1
  have h3 : M 92 = A 0 := hM.2.2.1
  have h7 : M 89 = A 4 := hM.2.2.2.2.2.2.1
  have w1 := hW.1
  have hK : ∀ t, t < n → 1 ≤ sK A t := fun t ht => (wf_K hW ht).2.1
  unfold qM_lay
  rw [h1]
  refine zlp_inv (b := qM_lay_L10 (nI s)) (I := fun i v => ∃ r', v.1 = nI r' ∧ r' < 2147483648 ∧ v.2.1 = nI (n - i) - 1 ∧ (∀ c, c ≠ 89 → v.2.2 c = M c) ∧ (∀ t, t < n - i → sDg (sK A) n r t = sDg (sK A) (n - i) r' t) ∧ (∀ j, v.2.2 89 j = if 4 * s + (n - i) ≤ j ∧ j < 4 * s + n then nI (sDg (sK A) n r (j - 4 * s)) else A 4 j)) n (E := fun o => ∃ M', o = some M' ∧ (∀ c, c ≠ 89 → M' c = M c) ∧ M' 89 = sLay A n s r) (zfu_gt (by omega)) (fun i hi v hI => ?_) (fun v hI => ?_) (s := (nI r, nI n - 1, M)) ⟨r, rfl, hr, by rw [Nat.sub_zero], fun _ _ => rfl, fun t ht => by rw [Nat.sub_zero], fun j => by rw [if_neg (by omega)]; exact congrFun h7 j⟩
  · obtain ⟨v1, v2, M3⟩ := v
    obtain ⟨r', e1, e2, e3, e4, e5, e6⟩ := hI
    dsimp only at e1 e3 e4 e6
    obtain ⟨j, hj⟩ : ∃ j, n - i = j + 1 := ⟨n - i - 1, by omega⟩
    have hji : n - (i + 1) = j := by omega
    rw [hj] at e3 e5 e6
    rw [nI_pred] at e3
    subst e1 e3
    have hjn : j < n := by omega
    obtain ⟨k1, k2, k3⟩ := wf_K hW hjn
    have hk : M3 92 j = nI (sK A j) := by rw [e4 92 (by decide), h3]; exact k1
    refine ⟨(nI (r' / sK A j), nI j - 1, zw M3 89 (4 * s + j) (nI (r' % sK A j))), ⟨r' / sK A j, rfl, Nat.lt_of_le_of_lt (Nat.div_le_self _ _) e2, by rw [hji], fun c hc => by show zw _ _ _ _ c = _; rw [zw_ne hc]; exact e4 c hc, fun t ht => ?_, fun x => ?_⟩, fun rc => ?_⟩
    · rw [hji] at ht ⊢
      rw [e5 t (by omega)]
      show (if t = j then _ else _) = _
      rw [if_neg (by omega)]
    · rw [hji]
      show zw M3 89 (4 * s + j) _ 89 x = _
      by_cases hx : x = 4 * s + j
      · subst hx
        rw [zw_same, if_pos (by omega), show 4 * s + j - 4 * s = j by omega, e5 j (by omega)]
        show _ = nI (if j = j then _ else _)
        rw [if_pos rfl]
      · rw [zw_other hx, e6 x]
        by_cases hin : 4 * s + (j + 1) ≤ x ∧ x < 4 * s + n
        · rw [if_pos hin, if_pos (by omega)]
        · rw [if_neg hin, if_neg (by omega)]
    · unfold qM_lay_L10
      simp (disch := omega) only [zn_ge0, if_false, zn_cl, zq_in, hk, zq_ne, zn_4m, nI_add, pk_div, zn_rm, zn_m1]
  · obtain ⟨v1, v2, M3⟩ := v
    obtain ⟨r', e1, e2, e3, e4, e5, e6⟩ := hI
    dsimp only at e1 e3 e4 e6
    rw [Nat.sub_self] at e3
    subst e1 e3
    refine ⟨some M3, ⟨M3, rfl, e4, ?_⟩, fun rc => ?_⟩
    · funext j
      rw [e6 j, Nat.sub_self, Nat.add_zero]
      rfl
    · unfold qM_lay_L10
      dsimp only
      exact if_pos (by decide)
theorem zmax0 {r : Nat} (hr : r < 2147483648) : (if (0 : Int32) < nI r then nI r else 0) = nI r := by
  by_cases h : (0 : Int32) < nI r
  · exact if_pos h
  · rw [if_neg h]
    have : ¬ 0 < r := fun q => h (by rw [show (0 : Int32) = nI 0 from rfl, zn_lt (by omega) hr]; exact q)
    have : r = 0 := by omega
    rw [this]; rfl
theorem zmax1 {k : Nat} (h1 : 1 ≤ k) (hk : k < 2147483648) : (if (1 : Int32) < nI k then nI k else 1) = nI k := by
  by_cases h : (1 : Int32) < nI k
  · exact if_pos h
  · rw [if_neg h]
    have : ¬ 1 < k := fun q => h (by rw [show (1 : Int32) = nI 1 from rfl, zn_lt (by omega) hk]; exact q)
    have : k = 1 := by omega
    rw [this]; rfl
theorem c_putRow (hM : cT M n m A) (hW : sWF n m A) (hs : s < 2) (r : Nat) (hr : r < 2147483648) : ∃ M', qG_putRow M (nI s) (nI r) = some M' ∧ (∀ c, c ≠ 68 → M' c = M c) ∧ M' 68 = sLay A n s r := by
  have h1 := hM.1
  have h3 : M 64 = A 0 := hM.2.2.1
  have h7 : M 68 = A 4 := hM.2.2.2.2.2.2.1
  have w1 := hW.1
  have hK : ∀ t, t < n → 1 ≤ sK A t := fun t ht => (wf_K hW ht).2.1
  unfold qG_putRow
  rw [h1, zmax0 hr]
  refine zlp_inv (b := qG_putRow_L14 (nI s)) (I := fun i v => ∃ r', v.1 = nI r' ∧ r' < 2147483648 ∧ v.2.1 = nI (n - i) - 1 ∧ (∀ c, c ≠ 68 → v.2.2 c = M c) ∧ (∀ t, t < n - i → sDg (sK A) n r t = sDg (sK A) (n - i) r' t) ∧ (∀ j, v.2.2 68 j = if 4 * s + (n - i) ≤ j ∧ j < 4 * s + n then nI (sDg (sK A) n r (j - 4 * s)) else A 4 j)) n (E := fun o => ∃ M', o = some M' ∧ (∀ c, c ≠ 68 → M' c = M c) ∧ M' 68 = sLay A n s r) (zfu_gt (by omega)) (fun i hi v hI => ?_) (fun v hI => ?_) (s := (nI r, nI n - 1, M)) ⟨r, rfl, hr, by rw [Nat.sub_zero], fun _ _ => rfl, fun t ht => by rw [Nat.sub_zero], fun j => by rw [if_neg (by omega)]; exact congrFun h7 j⟩
  · obtain ⟨v1, v2, M3⟩ := v
    obtain ⟨r', e1, e2, e3, e4, e5, e6⟩ := hI
    dsimp only at e1 e3 e4 e6
    obtain ⟨j, hj⟩ : ∃ j, n - i = j + 1 := ⟨n - i - 1, by omega⟩
    have hji : n - (i + 1) = j := by omega
    rw [hj] at e3 e5 e6
    rw [nI_pred] at e3
    subst e1 e3
    have hjn : j < n := by omega
    obtain ⟨k1, k2, k3⟩ := wf_K hW hjn
    have hk : M3 64 j = nI (sK A j) := by rw [e4 64 (by decide), h3]; exact k1
    refine ⟨(nI (r' / sK A j), nI j - 1, zw M3 68 (4 * s + j) (nI (r' % sK A j))), ⟨r' / sK A j, rfl, Nat.lt_of_le_of_lt (Nat.div_le_self _ _) e2, by rw [hji], fun c hc => by show zw _ _ _ _ c = _; rw [zw_ne hc]; exact e4 c hc, fun t ht => ?_, fun x => ?_⟩, fun rc => ?_⟩
    · rw [hji] at ht ⊢
      rw [e5 t (by omega)]
      show (if t = j then _ else _) = _
      rw [if_neg (by omega)]
    · rw [hji]
      show zw M3 68 (4 * s + j) _  68 x = _
      by_cases hx : x = 4 * s + j
      · subst hx
        rw [zw_same, if_pos (by omega), show 4 * s + j - 4 * s = j by omega, e5 j (by omega)]
        show _ = nI (if j = j then _ else _)
        rw [if_pos rfl]
      · rw [zw_other hx, e6 x]
        by_cases hin : 4 * s + (j + 1) ≤ x ∧ x < 4 * s + n
        · rw [if_pos hin, if_pos (by omega)]
        · rw [if_neg hin, if_neg (by omega)]
    · unfold qG_putRow_L14
      simp (disch := omega) only [zn_ge0, if_false, zn_cl, zq_in, hk, zmax1, zq_ne, zc_m4, nI_add, pk_div, zn_rm, zn_m1]
  · obtain ⟨v1, v2, M3⟩ := v
    obtain ⟨r', e1, e2, e3, e4, e5, e6⟩ := hI
    dsimp only at e1 e3 e4 e6
    rw [Nat.sub_self] at e3
    subst e1 e3
    refine ⟨some M3, ⟨M3, rfl, e4, ?_⟩, fun rc => ?_⟩
    · funext j
      rw [e6 j, Nat.sub_self, Nat.add_zero]
      rfl
    · unfold qG_putRow_L14
      dsimp only
      exact if_pos (by decide)
end ZRowsP
