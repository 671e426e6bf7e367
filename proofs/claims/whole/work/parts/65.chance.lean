section ZChance
variable {M : zM} {n m k : Nat} {law : Int32} {A A' : zM} {q s t : Nat}
/-! in how many ways: as the one counts and as the other does -/
def nA (n : Nat) : Nat → Nat
  | 0 => 1
  | i + 1 => nA n i * (n - i) / (i + 1)
def nB (n k : Nat) : Nat → Nat
  | 0 => 1
  | i + 1 => nB n k i * (n - k + (i + 1)) / (i + 1)
theorem nA_s (n i : Nat) : nA n (i + 1) = nA n i * (n - i) / (i + 1) := rfl
theorem nB_s (n k i : Nat) : nB n k (i + 1) = nB n k i * (n - k + (i + 1)) / (i + 1) := rfl
theorem nAB : ∀ n, n < 31 → ∀ k, k < n + 1 → nB n k k = nA n k ∧ 1 ≤ nA n k ∧ nA n k < 268435456 ∧ ∀ i, i < k + 1 → nB n k i < 268435456 := by decide +kernel
def cW (n k : Nat) : Nat := if n < k then 0 else nA n k
theorem cW_lt {n k : Nat} (hn : n ≤ 30) : cW n k < 268435456 := by
  unfold cW
  by_cases c : n < k
  · rw [if_pos c]; omega
  · rw [if_neg c]; exact (nAB n (by omega) k (by omega)).2.2.1
theorem lN_0 : (0 : Int64) = lN 0 := rfl
theorem lN_ne {b : Nat} (h : 0 < b) (hb : b < 2 ^ 63) : ¬ lN b = 0 := fun e => by
  rw [lN_0, pk_lEQ hb (by decide)] at e
  omega
theorem c_choose {n k : Nat} (hn : n ≤ 30) (hk : k ≤ 30) : qT_choose (nI n) (nI k) = some (lN (cW n k)) := by
  unfold qT_choose cW
  rw [if_neg (nI_nn k (by omega))]
  by_cases c : n < k
  · rw [if_pos (nI_lt c (by omega)), if_pos c]; rfl
  · rw [if_neg (nI_nlt (by omega) (by omega)), if_neg c]
    refine zlp_run (b := qT_choose_L16 (nI k) (nI n)) (s := fun i => (lN (nA n i), nI i)) k (zfu_gt (by omega)) (fun i hi rc => ?_) (fun rc => ?_)
    · have hb := (nAB n (by omega) i (by omega)).2.2.1
      have e1 : (nI n - nI i).toInt64 = lN (n - i) := by rw [pk_sub (by omega), nI_l (by omega)]
      have e2 : (nI (i + 1)).toInt64 = lN (i + 1) := nI_l (by omega)
      have hprod : nA n i * (n - i) < 2 ^ 63 := Nat.lt_of_lt_of_le (Nat.mul_lt_mul'' hb (show n - i < 31 by omega)) (by decide)
      unfold qT_choose_L16
      simp (disch := omega) only [zn_lt, if_pos hi, nI_1]
      rw [e1, e2, zq_pos (lN_ne (by omega) (by omega)), lN_mul, pk_lDiv hprod (by omega) (by omega)]
      rfl
    · unfold qT_choose_L16
      simp (disch := omega) only [zn_lt, Nat.lt_irrefl, if_false]
theorem m_choose {n k : Nat} (hn : n ≤ 30) (hk : k ≤ 30) : qM_choose (nI n) (nI k) = some (lN (cW n k)) := by
  unfold qM_choose cW
  rw [if_neg (nI_nn k (by omega))]
  by_cases c : n < k
  · rw [if_pos (nI_lt c (by omega)), if_pos c]; rfl
  · rw [if_neg (nI_nlt (by omega) (by omega)), if_neg c]
    obtain ⟨q1, q2, q3, q4⟩ := nAB n (by omega) k (by omega)
    rw [← q1]
    refine zlp_run (b := qM_choose_L16 (nI k) (nI n)) (s := fun i => (lN (nB n k i), nI (i + 1))) k (zfu_gt (by omega)) (fun i hi rc => ?_) (fun rc => ?_)
    · have hb := q4 i (by omega)
      have e1 : (nI n - nI k + nI (i + 1)).toInt64 = lN (n - k + (i + 1)) := by rw [pk_sub (by omega), nI_add, nI_l (by omega)]
      have e2 : (nI (i + 1)).toInt64 = lN (i + 1) := nI_l (by omega)
      have hprod : nB n k i * (n - k + (i + 1)) < 2 ^ 63 := Nat.lt_of_lt_of_le (Nat.mul_lt_mul'' hb (show n - k + (i + 1) < 62 by omega)) (by decide)
      unfold qM_choose_L16
      dsimp only
      rw [if_neg (show ¬ nI k < nI (i + 1) from nI_nlt (by omega) (by omega)), e1, e2, zq_pos (lN_ne (by omega) (by omega)), lN_mul, pk_lDiv hprod (by omega) (by omega), nI_1]
      rfl
    · unfold qM_choose_L16
      dsimp only
      rw [if_pos (show nI k < nI (k + 1) from nI_lt (by omega) (by omega))]
/-! Euclid -/
theorem half_mod {x r : Nat} (hr : 0 < r) (h : r < x) : 2 * (x % r) < x := by
  by_cases c : 2 * r ≤ x
  · have := Nat.mod_lt x hr
    omega
  · have e : x % r = x - r := by
      rw [Nat.mod_eq_sub_mod (by omega), Nat.mod_eq_of_lt (by omega)]
    omega
theorem lcmp0 {b : Nat} (hb : b < 2 ^ 63) : (lg_cmp (lN b) 0 = 0) ↔ b = 0 := by
  unfold lg_cmp
  have e1 : ¬ lN b < 0 := by
    rw [lN_0, pk_lLT hb (by decide)]
    omega
  have e2 : ((0 : Int64) < lN b) ↔ 0 < b := by rw [lN_0, pk_lLT (by decide) hb]
  by_cases c : b = 0
  · subst c
    exact ⟨fun _ => rfl, fun _ => by decide⟩
  · constructor
    · intro h
      exfalso
      have h0 : (0 : Int64) < lN b := e2.mpr (by omega)
      simp [h0, e1] at h
    · intro h
      exact absurd h c
theorem c_gcd : ∀ (j x y i F : Nat), y < 2 ^ j → x < 2 ^ 63 → y < 2 ^ 63 → i + 2 * j ≤ 100 → 2 * j < F → zlp qT_commonDivisor_L9 F (lN x, lN y, nI i) = some (lN (Nat.gcd x y))
  | 0, x, y, i, F, hy, hx, hy2, hi, hF => by
    have : y = 0 := by omega
    subst this
    obtain ⟨F, rfl⟩ : ∃ F', F = F' + 1 := ⟨F - 1, by omega⟩
    rw [zlp_s]
    unfold qT_commonDivisor_L9
    dsimp only
    rw [if_pos ((lcmp0 (by omega)).mpr rfl), Nat.gcd_zero_right]
    split <;> rfl
  | j + 1, x, y, i, F, hy, hx, hy2, hi, hF => by
    obtain ⟨F, rfl⟩ : ∃ F', F = F' + 1 + 1 := ⟨F - 2, by omega⟩
    have n1 : nI i < 100 := nI_lt (b := 100) (by omega) (by omega)
    by_cases c : y = 0
    · subst c
      rw [zlp_s]
      unfold qT_commonDivisor_L9
      dsimp only
      rw [if_pos n1, if_pos ((lcmp0 (by omega)).mpr rfl), Nat.gcd_zero_right]
    · have s1 : ∀ rc, qT_commonDivisor_L9 rc (lN x, lN y, nI i) = rc (lN y, lN (x % y), nI (i + 1)) := fun rc => by
        unfold qT_commonDivisor_L9
        dsimp only
        rw [if_pos n1, if_neg (fun h => c ((lcmp0 hy2).mp h)), zq_pos (lN_ne (by omega) hy2), pk_lRem hx (by omega) hy2, nI_1]
      have hr := Nat.mod_lt x (show y > 0 by omega)
      rw [zlp_s, s1, Nat.gcd_comm x y, Nat.gcd_rec y x, Nat.gcd_comm (x % y) y]
      have n2 : nI (i + 1) < 100 := nI_lt (b := 100) (by omega) (by omega)
      by_cases c2 : x % y = 0
      · rw [c2, zlp_s, Nat.gcd_zero_right]
        unfold qT_commonDivisor_L9
        dsimp only
        rw [if_pos n2, if_pos ((lcmp0 (by omega)).mpr rfl)]
      · have s2 : ∀ rc, qT_commonDivisor_L9 rc (lN y, lN (x % y), nI (i + 1)) = rc (lN (x % y), lN (y % (x % y)), nI (i + 1 + 1)) := fun rc => by
          unfold qT_commonDivisor_L9
          dsimp only
          rw [if_pos n2, if_neg (fun h => c2 ((lcmp0 (by omega)).mp h)), zq_pos (lN_ne (by omega) (by omega)), pk_lRem hy2 (by omega) (by omega), nI_1]
        have hh := half_mod (x := y) (r := x % y) (by omega) hr
        have hp : 2 ^ (j + 1) = 2 * 2 ^ j := by rw [Nat.pow_succ, Nat.mul_comm]
        rw [zlp_s, s2, c_gcd j (x % y) (y % (x % y)) (i + 1 + 1) F (by omega) (by omega) (by omega) (by omega) (by omega), Nat.gcd_comm y (x % y), Nat.gcd_rec (x % y) y, Nat.gcd_comm (y % (x % y)) (x % y)]
theorem m_gcd {f g : Nat} {part : Int32} (e : Nat → Option Int64) (he : ∀ x, e x = if part = 0 then zq (¬ lN x = 0) (some (lN f / lN x)) else zq (¬ lN x = 0) (some (lN g / lN x))) : ∀ (j x y F : Nat), y < 2 ^ j → x < 2 ^ 63 → y < 2 ^ 63 → 2 * j < F → zlp (qM_chance_L135 part (lN f) (lN g)) F (lN x, lN y) = e (Nat.gcd x y)
  | 0, x, y, F, hy, hx, hy2, hF => by
    have : y = 0 := by omega
    subst this
    obtain ⟨F, rfl⟩ : ∃ F', F = F' + 1 := ⟨F - 1, by omega⟩
    rw [zlp_s, he, Nat.gcd_zero_right]
    unfold qM_chance_L135
    dsimp only
    rw [if_pos ((lcmp0 (by omega)).mpr rfl)]
  | j + 1, x, y, F, hy, hx, hy2, hF => by
    obtain ⟨F, rfl⟩ : ∃ F', F = F' + 1 + 1 := ⟨F - 2, by omega⟩
    by_cases c : y = 0
    · subst c
      rw [zlp_s, he, Nat.gcd_zero_right]
      unfold qM_chance_L135
      dsimp only
      rw [if_pos ((lcmp0 (by omega)).mpr rfl)]
    · have s1 : ∀ rc, qM_chance_L135 part (lN f) (lN g) rc (lN x, lN y) = rc (lN y, lN (x % y)) := fun rc => by
        unfold qM_chance_L135
        dsimp only
        rw [if_neg (fun h => c ((lcmp0 hy2).mp h)), zq_pos (lN_ne (by omega) hy2), pk_lRem hx (by omega) hy2]
      have hr := Nat.mod_lt x (show y > 0 by omega)
      rw [zlp_s, s1, Nat.gcd_comm x y, Nat.gcd_rec y x, Nat.gcd_comm (x % y) y]
      by_cases c2 : x % y = 0
      · rw [c2, zlp_s, Nat.gcd_zero_right, he]
        unfold qM_chance_L135
        dsimp only
        rw [if_pos ((lcmp0 (by omega)).mpr rfl)]
      · have s2 : ∀ rc, qM_chance_L135 part (lN f) (lN g) rc (lN y, lN (x % y)) = rc (lN (x % y), lN (y % (x % y))) := fun rc => by
          unfold qM_chance_L135
          dsimp only
          rw [if_neg (fun h => c2 ((lcmp0 (by omega)).mp h)), zq_pos (lN_ne (by omega) (by omega)), pk_lRem hy2 (by omega) (by omega)]
        have hh := half_mod (x := y) (r := x % y) (by omega) hr
        have hp : 2 ^ (j + 1) = 2 * 2 ^ j := by rw [Nat.pow_succ, Nat.mul_comm]
        rw [zlp_s, s2, m_gcd e he j (x % y) (y % (x % y)) F (by omega) (by omega) (by omega) (by omega), Nat.gcd_comm y (x % y), Nat.gcd_rec (x % y) y, Nat.gcd_comm (y % (x % y)) (x % y)]
/-! how many slips -/
theorem bit_01 : ∀ x, x < 16 → ∀ a, a < 4 → ∀ b, b < 4 → (((nI x >>> (nI a &&& 31)) &&& (nI x >>> (nI b &&& 31))) &&& 1) = 0 ∨ (((nI x >>> (nI a &&& 31)) &&& (nI x >>> (nI b &&& 31))) &&& 1) = 1 := by decide +kernel
theorem sWb_n (w : wF n m k law A) {a b : Nat} (ha : a ≤ 3) (hb : b ≤ 3) : ∀ i, ∃ c, c ≤ i ∧ sWb A a b i = nI c
  | 0 => ⟨0, Nat.le_refl _, rfl⟩
  | i + 1 => by
    obtain ⟨c, h1, h2⟩ := sWb_n w ha hb i
    have e : sWb A a b (i + 1) = sWb A a b i + (((A 13 i >>> (nI a &&& 31)) &&& (A 13 i >>> (nI b &&& 31))) &&& 1) := rfl
    obtain ⟨x, hx, hxe⟩ := sIn_n (h := 15) (by omega) (w.sl i)
    rw [e, h2, hxe]
    rcases bit_01 x (by omega) a (by omega) b (by omega) with z | z
    · rw [z]
      exact ⟨c, by omega, by rw [Int32.add_zero]⟩
    · rw [z, nI_1]
      exact ⟨c + 1, by omega, rfl⟩
theorem or_self32 (x : Int32) : x ||| x = x := by
  apply Int32.toBitVec_inj.mp
  rw [Int32.toBitVec_or]
  exact BitVec.or_self
/-- the ways that fit -/
def fW (sl mk dr h0 : Nat) : Nat → Nat
  | 0 => 0
  | i + 1 => fW sl mk dr h0 i + cW mk (h0 + i) * cW (sl - mk) (dr - (h0 + i))
theorem fW_lt {sl mk dr h0 : Nat} (hs : sl ≤ 30) (hm : mk ≤ sl) : ∀ i, fW sl mk dr h0 i ≤ i * 72057594037927936
  | 0 => Nat.le_refl _
  | i + 1 => by
    have ih := fW_lt (dr := dr) (h0 := h0) hs hm i
    have hp : cW mk (h0 + i) * cW (sl - mk) (dr - (h0 + i)) ≤ 268435456 * 268435456 := Nat.mul_le_mul (Nat.le_of_lt (cW_lt (by omega))) (Nat.le_of_lt (cW_lt (by omega)))
    show fW sl mk dr h0 i + _ ≤ _
    omega
end ZChance
