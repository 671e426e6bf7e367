section ZSpec
/-! The town, plainly: n THINGS, m SORTS, rows A: 0 steps, 1 price, 2 cost, 3 head, 4 at, 5 window, 6 many, 7 far, 8 way, 9 shelf, 10 want, 11 worth, 12 guess -/
def sPr (A : zM) (s t : Nat) : Int32 := A 1 (3 * t + (A 4 (4 * s + t)).toNatClampNeg)
def sTk (A : zM) (q s t : Nat) (p : Int32) : Int32 := if A 12 (4 * q + t) < 0 ∨ ((A 5 s >>> (nI t &&& 31)) &&& 1) = 1 then p else A 12 (4 * q + t)
def sWt (A : zM) (way : Int32) (q s t : Nat) (p : Int32) : Int32 := if A 10 (4 * q + t) = 0 ∨ A 11 (4 * q + t) < p ∨ (way = 2 ∧ ¬ p < A 2 (4 * s + t)) then 0 else if A 10 (4 * q + t) < A 3 (4 * s + t) then A 10 (4 * q + t) else A 3 (4 * s + t)
def sGn (A : zM) (way : Int32) (q s t : Nat) (p : Int32) : Int32 := sWt A way q s t p * (A 11 (4 * q + t) - p)
def sTg (A : zM) (way : Int32) (q s t : Nat) : Int32 := sGn A way q s t (sTk A q s t (sPr A s t))
def sTh (A : zM) (n q s : Nat) : Int32 := -(A 7 (2 * q + s)) + sSum (sTg A (A 8 q) q s) n
def sSd (A : zM) (way : Int32) (q t : Nat) : Nat := if sTg A way q 0 t < sTg A way q 1 t then 1 else 0
def sBo (A : zM) (n : Nat) (way : Int32) (q : Nat) : Int32 := -(A 7 (2 * q)) - A 7 (2 * q + 1) + sSum (fun t => sTg A way q (sSd A way q t) t) n
def sGo0 (A : zM) (n q : Nat) : Int32 := if ((if (0 : Int32) < sTh A n q 0 then sTh A n q 0 else 0) : Int32) < sTh A n q 1 then 2 else (if (0 : Int32) < sTh A n q 0 then 1 else 0)
def sMx (A : zM) (n q : Nat) : Int32 := if ((if (0 : Int32) < sTh A n q 0 then sTh A n q 0 else 0) : Int32) < sTh A n q 1 then sTh A n q 1 else (if (0 : Int32) < sTh A n q 0 then sTh A n q 0 else 0)
def sGo (A : zM) (n q : Nat) : Int32 := if A 8 q = 1 ∧ sMx A n q < sBo A n (A 8 q) q then 3 else sGo0 A n q
def sVs (to : Int32) (s : Nat) : Prop := ((to >>> (nI s &&& 31)) &&& 1) = 1
noncomputable def sBy (A : zM) (n q s t : Nat) : Int32 := @ite _ (sVs (sGo A n q) s ∧ (sGo A n q = 3 → sSd A (A 8 q) q t = s)) (Classical.propDecidable _) (sWt A (A 8 q) q s t (sPr A s t)) 0
noncomputable def sBr (A : zM) (n q s : Nat) : Int32 := A 6 q * sSum (fun t => sBy A n q s t * (sPr A s t - A 2 (4 * s + t))) n
noncomputable def sLf (A : zM) (n m s : Nat) : Int32 := sSum (fun q => sBr A n q s) m
/-- what holds of every town -/
def sWF (n m : Nat) (A : zM) : Prop := n ≤ 4 ∧ m ≤ 5 ∧ (∀ t, t < n → ∃ k, A 0 t = nI k ∧ 1 ≤ k ∧ k ≤ 3) ∧ (∀ s t, s < 2 → t < n → ∃ a k, A 4 (4 * s + t) = nI a ∧ A 0 t = nI k ∧ a < k ∧ k ≤ 3) ∧ (∀ j, j < 20 → A 10 j ≠ 0 → A 12 j = -6 ∨ 0 ≤ A 12 j) ∧ (∀ j, j < 20 → 0 ≤ A 10 j)
/-- the model's cells hold the town -/
def mT (M : zM) (n m : Nat) (A : zM) : Prop := M 86 6 = nI n ∧ M 86 14 = nI m ∧ M 92 = A 0 ∧ M 91 = A 1 ∧ M 87 = A 2 ∧ M 88 = A 3 ∧ M 89 = A 4 ∧ M 90 = A 5 ∧ M 93 = A 6 ∧ M 94 = A 7 ∧ M 95 = A 8 ∧ M 96 = A 9 ∧ M 97 = A 10 ∧ (∀ j, A 10 j ≠ 0 → M 98 j = A 11 j) ∧ (∀ j, A 10 j ≠ 0 → M 99 j = A 12 j)
theorem sWt_0 {A : zM} {way : Int32} {q s t : Nat} {p : Int32} (h : A 10 (4 * q + t) = 0) : sWt A way q s t p = 0 := by
  unfold sWt
  rw [if_pos (Or.inl h)]
theorem i32_pos {x : Int32} (h : 0 ≤ x) (h0 : x ≠ 0) : (0 : Int32) < x := by
  rcases Int32.lt_or_eq_of_le h with h1 | h1
  · exact h1
  · exact absurd h1.symm h0
section ZModel1
variable {M : zM} {n m : Nat} {A : zM} {q s t : Nat}
theorem m_priceOf (hM : mT M n m A) (hW : sWF n m A) (hs : s < 2) (ht : t < n) : qM_priceOf M (nI s) (nI t) = some (sPr A s t) := by
  obtain ⟨h1, h2, h3, h4, h5, h6, h7, h8, h9, h10, h11, h12, h13, h14, h15⟩ := hM
  obtain ⟨w1, w2, w3, w4, w5, w6⟩ := hW
  obtain ⟨a, k, ha, hk, hak, hk3⟩ := w4 s t hs ht
  unfold qM_priceOf sPr
  simp (disch := omega) only [zn_4m, zn_3m, nI_add, zn_cl, zq_in, h7, h4, ha]
theorem m_wanted (hM : mT M n m A) (hW : sWF n m A) (hq : q < m) (hs : s < 2) (ht : t < n) (p : Int32) : qM_wanted M (nI q) (nI s) (nI t) p = some (sWt A (A 8 q) q s t p) := by
  obtain ⟨h1, h2, h3, h4, h5, h6, h7, h8, h9, h10, h11, h12, h13, h14, h15⟩ := hM
  obtain ⟨w1, w2, w3, w4, w5, w6⟩ := hW
  unfold qM_wanted
  simp (disch := omega) only [zn_4m, nI_add, zn_cl, zq_in, h13, h5, h6, h11, zlj_u]
  by_cases c1 : A 10 (4 * q + t) = 0
  · rw [sWt_0 c1, c1]
    simp [zb]
  · have c2 : (0 : Int32) < A 10 (4 * q + t) := i32_pos (w6 _ (by omega)) c1
    rw [if_pos c2, h14 _ c1]
    unfold sWt
    by_cases c3 : A 11 (4 * q + t) < p
    · simp [c3, zb]
    · by_cases c4 : A 8 q = 2
      · by_cases c5 : p < A 2 (4 * s + t)
        · simp [c1, c3, c4, c5, zb]
          split <;> rfl
        · simp [c3, c4, c5, zb]
      · simp [c1, c3, c4, zb]
        split <;> rfl
end ZModel1
end ZSpec
