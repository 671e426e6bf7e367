section ZCalls7
variable {M : zM} {n m k : Nat} {law : Int32} {A : zM} {q s t : Nat}
theorem wb_fin : ∀ x : Fin 16, ∀ a b : Fin 4, (((nI x.1 >>> (nI a.1 &&& 31)) &&& (nI x.1 >>> (nI b.1 &&& 31))) &&& 1) = if (nI x.1 &&& ((1 <<< (nI a.1 &&& 31)) ||| (1 <<< (nI b.1 &&& 31)))) = ((1 <<< (nI a.1 &&& 31)) ||| (1 <<< (nI b.1 &&& 31))) then 1 else 0 := by decide +kernel
theorem wb_bits {x : Int32} {a b : Nat} (hx : sIn 0 15 x) (ha : a ≤ 3) (hb : b ≤ 3) : (((x >>> (nI a &&& 31)) &&& (x >>> (nI b &&& 31))) &&& 1) = if (x &&& ((1 <<< (nI a &&& 31)) ||| (1 <<< (nI b &&& 31)))) = ((1 <<< (nI a &&& 31)) ||| (1 <<< (nI b &&& 31))) then 1 else 0 := by
  obtain ⟨j, hj, rfl⟩ := sIn_n (h := 15) (by omega) hx
  exact wb_fin ⟨j, by omega⟩ ⟨a, by omega⟩ ⟨b, by omega⟩
/-- how many slips hold both -/
def sWb (A : zM) (a b : Nat) : Nat → Int32 := sSum (fun j => (((A 13 j >>> (nI a &&& 31)) &&& (A 13 j >>> (nI b &&& 31))) &&& 1))
theorem m_withBoth (hI : zIn M n m k law A) (a b : Nat) : qM_withBoth M (nI a) (nI b) = some (sWb A a b k) := by
  have mk := hI.m.k
  have hk := hI.w.k30
  have h13 := hI.m.c13
  unfold qM_withBoth
  refine zlp_run (b := qM_withBoth_L5 M (nI a) (nI b)) (s := fun i => (sWb A a b i, nI i)) k (zfu_gt (by omega)) (fun i hi rc => ?_) (fun rc => ?_)
  · unfold qM_withBoth_L5
    simp (disch := omega) only [mk, zn_lt, if_pos hi, zn_cl, zq_in, nI_1, h13]
    rfl
  · unfold qM_withBoth_L5
    simp (disch := omega) only [mk, zn_lt, Nat.lt_irrefl, if_false]
theorem c_countWith (hI : zIn M n m k law A) {a b : Nat} (ha : a ≤ 3) (hb : b ≤ 3) : qT_countWith M ((1 <<< (nI a &&& 31)) ||| (1 <<< (nI b &&& 31))) = some (sWb A a b k) := by
  have ck : M 18 0 = nI k := hI.c.k
  have hk := hI.w.k30
  have h13 : M 19 = A 13 := hI.c.c13
  unfold qT_countWith
  refine zlp_run (b := qT_countWith_L4 M ((1 <<< (nI a &&& 31)) ||| (1 <<< (nI b &&& 31)))) (s := fun i => (sWb A a b i, nI i)) k (zfu_gt (by omega)) (fun i hi rc => ?_) (fun rc => ?_)
  · unfold qT_countWith_L4
    simp (disch := omega) only [ck, zn_lt, if_pos hi, zn_cl, zq_in, nI_1, h13]
    have e : sWb A a b (i + 1) = sWb A a b i + (((A 13 i >>> (nI a &&& 31)) &&& (A 13 i >>> (nI b &&& 31))) &&& 1) := rfl
    rw [e, wb_bits (hI.w.sl i) ha hb]
    by_cases c : (A 13 i &&& ((1 <<< (nI a &&& 31)) ||| (1 <<< (nI b &&& 31)))) = ((1 <<< (nI a &&& 31)) ||| (1 <<< (nI b &&& 31)))
    · rw [if_pos c, if_pos c]
    · rw [if_neg c, if_neg c, Int32.add_zero]
  · unfold qT_countWith_L4
    simp (disch := omega) only [ck, zn_lt, Nat.lt_irrefl, if_false]
theorem k_with (hI : zI M) (a b : Int32) : ∃ x, qS_with M a b = some x ∧ qM_with M a b = some x := by
  obtain ⟨n, m, k, law, A, hI⟩ := hI
  unfold qS_with qM_with
  rw [zb_ok c_noLetter, zb_ok m_isLetter]
  by_cases c1 : sIn 0 3 a
  · rw [if_pos c1, if_pos rfl, if_pos c1, if_neg z10, zb_ok c_noLetter, zb_ok m_isLetter]
    by_cases c2 : sIn 0 3 b
    · obtain ⟨x, hx, rfl⟩ := sIn_n (h := 3) (by omega) c1
      obtain ⟨y, hy, rfl⟩ := sIn_n (h := 3) (by omega) c2
      rw [if_pos c2, if_pos rfl, if_pos c2, if_neg z10, zb_ok (c_countWith hI hx hy), zb_ok (m_withBoth hI x y)]
      exact ⟨_, rfl, rfl⟩
    · rw [if_neg c2, if_neg z10, if_neg c2, if_pos rfl]
      exact ⟨_, rfl, rfl⟩
  · rw [if_neg c1, if_neg z10, if_neg c1, if_pos rfl]
    exact ⟨_, rfl, rfl⟩
theorem k_told (hI : zI M) (v : Int32) : ∃ x, qS_told M v = some x ∧ qM_told M v = some x := by
  obtain ⟨n, m, k, law, A, hI⟩ := hI
  have hn := hI.n4
  have hin : qM_in v.toInt64 10 21 = _ := m_in (v := v) (lo := 10) (hi := 21) (L := 10) (H := 21) rfl rfl
  have e6 : M 86 6 = M 3 0 := hI.m.t.1.trans hI.c.n.symm
  have e14 : M 86 14 = M 10 0 := hI.m.t.2.1.trans hI.c.m.symm
  have e29 : M 86 29 = M 18 0 := hI.m.k.trans hI.c.k.symm
  have e18 : M 86 18 = M 2 3 := hI.m.l.trans hI.c.l.symm
  have e16 : M 86 16 = M 58 0 := by
    obtain ⟨⟨w, y1, y2, y3, y4⟩, y5⟩ := hI.p
    exact y3.trans y2.symm
  unfold qS_told qM_told
  rw [zb_ok hin, e6, e14, e29, e18, e16, zb_ok (t_rowCount hI), zb_ok (m_rows hI.m.t hI.w.wf), zb_ok c_out]
  by_cases c : sIn 10 21 v
  · have h0 : ∀ j : Nat, j < 6 → ¬ v = nI j := fun j hj h => by
      apply c.1
      rw [h]
      exact nI_lt (b := 10) (by omega) (by omega)
    rw [if_pos c, if_pos c, if_neg z10, if_neg (show ¬ v = 0 from h0 0 (by omega)), if_neg (show ¬ v = 1 from h0 1 (by omega)), if_neg (show ¬ v = 2 from h0 2 (by omega)), if_neg (show ¬ v = 3 from h0 3 (by omega)), if_neg (show ¬ v = 4 from h0 4 (by omega)), if_neg (show ¬ v = 5 from h0 5 (by omega)), if_pos rfl]
    have c0 : sIn 0 21 v := ⟨fun q => c.1 (Int32.lt_trans q (by decide)), c.2⟩
    obtain ⟨j, hj, rfl⟩ := sIn_n (h := 21) (by omega) c0
    have hj10 : 10 ≤ j := by
      by_cases z : j < 10
      · exact absurd (nI_lt (b := 10) z (by omega)) c.1
      · omega
    have es : nI j - 10 = nI (j - 10) := pk_sub (b := 10) hj10
    have ed : nI (j - 10) / 3 = nI ((j - 10) / 3) := pk_div (d := 3) (by omega) (by omega) (by omega)
    have er : nI (j - 10) - nI ((j - 10) / 3) * 3 = nI ((j - 10) % 3) := zn_rm (d := 3) (by omega) (by omega) (by omega)
    unfold qG_priceOrNone
    rw [zb_ok (m_isThing hI.m.t.1), es, ed, er, show M 3 0 = nI n from hI.c.n]
    have h3 : (j - 10) / 3 < 4 := by omega
    by_cases d : (j - 10) / 3 < n
    · have dd : nI ((j - 10) / 3) < nI n := nI_lt d (by omega)
      obtain ⟨k1, k2, k3⟩ := t_K hI d
      have mk : M 92 ((j - 10) / 3) = M 4 ((j - 10) / 3) := congrFun (m_c0 hI) _
      have ej : 3 * ((j - 10) / 3) + (j - 10) % 3 = j - 10 := by omega
      rw [if_pos dd, if_pos (sIn_t (by omega) d), if_neg z10]
      simp (disch := omega) only [zn_cl, zq_in, zn_3m, nI_add, ej, mk, m_c1 hI]
      split
      · exact ⟨_, rfl, rfl⟩
      · exact ⟨_, rfl, rfl⟩
    · have dd : ¬ nI ((j - 10) / 3) < nI n := nI_nlt (by omega) (by omega)
      have dn : ¬ sIn 0 (nI n - 1) (nI ((j - 10) / 3)) := fun h => by
        obtain ⟨x, hx, hx2⟩ := sIn_m (by omega) h
        have := (nI_eq (by omega) (by omega)).mp hx2
        omega
      rw [if_neg dd, if_neg dn, if_pos rfl]
      exact ⟨_, rfl, rfl⟩
  · rw [if_neg c, if_neg c, if_neg z10, if_pos rfl]
    repeat' split
    all_goals exact ⟨_, rfl, rfl⟩
end ZCalls7
