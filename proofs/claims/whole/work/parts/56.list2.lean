section ZList2
variable {M : zM} {n m k : Nat} {law : Int32} {A : zM} {q s t : Nat} {st w cur : Nat} {D : pDa}
theorem pF_v {f : Nat → Int32} {N : Nat} {x : Int32} (hN : N ≤ 40) (h : pF f N x) : (x = -6 ∧ ∃ z, pRun f N = some z ∧ (z.1 = 4 ∨ z.1 = 5 ∨ z.1 = 7 ∨ z.1 = 8)) ∨ (¬ x < 0 ∧ ¬ x = -6) := by
  have pos : ∀ i, i ≤ 40 → ¬ nI i < 0 ∧ ¬ nI i = -6 := fun i hi => ⟨nI_nn i (by omega), fun e => nI_nn i (by omega) (by rw [e]; decide)⟩
  rcases h with ⟨i, h1, h2, h3, rfl⟩ | ⟨z, h1, rfl⟩
  · exact Or.inr (pos i (by omega))
  · by_cases c : z.1 = 4 ∨ z.1 = 5 ∨ z.1 = 7 ∨ z.1 = 8
    · rw [if_pos c]
      exact Or.inl ⟨rfl, z, h1, c⟩
    · rw [if_neg c]
      exact Or.inr (pos N hN)
def lR (f : Nat → Int32) (q : Nat) (g : Nat → Int32) : Nat → Int32 := fun j => if 4 * q ≤ j ∧ j < 4 * q + 4 then g (j - 4 * q) else f j
theorem lR_in (f g : Nat → Int32) (ht : t < 4) : lR f q g (4 * q + t) = g t := by
  unfold lR
  rw [if_pos (by omega), show 4 * q + t - 4 * q = t by omega]
theorem lR_out (f g : Nat → Int32) {j : Nat} (h : ¬ (4 * q ≤ j ∧ j < 4 * q + 4)) : lR f q g j = f j := by
  unfold lR
  rw [if_neg h]
theorem lR_ex {j : Nat} (h : 4 * q ≤ j ∧ j < 4 * q + 4) : ∃ t, t < 4 ∧ j = 4 * q + t := ⟨j - 4 * q, by omega, by omega⟩
theorem lR_cpy {f g h : Nat → Int32} (hf : ∀ t, t < 4 → f t = h t) : va_cpy f g 0 (4 * q) 4 = lR g q h := by
  funext j
  by_cases c : 4 * q ≤ j ∧ j < 4 * q + 4
  · obtain ⟨t, ht, rfl⟩ := lR_ex c
    rw [pk_cpy_in (by omega) (by omega), lR_in _ _ ht, show 0 + (4 * q + t - 4 * q) = t by omega]
    exact hf t ht
  · rw [pk_cpy_out (by omega), lR_out _ _ c]
theorem c_writeTo (hq : q < 5) : qA_writeTo M (nI q) = some (zA (zA (zA M 15 (va_cpy (M 60) (M 15) 0 (4 * q) 4)) 16 (va_cpy (M 61) (M 16) 0 (4 * q) 4)) 17 (va_cpy (M 62) (M 17) 0 (4 * q) 4)) := by
  have e : (nI (4 * q)).toNatClampNeg = 4 * q := zn_cl (by omega)
  have e4 : (4 : Int32).toNatClampNeg = 4 := rfl
  have e0 : (0 : Int32).toNatClampNeg = 0 := rfl
  have hp : ¬ nI (4 * q) < 0 := nI_nn _ (by omega)
  unfold qA_writeTo
  rw [zc_m4, e, e4, e0, zq_pos hp, zq_pos (show 4 * q + 4 ≤ 20 by omega), zq_pos hp, zq_pos (show 4 * q + 4 ≤ 20 by omega), zq_pos hp, zq_pos (show 4 * q + 4 ≤ 20 by omega)]
def lA (A : zM) (q : Nat) (D : pDa) : zM := zA (zA (zA A 10 (lR (A 10) q D.1)) 11 (lR (A 11) q D.2.1)) 12 (lR (A 12) q D.2.2)
theorem lA_bit (hI : pI st w cur D) (ht : t < 4) (h : D.1 t ≠ 0) : bw_t w t = true := by
  cases z : bw_t w t with
  | true => rfl
  | false => exact absurd ((hI.2.2.2.2.1 t ht).mpr (Or.inl z)) h
theorem wF_list (wf : wF n m k law A) (hI : pI st w cur D) : wF n m k law (lA A q D) := by
  have hW := wf.wf
  have b := hI.2.2.2.2.2.1
  have r10 : lA A q D 10 = lR (A 10) q D.1 := rfl
  have r11 : lA A q D 11 = lR (A 11) q D.2.1 := rfl
  have r12 : lA A q D 12 = lR (A 12) q D.2.2 := rfl
  have wn' : ∀ j, sIn 0 3 (lA A q D 10 j) := fun j => by
    rw [r10]
    by_cases c : 4 * q ≤ j ∧ j < 4 * q + 4
    · obtain ⟨t, ht, rfl⟩ := lR_ex c
      rw [lR_in _ _ ht]
      exact (b t ht).1
    · rw [lR_out _ _ c]
      exact wf.wn j
  have wo' : ∀ j, lA A q D 10 j ≠ 0 → sIn 0 99 (lA A q D 11 j) := fun j h => by
    rw [r10] at h
    rw [r11]
    by_cases c : 4 * q ≤ j ∧ j < 4 * q + 4
    · obtain ⟨t, ht, rfl⟩ := lR_ex c
      rw [lR_in _ _ ht]
      exact (b t ht).2.1
    · rw [lR_out _ _ c] at h ⊢
      exact wf.wo j h
  have gu' : ∀ j, lA A q D 10 j ≠ 0 → lA A q D 12 j = -6 ∨ sIn 0 99 (lA A q D 12 j) := fun j h => by
    rw [r10] at h
    rw [r12]
    by_cases c : 4 * q ≤ j ∧ j < 4 * q + 4
    · obtain ⟨t, ht, rfl⟩ := lR_ex c
      rw [lR_in _ _ ht]
      exact (b t ht).2.2
    · rw [lR_out _ _ c] at h ⊢
      exact wf.gu j h
  refine ⟨⟨hW.1, hW.2.1, hW.2.2.1, hW.2.2.2.1, fun j hj h => ?_, fun j hj => Int32.not_lt.mp (wn' j).1⟩, wf.k30, wf.law01, wf.pr, wf.up, wf.co, wf.he, wf.wi, wf.ma, wf.fa, wf.wa, wf.sh, wn', wo', gu', wf.sl⟩
  rcases gu' j h with z | z
  · exact Or.inl z
  · exact Or.inr (Int32.not_lt.mp z.1)
theorem k_list (hI : zI M) (v : Int32) : ∃ x M1 M2, qS_list M v = some (x, M1) ∧ qM_list M1 v = some (x, M2) ∧ zI M2 := by
  obtain ⟨n, m, k, law, A, hI⟩ := hI
  have hm := hI.m5
  obtain ⟨⟨N, y1, y2, y3, y4⟩, y5⟩ := hI.p
  unfold qS_list qM_list
  rw [zb_ok (c_noSort hI.c.m)]
  by_cases c : sIn 0 (nI m - 1) v
  · rw [if_pos c, if_pos rfl]
    obtain ⟨q, hq, rfl⟩ := sIn_m (by omega) c
    have hq5 : q < 5 := by omega
    obtain ⟨x, M3, g1, g2, g3, g4⟩ := c_read y1 y2 y4
    rw [zb2_ok g1]
    rcases pF_v y1 g2 with ⟨rfl, z, hz, hst⟩ | ⟨p1, p2⟩
    · rw [if_pos rfl]
      have hP := pI_run hz
      have hJ := g4 z hz
      obtain ⟨zs, zw', zc, D⟩ := z
      dsimp only at hst hP hJ
      obtain ⟨j1, j2, j3, j4, j5⟩ := hJ
      rw [if_neg (by omega)] at j2
      unfold qD_forget
      rw [zb_s, zb_ok (c_writeTo hq5)]
      unfold qA_clear
      rw [zb2_s]
      obtain ⟨M7, hM7⟩ : ∃ M7, M7 = zw (zA (zA (zA (zw M3 78 6 0) 15 (va_cpy ((zw M3 78 6 0) 60) ((zw M3 78 6 0) 15) 0 (4 * q) 4)) 16 (va_cpy ((zw M3 78 6 0) 61) ((zw M3 78 6 0) 16) 0 (4 * q) 4)) 17 (va_cpy ((zw M3 78 6 0) 62) ((zw M3 78 6 0) 17) 0 (4 * q) 4)) 58 0 0 := ⟨_, rfl⟩
      rw [← hM7]
      have b15 : M 15 = A 10 := hI.c.c10
      have b16 : M 16 = A 11 := hI.c.c11
      have b17 : M 17 = A 12 := hI.c.c12
      have f7 : ∀ r, r ≠ 58 → ¬ (60 ≤ r ∧ r ≤ 62) → r ≠ 78 → ¬ (15 ≤ r ∧ r ≤ 17) → M7 r = M r := fun r h1 h2 h3 h4 => by
        rw [hM7, zw_ne h1, zA_ne (by omega), zA_ne (by omega), zA_ne (by omega), zw_ne h3]
        exact g3.1 r h1 h2
      have f15 : M7 15 = lR (A 10) q D.1 := by
        rw [hM7, zw_ne (by decide), zA_ne (by decide), zA_ne (by decide), zA_self, zw_ne (show 60 ≠ 78 by decide), zw_ne (show 15 ≠ 78 by decide), lR_cpy (h := D.1) (fun t ht => j3 t ht)]
        rw [g3.1 15 (by decide) (by omega), b15]
      have f16 : M7 16 = lR (A 11) q D.2.1 := by
        rw [hM7, zw_ne (by decide), zA_ne (by decide), zA_self, zw_ne (show 61 ≠ 78 by decide), zw_ne (show 16 ≠ 78 by decide), lR_cpy (h := D.2.1) (fun t ht => j4 t ht)]
        rw [g3.1 16 (by decide) (by omega), b16]
      have f17 : M7 17 = lR (A 12) q D.2.2 := by
        rw [hM7, zw_ne (by decide), zA_self, zw_ne (show 62 ≠ 78 by decide), zw_ne (show 17 ≠ 78 by decide), lR_cpy (h := D.2.2) (fun t ht => j5 t ht)]
        rw [g3.1 17 (by decide) (by omega), b17]
      have f580 : M7 58 0 = 0 := by rw [hM7, zw_same]
      have f581 : M7 58 1 = nI (bw_c zw') := by
        rw [hM7, zw_other (by decide), zA_ne (by decide), zA_ne (by decide), zA_ne (by decide), zw_ne (by decide), j2]
        rfl
      have f78 : M7 78 6 = 0 := by
        rw [hM7, zw_ne (by decide), zA_ne (by decide), zA_ne (by decide), zA_ne (by decide), zw_same]
      have e86 : M7 86 = M 86 := f7 86 (by decide) (by omega) (by decide) (by omega)
      have e100 : M7 100 = M 59 := (f7 100 (by decide) (by omega) (by decide) (by omega)).trans y5
      obtain ⟨x', M8, h1, h2, h3, h4⟩ := m_fault (M := M7) y1 (by rw [e86]; exact y3)
      rw [e100] at h2
      have ex := pF_one g2 h2
      subst ex
      obtain ⟨M0, hM0⟩ : ∃ M0, M0 = zw (zw (zw (zw (zw M8 97 (4 * q) 0) 97 (4 * q + 1) 0) 97 (4 * q + 2) 0) 97 (4 * q + 3) 0) 86 17 0 := ⟨_, rfl⟩
      have k0 : ∀ r, r ≠ 86 → r ≠ 97 → M0 r = M7 r := fun r a b => by
        rw [hM0, zw_ne a, zw_ne b, zw_ne b, zw_ne b, zw_ne b]; exact h3 r a
      have k86 : ∀ j, j ≠ 17 → M0 86 j = M 86 j := fun j hj => by
        rw [hM0, zw_other hj, zw_ne (by decide), zw_ne (by decide), zw_ne (by decide), zw_ne (by decide), h4 j hj, e86]
      have k97 : ∀ j, ¬ (4 * q ≤ j ∧ j < 4 * q + 4) → M0 97 j = M 97 j := fun j hj => by
        rw [hM0, zw_ne (by decide), zw_other (by omega), zw_other (by omega), zw_other (by omega), zw_other (by omega), h3 97 (by decide), f7 97 (by decide) (by omega) (by decide) (by omega)]
      have k97z : ∀ t, t < 4 → M0 97 (4 * q + t) = 0 := fun t ht => by
        rw [hM0, zw_ne (by decide)]
        rcases (show t = 0 ∨ t = 1 ∨ t = 2 ∨ t = 3 by omega) with rfl | rfl | rfl | rfl
        · rw [zw_other (by omega), zw_other (by omega), zw_other (by omega), Nat.add_zero, zw_same]
        · rw [zw_other (by omega), zw_other (by omega), zw_same]
        · rw [zw_other (by omega), zw_same]
        · rw [zw_same]
      have l0 : lJ M0 M0 q 0 (fun _ => 0, fun _ => 0, fun _ => -6) := by
        refine ⟨by rw [hM0, zw_same]; rfl, fun _ _ => rfl, fun _ _ _ _ _ => rfl, fun _ _ _ _ => rfl, k97z, fun t ht hb => ?_⟩
        unfold bw_t at hb
        rw [Nat.zero_div] at hb
        exact absurd hb (by decide)
      obtain ⟨M9, q1, q2⟩ := m_listLoop (f := M 59) hq5 y1 (by rw [k86 16 (by decide)]; exact y3) ((k0 100 (by decide) (by decide)).trans e100) hz l0
      dsimp only at q1 q2
      obtain ⟨l1, l2, l3, l4, l5, l6⟩ := q2
      obtain ⟨M2, hM2⟩ : ∃ M2, M2 = zw M9 86 16 0 := ⟨_, rfl⟩
      rw [← hM2] at q1
      have n2 : ∀ r, r ≠ 86 → r ≠ 97 → r ≠ 98 → r ≠ 99 → M2 r = M7 r := fun r a b c d => by
        rw [hM2, zw_ne a, l3 r a b c d]; exact k0 r a b
      have n86 : ∀ j, j ≠ 16 → j ≠ 17 → M2 86 j = M 86 j := fun j a b => by
        rw [hM2, zw_other a, l2 j b]; exact k86 j b
      have n16 : M2 86 16 = 0 := by rw [hM2, zw_same]
      have n97 : M2 97 = lR (A 10) q D.1 := by
        funext j
        rw [hM2, zw_ne (by decide)]
        by_cases cc : 4 * q ≤ j ∧ j < 4 * q + 4
        · obtain ⟨t, ht, rfl⟩ := lR_ex cc
          rw [lR_in _ _ ht]
          exact l5 t ht
        · rw [lR_out _ _ cc, l4 97 (by omega) j cc, k97 j cc, hI.m.t.2.2.2.2.2.2.2.2.2.2.2.2.1]
      have n98 : ∀ j, lR (A 10) q D.1 j ≠ 0 → M2 98 j = lR (A 11) q D.2.1 j := fun j hj => by
        rw [hM2, zw_ne (by decide)]
        by_cases cc : 4 * q ≤ j ∧ j < 4 * q + 4
        · obtain ⟨t, ht, rfl⟩ := lR_ex cc
          rw [lR_in _ _ ht] at hj ⊢
          exact (l6 t ht (lA_bit hP ht hj)).1
        · rw [lR_out _ _ cc] at hj ⊢
          rw [l4 98 (by omega) j cc, k0 98 (by decide) (by decide), f7 98 (by decide) (by omega) (by decide) (by omega)]
          exact hI.m.t.2.2.2.2.2.2.2.2.2.2.2.2.2.1 j hj
      have n99 : ∀ j, lR (A 10) q D.1 j ≠ 0 → M2 99 j = lR (A 12) q D.2.2 j := fun j hj => by
        rw [hM2, zw_ne (by decide)]
        by_cases cc : 4 * q ≤ j ∧ j < 4 * q + 4
        · obtain ⟨t, ht, rfl⟩ := lR_ex cc
          rw [lR_in _ _ ht] at hj ⊢
          exact (l6 t ht (lA_bit hP ht hj)).2
        · rw [lR_out _ _ cc] at hj ⊢
          rw [l4 99 (by omega) j cc, k0 99 (by decide) (by decide), f7 99 (by decide) (by omega) (by decide) (by omega)]
          exact hI.m.t.2.2.2.2.2.2.2.2.2.2.2.2.2.2 j hj
      have nM : ∀ r, r ≠ 58 → ¬ (60 ≤ r ∧ r ≤ 62) → r ≠ 78 → ¬ (15 ≤ r ∧ r ≤ 17) → r ≠ 86 → ¬ (97 ≤ r ∧ r ≤ 99) → M2 r = M r := fun r h1 h2 h3 h4 h5 h6 => (n2 r h5 (by omega) (by omega) (by omega)).trans (f7 r h1 h2 h3 h4)
      obtain ⟨Mi, hMi⟩ : ∃ Mi : zM, Mi = fun c => if c = 58 ∨ c = 86 then M2 c else M c := ⟨_, rfl⟩
      have i58 : Mi 58 = M2 58 := by rw [hMi]; exact if_pos (Or.inl rfl)
      have i86 : Mi 86 = M2 86 := by rw [hMi]; exact if_pos (Or.inr rfl)
      have io : ∀ c, c ≠ 58 → c ≠ 86 → Mi c = M c := fun c a b => by rw [hMi]; exact if_neg (fun h => h.elim a b)
      have hIi : zIn Mi n m k law A := zIn_pad hI (fun c hc => io c (by omega) (by omega)) (fun j hj => by rw [i86]; exact n86 j (by omega) (by omega)) ⟨⟨0, by omega, by rw [i58, n2 58 (by decide) (by decide) (by decide) (by decide)]; exact f580, by rw [i86]; exact n16, fun j h => by omega⟩, by rw [io 100 (by decide) (by decide), io 59 (by decide) (by decide)]; exact y5⟩
      have mt := hI.m.t
      refine ⟨_, _, M2, rfl, ?_, (zIn_up (A' := lA A q D) hIi (wF_list hI.w hP) ?_ ?_ ?_ (fun c hc => ?_) ?_ (Or.inl ?_)).z⟩
      · rw [zb_ok (m_isSort (by rw [e86]; exact hI.m.t.2.1)), if_pos c, if_neg z10, zb2_ok h1, if_pos (show (-6 : Int32) < 0 by decide), zb_ok (m_clearList hq5), ← hM0, q1, f581]
      · obtain ⟨a1, a2, a3, a4, a5, a6, a7, a8, a9, c1, c2, c3, c4, c5, c6, c7, c8, c9⟩ := hI.c
        have nn : ∀ r, r ≤ 14 ∨ (18 ≤ r ∧ r ≤ 19) → M2 r = M r := fun r hr => nM r (by omega) (by omega) (by omega) (by omega) (by omega) (by omega)
        refine ⟨?_, ?_, ?_, ?_, ?_, ?_, ?_, ?_, ?_, ?_, ?_, ?_, ?_, ?_, ?_, ?_, ?_, ?_⟩
        · rw [nn 2 (by omega)]; exact a1
        · rw [nn (2 + 1) (by omega)]; exact a2
        · rw [nn (2 + 2) (by omega)]; exact a3
        · rw [nn (2 + 3) (by omega)]; exact a4
        · rw [nn (2 + 4) (by omega)]; exact a5
        · rw [nn (2 + 5) (by omega)]; exact a6
        · rw [nn (2 + 6) (by omega)]; exact a7
        · rw [nn (2 + 7) (by omega)]; exact a8
        · rw [nn (2 + 8) (by omega)]; exact a9
        · rw [nn (2 + 9) (by omega)]; exact c1
        · rw [nn (2 + 10) (by omega)]; exact c2
        · rw [nn (2 + 11) (by omega)]; exact c3
        · rw [nn (2 + 12) (by omega)]; exact c4
        · exact (n2 15 (by decide) (by decide) (by decide) (by decide)).trans f15
        · exact (n2 16 (by decide) (by decide) (by decide) (by decide)).trans f16
        · exact (n2 17 (by decide) (by decide) (by decide) (by decide)).trans f17
        · rw [nn (2 + 16) (by omega)]; exact c8
        · rw [nn (2 + 17) (by omega)]; exact c9
      · obtain ⟨t1, t2, t3, t4, t5, t6, t7, t8, t9, t10, t11, t12, t13, t14, t15⟩ := mt
        have nn : ∀ r, 87 ≤ r ∧ r ≤ 96 → M2 r = M r := fun r hr => nM r (by omega) (by omega) (by omega) (by omega) (by omega) (by omega)
        refine ⟨⟨?_, ?_, ?_, ?_, ?_, ?_, ?_, ?_, ?_, ?_, ?_, ?_, n97, n98, n99⟩, ?_, ?_, ?_⟩
        · rw [n86 6 (by decide) (by decide)]; exact t1
        · rw [n86 14 (by decide) (by decide)]; exact t2
        · rw [nn 92 (by omega)]; exact t3
        · rw [nn 91 (by omega)]; exact t4
        · rw [nn 87 (by omega)]; exact t5
        · rw [nn 88 (by omega)]; exact t6
        · rw [nn 89 (by omega)]; exact t7
        · rw [nn 90 (by omega)]; exact t8
        · rw [nn 93 (by omega)]; exact t9
        · rw [nn 94 (by omega)]; exact t10
        · rw [nn 95 (by omega)]; exact t11
        · rw [nn 96 (by omega)]; exact t12
        · rw [n86 18 (by decide) (by decide)]; exact hI.m.l
        · rw [n86 29 (by decide) (by decide)]; exact hI.m.k
        · rw [nM 105 (by decide) (by omega) (by decide) (by omega) (by decide) (by omega)]; exact hI.m.c13
      · intro c L hc h19
        have tl : ∀ f g : Nat → Int32, tz f 20 → tz (lR f q g) 20 := fun f g h j hj => by rw [lR_out _ _ (by omega)]; exact h j hj
        by_cases cr : 15 ≤ c ∧ c ≤ 17
        · have hL : ∀ p, p ∈ zTc → 15 ≤ p.1 ∧ p.1 ≤ 17 → p.2 = 20 := by decide
          have := hL (c, L) hc cr
          dsimp only at this
          subst this
          rcases (show c = 15 ∨ c = 16 ∨ c = 17 by omega) with rfl | rfl | rfl
          · rw [n2 15 (by decide) (by decide) (by decide) (by decide), f15]
            exact tl _ _ (by rw [← b15]; exact hI.t (15, 20) (by decide))
          · rw [n2 16 (by decide) (by decide) (by decide) (by decide), f16]
            exact tl _ _ (by rw [← b16]; exact hI.t (16, 20) (by decide))
          · rw [n2 17 (by decide) (by decide) (by decide) (by decide), f17]
            exact tl _ _ (by rw [← b17]; exact hI.t (17, 20) (by decide))
        · rw [nM c (by omega) (by omega) (by omega) cr (by omega) (by omega)]
          exact hI.t (c, L) hc
      · by_cases z58 : c = 58
        · rw [z58, i58]
        · rw [nM c z58 (by omega) (by omega) (by omega) (by omega) (by omega), io c z58 (by omega)]
      · rw [i86]
      · rw [n2 78 (by decide) (by decide) (by decide) (by decide)]
        exact f78
    · rw [if_neg p2]
      have hI1 : zIn M3 n m k law A := zIn_pad hI (fun c hc => g3.1 c (by omega) (by omega)) (fun j hj => by rw [g3.1 86 (by decide) (by omega)]) ⟨⟨N, y1, g3.2.trans y2, by rw [g3.1 86 (by decide) (by omega)]; exact y3, by rw [g3.1 59 (by decide) (by omega)]; exact y4⟩, by rw [g3.1 59 (by decide) (by omega), g3.1 100 (by decide) (by omega)]; exact y5⟩
      obtain ⟨x', M2, f1, f2, f3, f4⟩ := m_fault (M := M3) y1 (by rw [g3.1 86 (by decide) (by omega)]; exact y3)
      rw [g3.1 100 (by decide) (by omega), y5] at f2
      have e := pF_one g2 f2
      subst e
      refine ⟨_, _, M2, rfl, ?_, (zIn_m hI1 (fun c hc => f3 c (by omega)) (fun j hj => f4 j (by omega))).z⟩
      rw [zb_ok (m_isSort hI1.m.t.2.1), if_pos c, if_neg z10, zb2_ok f1, if_neg p1]
  · rw [if_neg c, if_neg z10]
    refine ⟨_, _, _, rfl, ?_, hI.z⟩
    rw [zb_ok (m_isSort hI.m.t.2.1), if_neg c, if_pos rfl]
end ZList2
