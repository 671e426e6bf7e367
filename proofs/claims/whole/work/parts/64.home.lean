section ZHome
variable {M : zM} {n m k : Nat} {law : Int32} {A A' : zM} {q s t : Nat}
/-- how many are had in a week, and what the shelf then holds -/
def hNm (low : Prop) [Decidable low] (u sh x : Nat) : Nat := if low then u + sh - x else u - (if x < u then x else u)
def hSt (low ok : Prop) [Decidable low] [Decidable ok] (u sh x : Nat) : Nat := if low then (if ok then sh else x) else x - (if x < u then x else u)
def hLw (wk P1 PL : Int32) (i : Nat) : Prop := ((wk >>> (nI i &&& 31)) &&& 1) = 1 ∧ P1 < PL
noncomputable def hPr (wk P1 PL : Int32) (i : Nat) : Int32 := @ite _ (hLw wk P1 PL i) (Classical.propDecidable _) P1 PL
noncomputable def hR (wk P1 PL W C : Int32) (u sh : Nat) : Nat → Nat × Int32 × Int32
  | 0 => (0, 0, 0)
  | i + 1 => (@hSt (hLw wk P1 PL i) (¬ W < hPr wk P1 PL i) (Classical.propDecidable _) (Classical.propDecidable _) u sh (hR wk P1 PL W C u sh i).1, @ite _ (¬ W < hPr wk P1 PL i) (Classical.propDecidable _) ((hR wk P1 PL W C u sh i).2.1 + nI (@hNm (hLw wk P1 PL i) (Classical.propDecidable _) u sh (hR wk P1 PL W C u sh i).1)) (hR wk P1 PL W C u sh i).2.1, @ite _ (¬ W < hPr wk P1 PL i) (Classical.propDecidable _) ((hR wk P1 PL W C u sh i).2.2 + nI (@hNm (hLw wk P1 PL i) (Classical.propDecidable _) u sh (hR wk P1 PL W C u sh i).1) * (hPr wk P1 PL i - C)) (hR wk P1 PL W C u sh i).2.2)
variable {wk P1 PL W C : Int32} {u sh : Nat}
/-- the four kinds of week -/
theorem hR_lo (i : Nat) (hl : hLw wk P1 PL i) (ho : ¬ W < P1) : hR wk P1 PL W C u sh (i + 1) = (sh, (hR wk P1 PL W C u sh i).2.1 + nI (u + sh - (hR wk P1 PL W C u sh i).1), (hR wk P1 PL W C u sh i).2.2 + nI (u + sh - (hR wk P1 PL W C u sh i).1) * (P1 - C)) := by
  have hp : hPr wk P1 PL i = P1 := by unfold hPr; rw [if_pos hl]
  show (_, _, _) = _
  unfold hSt hNm
  rw [hp, if_pos hl, if_pos ho, if_pos ho, if_pos ho, if_pos hl]
theorem hR_ln (i : Nat) (hl : hLw wk P1 PL i) (ho : W < P1) : hR wk P1 PL W C u sh (i + 1) = hR wk P1 PL W C u sh i := by
  have hp : hPr wk P1 PL i = P1 := by unfold hPr; rw [if_pos hl]
  show (_, _, _) = _
  unfold hSt
  rw [hp, if_pos hl, if_neg (fun h => h ho), if_neg (fun h => h ho), if_neg (fun h => h ho)]
theorem hR_do (i : Nat) (hl : ¬ hLw wk P1 PL i) (ho : ¬ W < PL) : hR wk P1 PL W C u sh (i + 1) = ((hR wk P1 PL W C u sh i).1 - (if (hR wk P1 PL W C u sh i).1 < u then (hR wk P1 PL W C u sh i).1 else u), (hR wk P1 PL W C u sh i).2.1 + nI (u - (if (hR wk P1 PL W C u sh i).1 < u then (hR wk P1 PL W C u sh i).1 else u)), (hR wk P1 PL W C u sh i).2.2 + nI (u - (if (hR wk P1 PL W C u sh i).1 < u then (hR wk P1 PL W C u sh i).1 else u)) * (PL - C)) := by
  have hp : hPr wk P1 PL i = PL := by unfold hPr; rw [if_neg hl]
  show (_, _, _) = _
  unfold hSt hNm
  rw [hp, if_neg hl, if_pos ho, if_pos ho, if_neg hl]
theorem hR_dn (i : Nat) (hl : ¬ hLw wk P1 PL i) (ho : W < PL) : hR wk P1 PL W C u sh (i + 1) = ((hR wk P1 PL W C u sh i).1 - (if (hR wk P1 PL W C u sh i).1 < u then (hR wk P1 PL W C u sh i).1 else u), (hR wk P1 PL W C u sh i).2.1, (hR wk P1 PL W C u sh i).2.2) := by
  have hp : hPr wk P1 PL i = PL := by unfold hPr; rw [if_neg hl]
  show (_, _, _) = _
  unfold hSt
  rw [hp, if_neg hl, if_neg (show ¬ ¬ W < PL from fun h => h ho), if_neg (show ¬ ¬ W < PL from fun h => h ho)]
theorem hR_bd (hu : u ≤ 3) (hsh : sh ≤ 6) (h1 : sIn 0 99 P1) (hL : sIn 0 99 PL) (hC : sIn 0 99 C) : ∀ i, i ≤ 12 → (hR wk P1 PL W C u sh i).1 ≤ sh ∧ sB (9 * i) (hR wk P1 PL W C u sh i).2.1 ∧ sB (1782 * i) (hR wk P1 PL W C u sh i).2.2
  | 0, _ => ⟨Nat.zero_le _, bd_0 _, bd_0 _⟩
  | i + 1, hi => by
    obtain ⟨b1, b2, b3⟩ := hR_bd hu hsh h1 hL hC i (by omega)
    have nb : ∀ x, x ≤ 9 → sB 9 (nI x) := fun x hx => bd_in (h := 9) (by omega) (in_n (by omega) hx)
    have pc : ∀ p, sIn 0 99 p → sB 198 (p - C) := fun p hp => (bd_sub (bd_in (h := 99) (by omega) hp) (bd_in (h := 99) (by omega) hC) (by omega)).1
    have up2 : sB (9 * (i + 1)) (hR wk P1 PL W C u sh i).2.1 := bd_up b2 (by omega)
    have up3 : sB (1782 * (i + 1)) (hR wk P1 PL W C u sh i).2.2 := bd_up b3 (by omega)
    by_cases hl : hLw wk P1 PL i
    · by_cases ho : W < P1
      · rw [hR_ln i hl ho]
        exact ⟨b1, up2, up3⟩
      · rw [hR_lo i hl ho]
        refine ⟨Nat.le_refl _, bd_up (bd_add b2 (nb _ (by omega)) (by omega)).1 (by omega), bd_up (bd_add b3 (bd_mul (nb _ (by omega)) (pc _ h1) (by omega)).1 (by omega)).1 (by omega)⟩
    · by_cases ho : W < PL
      · rw [hR_dn i hl ho]
        exact ⟨by dsimp only; omega, up2, up3⟩
      · rw [hR_do i hl ho]
        refine ⟨by dsimp only; omega, bd_up (bd_add b2 (nb _ (by omega)) (by omega)).1 (by omega), bd_up (bd_add b3 (bd_mul (nb _ (by omega)) (pc _ hL) (by omega)).1 (by omega)).1 (by omega)⟩
theorem mn_le (x u : Nat) : (if x < u then x else u) ≤ u ∧ (if x < u then x else u) ≤ x := by
  split <;> omega
theorem min_u {x u : Nat} (hx : x < 2147483648) (hu : u < 2147483648) : (if nI u < nI x then nI u else nI x) = nI (if x < u then x else u) := by
  by_cases c : u < x
  · rw [if_pos (nI_lt c hx), if_neg (by omega)]
  · rw [if_neg (nI_nlt (by omega) hu)]
    by_cases c2 : x < u
    · rw [if_pos c2]
    · rw [if_neg c2, show x = u by omega]
/-- the class's weeks -/
theorem c_live (hq : q < 5) (hs : s < 2) (ht : t < 4) {N : Nat} (hN : N ≤ 12) (hP1 : M 5 (3 * t) = P1) (hPL : qG_lastPrice (zw (zw (zw M 85 0 0) 85 1 0) 85 2 0) (nI t) = some PL) (hW : M 16 (4 * q + t) = W) (hU : M 15 (4 * q + t) = nI u) (hS : M 14 q = nI sh) (hC : M 6 (4 * s + t) = C) (hu : u ≤ 3) (hsh : sh ≤ 6) (bd : ∀ i, i ≤ 12 → (hR wk P1 PL W C u sh i).1 ≤ sh) : ∃ M', qK_live M (nI q) (nI s) (nI t) wk (nI N) = some M' ∧ (∀ c, c ≠ 85 → M' c = M c) ∧ M' 85 2 = nI (hR wk P1 PL W C u sh N).1 ∧ M' 85 0 = (hR wk P1 PL W C u sh N).2.1 ∧ M' 85 1 = (hR wk P1 PL W C u sh N).2.2 := by
  unfold qK_live
  rw [zb_ok hPL]
  simp (disch := omega) only [zc_m3, zc_m4, nI_add, zq_in]
  refine zlp_inv (b := qK_live_L86 (nI N) wk M (nI t) PL (nI q) (nI s)) (I := fun i v => v.1 = nI i ∧ (∀ c, c ≠ 85 → v.2 c = M c) ∧ v.2 85 2 = nI (hR wk P1 PL W C u sh i).1 ∧ v.2 85 0 = (hR wk P1 PL W C u sh i).2.1 ∧ v.2 85 1 = (hR wk P1 PL W C u sh i).2.2) N (E := fun o => ∃ M', o = some M' ∧ (∀ c, c ≠ 85 → M' c = M c) ∧ M' 85 2 = nI (hR wk P1 PL W C u sh N).1 ∧ M' 85 0 = (hR wk P1 PL W C u sh N).2.1 ∧ M' 85 1 = (hR wk P1 PL W C u sh N).2.2) (zfu_gt (by omega)) (fun i hi v hv => ?_) (fun v hv => ?_) (s := (0, zw (zw (zw M 85 0 0) 85 1 0) 85 2 0)) ⟨rfl, fun c hc => by show zw _ _ _ _ c = _; rw [zw_ne hc, zw_ne hc, zw_ne hc], by show zw (zw (zw M 85 0 0) 85 1 0) 85 2 0 85 2 = 0; rw [zw_same], by show zw (zw (zw M 85 0 0) 85 1 0) 85 2 0 85 0 = 0; rw [zw_other (by decide), zw_other (by decide), zw_same], by show zw (zw (zw M 85 0 0) 85 1 0) 85 2 0 85 1 = 0; rw [zw_other (by decide), zw_same]⟩
  · obtain ⟨v1, M3⟩ := v
    obtain ⟨e1, e2, e3, e4, e5⟩ := hv
    dsimp only at e1 e2 e3 e4 e5
    subst e1
    have hx := bd i (by omega)
    have h14 : M3 14 q = nI sh := by rw [e2 14 (by decide)]; exact hS
    have hlow : (if ((wk >>> (nI i &&& 31)) &&& 1) = 1 then (if P1 < PL then some (1 : Int32) else some 0) else some 0) = some (pB (hLw wk P1 PL i)) := by
      by_cases b1 : ((wk >>> (nI i &&& 31)) &&& 1) = 1
      · rw [if_pos b1]
        by_cases b2 : P1 < PL
        · rw [if_pos b2, pB_t ⟨b1, b2⟩]
        · rw [if_neg b2, pB_f (fun h => b2 h.2)]
      · rw [if_neg b1, pB_f (fun h => b1 h.1)]
    obtain ⟨x, hxe⟩ : ∃ x, x = (hR wk P1 PL W C u sh i).1 := ⟨_, rfl⟩
    have hd : ∀ rc, qK_live_L86 (nI N) wk M (nI t) PL (nI q) (nI s) rc (nI i, M3) = (if pB (hLw wk P1 PL i) = 0 then
        (zb2 (qK_needDearly M3 (nI u)) fun x17 M18 =>
        if W < (if pB (hLw wk P1 PL i) = 0 then PL else P1) then
          (rc (nI (i + 1), M18))
        else
          (rc (nI (i + 1), (zw (zw M18 85 0 ((M18 85 0) + x17)) 85 1 (((zw M18 85 0 ((M18 85 0) + x17)) 85 1) + (x17 * ((if pB (hLw wk P1 PL i) = 0 then PL else P1) - C)))))))
      else
        (zb2 (qK_needCheaply M3 (nI u) (nI sh) (if W < (if pB (hLw wk P1 PL i) = 0 then PL else P1) then 0 else 1)) fun x20 M21 =>
        if W < (if pB (hLw wk P1 PL i) = 0 then PL else P1) then
          (rc (nI (i + 1), M21))
        else
          (rc (nI (i + 1), (zw (zw M21 85 0 ((M21 85 0) + x20)) 85 1 (((zw M21 85 0 ((M21 85 0) + x20)) 85 1) + (x20 * ((if pB (hLw wk P1 PL i) = 0 then PL else P1) - C)))))))) := fun rc => by
      unfold qK_live_L86
      simp (disch := omega) only [zn_lt, if_pos hi, zlj_u, zc_m3, zc_m4, nI_add, zn_cl, zq_in, hP1, hW, hU, hC, h14, nI_1]
      rw [hlow, zb_s]
    rw [← hxe] at e3 hx
    by_cases hl : hLw wk P1 PL i
    · have hp := pB_t hl
      have en : nI u + nI sh - M3 85 2 = nI (u + sh - x) := by rw [e3, nI_add, pk_sub (by omega)]
      by_cases ho : W < P1
      · refine ⟨(nI (i + 1), M3), ⟨rfl, e2, ?_, ?_, ?_⟩, fun rc => ?_⟩
        · rw [hR_ln i hl ho, ← hxe]; exact e3
        · rw [hR_ln i hl ho]; exact e4
        · rw [hR_ln i hl ho]; exact e5
        · rw [hd rc, hp, if_neg z10, if_neg z10, if_pos ho]
          unfold qK_needCheaply
          rw [if_pos rfl, zb2_s, if_pos ho]
      · refine ⟨(nI (i + 1), zw (zw (zw M3 85 2 (nI sh)) 85 0 ((zw M3 85 2 (nI sh)) 85 0 + nI (u + sh - x))) 85 1 ((zw (zw M3 85 2 (nI sh)) 85 0 ((zw M3 85 2 (nI sh)) 85 0 + nI (u + sh - x))) 85 1 + nI (u + sh - x) * (P1 - C))), ⟨rfl, fun c hc => ?_, ?_, ?_, ?_⟩, fun rc => ?_⟩
        · dsimp only
          rw [zw_ne hc, zw_ne hc, zw_ne hc]; exact e2 c hc
        · dsimp only
          rw [hR_lo i hl ho, zw_other (by decide), zw_other (by decide), zw_same]
        · dsimp only
          rw [hR_lo i hl ho, zw_other (by decide), zw_same, zw_other (by decide), e4, ← hxe]
        · dsimp only
          rw [hR_lo i hl ho, zw_same, zw_other (by decide), zw_other (by decide), e5, ← hxe]
        · rw [hd rc, hp, if_neg z10, if_neg z10, if_neg ho]
          unfold qK_needCheaply
          rw [if_neg z10, zb2_s, en, if_neg ho]
    · have hp := pB_f hl
      have eu : (if nI u < M3 85 2 then nI u else M3 85 2) = nI (if x < u then x else u) := by rw [e3]; exact min_u (by omega) (by omega)
      have hmn := mn_le x u
      have e1' : nI u - nI (if x < u then x else u) = nI (u - (if x < u then x else u)) := pk_sub (by omega)
      have e2' : M3 85 2 - nI (if x < u then x else u) = nI (x - (if x < u then x else u)) := by rw [e3, pk_sub (by omega)]
      by_cases ho : W < PL
      · refine ⟨(nI (i + 1), zw M3 85 2 (nI (x - (if x < u then x else u)))), ⟨rfl, fun c hc => ?_, ?_, ?_, ?_⟩, fun rc => ?_⟩
        · dsimp only
          rw [zw_ne hc]; exact e2 c hc
        · dsimp only
          rw [hR_dn i hl ho, zw_same, ← hxe]
        · dsimp only
          rw [hR_dn i hl ho, zw_other (by decide), e4]
        · dsimp only
          rw [hR_dn i hl ho, zw_other (by decide), e5]
        · rw [hd rc, hp, if_pos rfl, if_pos rfl]
          unfold qK_needDearly
          rw [zb2_s, eu, e2', if_pos ho]
      · refine ⟨(nI (i + 1), zw (zw (zw M3 85 2 (nI (x - (if x < u then x else u)))) 85 0 ((zw M3 85 2 (nI (x - (if x < u then x else u)))) 85 0 + nI (u - (if x < u then x else u)))) 85 1 ((zw (zw M3 85 2 (nI (x - (if x < u then x else u)))) 85 0 ((zw M3 85 2 (nI (x - (if x < u then x else u)))) 85 0 + nI (u - (if x < u then x else u)))) 85 1 + nI (u - (if x < u then x else u)) * (PL - C))), ⟨rfl, fun c hc => ?_, ?_, ?_, ?_⟩, fun rc => ?_⟩
        · dsimp only
          rw [zw_ne hc, zw_ne hc, zw_ne hc]; exact e2 c hc
        · dsimp only
          rw [hR_do i hl ho, zw_other (by decide), zw_other (by decide), zw_same, ← hxe]
        · dsimp only
          rw [hR_do i hl ho, zw_other (by decide), zw_same, zw_other (by decide), e4, ← hxe]
        · dsimp only
          rw [hR_do i hl ho, zw_same, zw_other (by decide), zw_other (by decide), e5, ← hxe]
        · rw [hd rc, hp, if_pos rfl, if_pos rfl]
          unfold qK_needDearly
          rw [zb2_s, eu, e2', e1', if_neg ho]
  · obtain ⟨v1, M3⟩ := v
    obtain ⟨e1, e2, e3, e4, e5⟩ := hv
    dsimp only at e1 e2 e3 e4 e5
    subst e1
    refine ⟨_, ⟨M3, rfl, e2, e3, e4, e5⟩, fun rc => ?_⟩
    unfold qK_live_L86
    simp (disch := omega) only [zn_lt, Nat.lt_irrefl, if_false]
theorem l_mul {x w : Int32} {a b : Nat} (hx : sB a x) (hw : sB b w) (h : a * b < 2147483648) : x.toInt64 * w.toInt64 = (x * w).toInt64 := by
  apply Int64.toInt_inj.mp
  have h1 := (bd_mul hx hw h).2
  have h2 := im_bd hx.1 hx.2 hw.1 hw.2
  rw [Int64.toInt_mul, Int32.toInt_toInt64, Int32.toInt_toInt64, Int32.toInt_toInt64, h1]
  exact Int.bmod_eq_of_le (by omega) (by omega)
/-- the reference's weeks -/
theorem m_weeks (hq : q < 5) (hs : s < 2) (ht : t < 4) {N : Nat} (hN : N ≤ 12) {K : Nat} (hK : 1 ≤ K ∧ K ≤ 3) (h92 : M 92 t = nI K) (hP1 : M 91 (3 * t) = P1) (hPL : M 91 (3 * t + K - 1) = PL) (hW : M 98 (4 * q + t) = W) (hU : M 97 (4 * q + t) = nI u) (hS : M 96 q = nI sh) (hC : M 87 (4 * s + t) = C) (hu : 1 ≤ u ∧ u ≤ 3) (hsh : sh ≤ 6) (hle : P1 ≤ PL) (i1 : sIn 0 99 P1) (iL : sIn 0 99 PL) (iC : sIn 0 99 C) (what : Int32) : zlp (qM_home_L160 (nI N) wk M (nI t) (nI q) (nI s) what) zfu (0, 0, 0, 0) = some (if what = 0 then (hR wk P1 PL W C u sh N).2.1.toInt64 else if what = 1 then (hR wk P1 PL W C u sh N).2.2.toInt64 else (nI (hR wk P1 PL W C u sh N).1).toInt64) := by
  have bd := hR_bd (wk := wk) (W := W) hu.2 hsh i1 iL iC
  refine zlp_run (b := qM_home_L160 (nI N) wk M (nI t) (nI q) (nI s) what) (s := fun i => (nI (hR wk P1 PL W C u sh i).1, (hR wk P1 PL W C u sh i).2.1.toInt64, (hR wk P1 PL W C u sh i).2.2.toInt64, nI i)) N (zfu_gt (by omega)) (fun i hi rc => ?_) (fun rc => ?_)
  · obtain ⟨b1, b2, b3⟩ := bd i (by omega)
    obtain ⟨x, hxe⟩ : ∃ x, x = (hR wk P1 PL W C u sh i).1 := ⟨_, rfl⟩
    obtain ⟨c, hce⟩ : ∃ c, c = (hR wk P1 PL W C u sh i).2.1 := ⟨_, rfl⟩
    obtain ⟨e, hee⟩ : ∃ e, e = (hR wk P1 PL W C u sh i).2.2 := ⟨_, rfl⟩
    rw [← hxe] at b1
    rw [← hce] at b2
    rw [← hee] at b3
    have nb : ∀ y, y ≤ 9 → sB 9 (nI y) := fun y hy => bd_in (h := 9) (by omega) (in_n (by omega) hy)
    have pc : ∀ p, sIn 0 99 p → sB 198 (p - C) := fun p hp => (bd_sub (bd_in (h := 99) (by omega) hp) (bd_in (h := 99) (by omega) iC) (by omega)).1
    have hlow : (if ((wk >>> (nI i &&& 31)) &&& 1) = 1 then (if P1 < PL then some (1 : Int32) else some 0) else some 0) = some (pB (hLw wk P1 PL i)) := by
      by_cases d1 : ((wk >>> (nI i &&& 31)) &&& 1) = 1
      · rw [if_pos d1]
        by_cases d2 : P1 < PL
        · rw [if_pos d2, pB_t ⟨d1, d2⟩]
        · rw [if_neg d2, pB_f (fun h => d2 h.2)]
      · rw [if_neg d1, pB_f (fun h => d1 h.1)]
    have hpr : (if ((wk >>> (nI i &&& 31)) &&& 1) = 1 then P1 else PL) = hPr wk P1 PL i := by
      unfold hPr
      by_cases d1 : ((wk >>> (nI i &&& 31)) &&& 1) = 1
      · rw [if_pos d1]
        by_cases d2 : P1 < PL
        · rw [if_pos (show hLw wk P1 PL i from ⟨d1, d2⟩)]
        · rw [if_neg (fun h => d2 h.2)]
          exact Int32.le_antisymm hle (Int32.not_lt.mp d2)
      · rw [if_neg d1, if_neg (fun h => d1 h.1)]
    have hd : qM_home_L160 (nI N) wk M (nI t) (nI q) (nI s) what rc (nI x, c.toInt64, e.toInt64, nI i) = (zb (if pB (hLw wk P1 PL i) = 0 then (if nI x = 0 then some 0 else (if nI x < nI u then some (nI x) else some (nI u))) else some 0) fun (w17 : Int32) =>
      zb (if W < hPr wk P1 PL i then (some 0) else (if pB (hLw wk P1 PL i) = 0 then (some (nI u - w17)) else (some ((nI u + nI sh) - nI x)))) fun (w19 : Int32) =>
      zb (if pB (hLw wk P1 PL i) = 0 then (some (nI x - w17)) else (if (0 : Int32) < w19 then (some (nI sh)) else (some (nI x - w17)))) fun (w21 : Int32) =>
      rc (w21, (c.toInt64 + w19.toInt64), (e.toInt64 + (w19.toInt64 * (hPr wk P1 PL i - C).toInt64)), nI (i + 1))) := by
      unfold qM_home_L160
      simp (disch := omega) only [zn_lt, if_pos hi, zlj_u, zn_3m, zn_4m, nI_add, zn_cl, zq_in, h92, zn_s1, hP1, hPL, hW, hU, hS, hC, nI_1]
      rw [hlow, zb_s, hpr]
    show qM_home_L160 (nI N) wk M (nI t) (nI q) (nI s) what rc (nI (hR wk P1 PL W C u sh i).1, (hR wk P1 PL W C u sh i).2.1.toInt64, (hR wk P1 PL W C u sh i).2.2.toInt64, nI i) = rc (nI (hR wk P1 PL W C u sh (i + 1)).1, (hR wk P1 PL W C u sh (i + 1)).2.1.toInt64, (hR wk P1 PL W C u sh (i + 1)).2.2.toInt64, nI (i + 1))
    rw [← hxe, ← hce, ← hee, hd]
    have l0 : ∀ y : Int64, y + (0 : Int32).toInt64 = y := fun y => by
      show y + 0 = y
      rw [Int64.add_zero]
    have l0m : ∀ y z : Int64, y + (0 : Int32).toInt64 * z = y := fun y z => by
      show y + 0 * z = y
      rw [Int64.zero_mul, Int64.add_zero]
    by_cases hl : hLw wk P1 PL i
    · have hp := pB_t hl
      have hq' : hPr wk P1 PL i = P1 := by unfold hPr; rw [if_pos hl]
      rw [hp, if_neg z10, zb_s, if_neg z10, hq']
      by_cases ho : W < P1
      · rw [if_pos ho, zb_s, if_neg z10, if_neg Int32.lt_irrefl, zb_s, l0, l0m, hR_ln i hl ho, ← hxe, ← hce, ← hee, Int32.sub_zero]
      · have en : nI u + nI sh - nI x = nI (u + sh - x) := by rw [nI_add, pk_sub (by omega)]
        rw [if_neg ho, en, zb_s, if_neg z10, if_pos (show (0 : Int32) < nI (u + sh - x) from nI_lt (a := 0) (by omega) (by omega)), zb_s, hR_lo i hl ho, ← hxe, ← hce, ← hee, l_add b2 (nb _ (by omega)) (by omega), l_mul (nb _ (by omega)) (pc _ i1) (by omega), l_add b3 (bd_mul (nb _ (by omega)) (pc _ i1) (by omega)).1 (by omega)]
    · have hp := pB_f hl
      have hq' : hPr wk P1 PL i = PL := by unfold hPr; rw [if_neg hl]
      have hw17 : (if nI x = 0 then some 0 else (if nI x < nI u then some (nI x) else some (nI u))) = some (nI (if x < u then x else u)) := by
        by_cases d1 : x = 0
        · rw [if_pos (show nI x = 0 by rw [d1]; rfl), if_pos (by omega), d1]; rfl
        · rw [if_neg (nI_ne0 (by omega) (by omega))]
          by_cases d2 : x < u
          · rw [if_pos (nI_lt d2 (by omega)), if_pos d2]
          · rw [if_neg (nI_nlt (by omega) (by omega)), if_neg d2]
      have hmn := mn_le x u
      have e1' : nI u - nI (if x < u then x else u) = nI (u - (if x < u then x else u)) := pk_sub (by omega)
      have e2' : nI x - nI (if x < u then x else u) = nI (x - (if x < u then x else u)) := pk_sub (by omega)
      rw [hp, if_pos rfl, hw17, zb_s, if_pos rfl, hq']
      by_cases ho : W < PL
      · rw [if_pos ho, zb_s, if_pos rfl, zb_s, l0, l0m, e2', hR_dn i hl ho, ← hxe, ← hce, ← hee]
      · rw [if_neg ho, zb_s, if_pos rfl, zb_s, e2', e1', hR_do i hl ho, ← hxe, ← hce, ← hee, l_add b2 (nb _ (by omega)) (by omega), l_mul (nb _ (by omega)) (pc _ iL) (by omega), l_add b3 (bd_mul (nb _ (by omega)) (pc _ iL) (by omega)).1 (by omega)]
  · unfold qM_home_L160
    simp (disch := omega) only [zn_lt, Nat.lt_irrefl, if_false]
    by_cases c0 : what = 0
    · rw [if_pos c0, if_pos c0]
    · rw [if_neg c0, if_neg c0]
      by_cases c1 : what = 1
      · rw [if_pos c1, if_pos c1]
      · rw [if_neg c1, if_neg c1]
theorem k_home (hI : zI M) (a b c d e f : Int32) : ∃ x M1, qS_home M a b c d e f = some (x, M1) ∧ qM_home M1 a b c d e f = some x ∧ zI M1 := by
  obtain ⟨n, m, k, law, A, hI⟩ := hI
  have hn := hI.n4
  have hm := hI.m5
  have hin4 : qM_in d.toInt64 0 4095 = _ := m_in (v := d) (lo := 0) (hi := 4095) (L := 0) (H := 4095) rfl rfl
  have hin5 : qM_in e.toInt64 1 12 = _ := m_in (v := e) (lo := 1) (hi := 12) (L := 1) (H := 12) rfl rfl
  have hin6 : qM_in f.toInt64 0 2 = _ := m_in (v := f) (lo := 0) (hi := 2) (L := 0) (H := 2) rfl rfl
  unfold qS_home qM_home
  rw [zb_ok (c_noSort hI.c.m)]
  by_cases c1 : sIn 0 (nI m - 1) a
  · rw [if_pos c1, if_pos rfl, zb_ok c_noShop]
    by_cases c2 : sIn 0 1 b
    · rw [if_pos c2, if_pos rfl, zb_ok (c_noThing hI.c.n)]
      by_cases c3 : sIn 0 (nI n - 1) c
      · rw [if_pos c3, if_pos rfl]
        obtain ⟨q, hq, rfl⟩ := sIn_m (by omega) c1
        obtain ⟨s, hs, rfl⟩ := sIn_n (h := 1) (by omega) c2
        obtain ⟨t, ht, rfl⟩ := sIn_m (by omega) c3
        have hs2 : s < 2 := by omega
        have e15 : M 15 (4 * q + t) = A 10 (4 * q + t) := congrFun (show M 15 = A 10 from hI.c.c10) _
        simp (disch := omega) only [zc_m4, zn_4m, nI_add, zn_cl, zq_in]
        have mh : ∀ M' : zM, (∀ c, c ≠ 85 → M' c = M c) → zIn M' n m k law A := fun M' fr => zIn_c hI (kp_cls (fun c hc => fr c (by omega)) (trial_tails (fun z => by rw [fr 64 (by decide)]; exact z) (fun z => by rw [fr 65 (by decide)]; exact z) (fun z => by rw [fr 66 (by decide)]; exact z) (fun z => by rw [fr 67 (by decide)]; exact z) (fun z => by rw [fr 68 (by decide)]; exact z) (fun z => by rw [fr 69 (by decide)]; exact z))) (fr 78 (by decide)) (fr 80 (by decide)) (fr 81 (by decide))
        have m97 : M 97 (4 * q + t) = A 10 (4 * q + t) := congrFun hI.m.t.2.2.2.2.2.2.2.2.2.2.2.2.1 _
        by_cases c4 : A 10 (4 * q + t) = 0
        · rw [if_pos (e15.trans c4)]
          refine ⟨_, _, rfl, ?_, hI.z⟩
          rw [zb_ok (m_isSort hI.m.t.2.1), if_pos c1, if_neg z10, zb_ok m_isShop, if_pos c2, if_neg z10, zb_ok (m_isThing hI.m.t.1), if_pos c3, if_neg z10, if_pos (m97.trans c4)]
        · rw [if_neg (by rw [e15]; exact c4), zb_ok c_out]
          by_cases c5 : sIn 0 4095 d
          · rw [if_pos c5, if_pos rfl, zb_ok c_out]
            by_cases c6 : sIn 1 12 e
            · rw [if_pos c6, if_pos rfl, zb_ok c_out]
              by_cases c7 : sIn 0 2 f
              · rw [if_pos c7, if_pos rfl]
                have c60 : sIn 0 12 e := ⟨fun z => c6.1 (Int32.lt_trans z (by decide)), c6.2⟩
                obtain ⟨N, hN, rfl⟩ := sIn_n (h := 12) (by omega) c60
                obtain ⟨u, hu, hue⟩ := sIn_n (h := 3) (by omega) (hI.w.wn (4 * q + t))
                obtain ⟨sh, hsh, hse⟩ := sIn_n (h := 6) (by omega) (hI.w.sh q)
                have hu1 : 1 ≤ u := by
                  by_cases z : u = 0
                  · rw [z] at hue; exact absurd hue c4
                  · omega
                obtain ⟨k1, k2, k3⟩ := t_K hI ht
                have i1 : sIn 0 99 (A 1 (3 * t)) := hI.w.pr t 0 ht (by omega)
                have iL := lp_in hI.w ht
                have iC := hI.w.co (4 * s + t)
                have hle : A 1 (3 * t) ≤ sLp A t := up_le hI.w ht (sK A t - 1) 0 (by omega)
                have bd := hR_bd (wk := d) (W := A 11 (4 * q + t)) (P1 := A 1 (3 * t)) (PL := sLp A t) (C := A 2 (4 * s + t)) hu hsh i1 iL iC
                have hlp : qG_lastPrice (zw (zw (zw M 85 0 0) 85 1 0) 85 2 0) (nI t) = some (sLp A t) := by
                  have hh := c_lastPrice (mh (zw (zw (zw M 85 0 0) 85 1 0) 85 2 0) (fun c hc => by rw [zw_ne hc, zw_ne hc, zw_ne hc])) ht
                  exact hh
                obtain ⟨M7, g1, g2, g3, g4, g5⟩ := c_live (M := M) (q := q) (s := s) (t := t) (by omega) hs2 (by omega) hN (congrFun (show M 5 = A 1 from hI.c.c1) _) hlp (congrFun (show M 16 = A 11 from hI.c.c11) _) (e15.trans hue) ((congrFun (show M 14 = A 9 from hI.c.c9) _).trans hse) (congrFun (show M 6 = A 2 from hI.c.c2) _) hu hsh (fun i hi => (bd i hi).1)
                have hI7 := mh M7 g2
                rw [zb_ok g1, g3, g4, g5]
                have hres : ∃ x, (if f = 0 then some ((hR d (A 1 (3 * t)) (sLp A t) (A 11 (4 * q + t)) (A 2 (4 * s + t)) u sh N).2.1.toInt64, M7) else if f = 1 then some ((hR d (A 1 (3 * t)) (sLp A t) (A 11 (4 * q + t)) (A 2 (4 * s + t)) u sh N).2.2.toInt64, M7) else some ((nI (hR d (A 1 (3 * t)) (sLp A t) (A 11 (4 * q + t)) (A 2 (4 * s + t)) u sh N).1).toInt64, M7)) = some (x, M7) ∧ x = (if f = 0 then (hR d (A 1 (3 * t)) (sLp A t) (A 11 (4 * q + t)) (A 2 (4 * s + t)) u sh N).2.1.toInt64 else if f = 1 then (hR d (A 1 (3 * t)) (sLp A t) (A 11 (4 * q + t)) (A 2 (4 * s + t)) u sh N).2.2.toInt64 else (nI (hR d (A 1 (3 * t)) (sLp A t) (A 11 (4 * q + t)) (A 2 (4 * s + t)) u sh N).1).toInt64) := by
                  refine ⟨_, ?_, rfl⟩
                  by_cases z0 : f = 0
                  · rw [if_pos z0, if_pos z0]
                  · rw [if_neg z0, if_neg z0]
                    by_cases z1 : f = 1
                    · rw [if_pos z1, if_pos z1]
                    · rw [if_neg z1, if_neg z1]
                obtain ⟨x, hx1, hx2⟩ := hres
                rw [hx1]
                refine ⟨_, _, rfl, ?_, hI7.z⟩
                have t7 := hI7.m.t
                have t97 : M7 97 (4 * q + t) = A 10 (4 * q + t) := congrFun t7.2.2.2.2.2.2.2.2.2.2.2.2.1 _
                have t92 : M7 92 t = nI (sK A t) := by rw [t7.2.2.1]; exact (wf_K hI.w.wf ht).1
                rw [zb_ok (m_isSort t7.2.1), if_pos c1, if_neg z10, zb_ok m_isShop, if_pos c2, if_neg z10, zb_ok (m_isThing t7.1), if_pos c3, if_neg z10, if_neg (by rw [t97]; exact c4), zb_ok hin4, if_pos c5, if_neg z10, zb_ok hin5, if_pos c6, if_neg z10, zb_ok hin6, if_pos c7, if_neg z10]
                simp (disch := omega) only [zn_3m, zn_cl, zq_in, t92, nI_add, zn_s1]
                rw [m_weeks (q := q) (s := s) (t := t) (by omega) hs2 (by omega) hN ⟨k2, k3⟩ t92 (congrFun t7.2.2.2.1 _) (show M7 91 (3 * t + sK A t - 1) = sLp A t by rw [t7.2.2.2.1]; unfold sLp; congr 1; omega) (t7.2.2.2.2.2.2.2.2.2.2.2.2.2.1 _ c4) (t97.trans hue) ((congrFun t7.2.2.2.2.2.2.2.2.2.2.2.1 _).trans hse) (congrFun t7.2.2.2.2.1 _) ⟨hu1, hu⟩ hsh hle i1 iL iC f, hx2]
              · rw [if_neg c7, if_neg z10]
                refine ⟨_, _, rfl, ?_, hI.z⟩
                rw [zb_ok (m_isSort hI.m.t.2.1), if_pos c1, if_neg z10, zb_ok m_isShop, if_pos c2, if_neg z10, zb_ok (m_isThing hI.m.t.1), if_pos c3, if_neg z10, if_neg (by rw [m97]; exact c4), zb_ok hin4, if_pos c5, if_neg z10, zb_ok hin5, if_pos c6, if_neg z10, zb_ok hin6, if_neg c7, if_pos rfl]
            · rw [if_neg c6, if_neg z10]
              refine ⟨_, _, rfl, ?_, hI.z⟩
              rw [zb_ok (m_isSort hI.m.t.2.1), if_pos c1, if_neg z10, zb_ok m_isShop, if_pos c2, if_neg z10, zb_ok (m_isThing hI.m.t.1), if_pos c3, if_neg z10, if_neg (by rw [m97]; exact c4), zb_ok hin4, if_pos c5, if_neg z10, zb_ok hin5, if_neg c6, if_pos rfl]
          · rw [if_neg c5, if_neg z10]
            refine ⟨_, _, rfl, ?_, hI.z⟩
            rw [zb_ok (m_isSort hI.m.t.2.1), if_pos c1, if_neg z10, zb_ok m_isShop, if_pos c2, if_neg z10, zb_ok (m_isThing hI.m.t.1), if_pos c3, if_neg z10, if_neg (by rw [m97]; exact c4), zb_ok hin4, if_neg c5, if_pos rfl]
      · rw [if_neg c3, if_neg z10]
        refine ⟨_, _, rfl, ?_, hI.z⟩
        rw [zb_ok (m_isSort hI.m.t.2.1), if_pos c1, if_neg z10, zb_ok m_isShop, if_pos c2, if_neg z10, zb_ok (m_isThing hI.m.t.1), if_neg c3, if_pos rfl]
    · rw [if_neg c2, if_neg z10]
      refine ⟨_, _, rfl, ?_, hI.z⟩
      rw [zb_ok (m_isSort hI.m.t.2.1), if_pos c1, if_neg z10, zb_ok m_isShop, if_neg c2, if_pos rfl]
  · rw [if_neg c1, if_neg z10]
    refine ⟨_, _, rfl, ?_, hI.z⟩
    rw [zb_ok (m_isSort hI.m.t.2.1), if_neg c1, if_pos rfl]
end ZHome
