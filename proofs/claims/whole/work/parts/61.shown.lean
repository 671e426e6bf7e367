section ZShown
variable {M : zM} {n m k : Nat} {law : Int32} {A A' : zM} {q s t : Nat}
theorem c_bits : ∀ j, j < 16 → qJ_bitCount (nI j) = some (nI (bw_c j)) := by decide +kernel
theorem bits4 : ∀ j, j < 16 → 0 + ((nI j >>> ((0 : Int32) &&& 31)) &&& 1) + ((nI j >>> ((1 : Int32) &&& 31)) &&& 1) + ((nI j >>> ((2 : Int32) &&& 31)) &&& 1) + ((nI j >>> ((3 : Int32) &&& 31)) &&& 1) = nI (bw_c j) := by decide +kernel
theorem m_ones {j : Nat} (hj : j < 16) : qM_ones (nI j) = some (nI (bw_c j)) := by
  unfold qM_ones
  rw [← bits4 j hj]
  refine zlp_4 (s1 := (0 + ((nI j >>> ((0 : Int32) &&& 31)) &&& 1), 1)) (s2 := (0 + ((nI j >>> ((0 : Int32) &&& 31)) &&& 1) + ((nI j >>> ((1 : Int32) &&& 31)) &&& 1), 2)) (s3 := (0 + ((nI j >>> ((0 : Int32) &&& 31)) &&& 1) + ((nI j >>> ((1 : Int32) &&& 31)) &&& 1) + ((nI j >>> ((2 : Int32) &&& 31)) &&& 1), 3)) (s4 := (0 + ((nI j >>> ((0 : Int32) &&& 31)) &&& 1) + ((nI j >>> ((1 : Int32) &&& 31)) &&& 1) + ((nI j >>> ((2 : Int32) &&& 31)) &&& 1) + ((nI j >>> ((3 : Int32) &&& 31)) &&& 1), 4)) (fun rc => ?_) (fun rc => ?_) (fun rc => ?_) (fun rc => ?_) (fun rc => ?_)
  · unfold qM_ones_L4
    dsimp only
    rw [if_pos (show (0 : Int32) < 4 by decide)]
    rfl
  · unfold qM_ones_L4
    dsimp only
    rw [if_pos (show (1 : Int32) < 4 by decide)]
    rfl
  · unfold qM_ones_L4
    dsimp only
    rw [if_pos (show (2 : Int32) < 4 by decide)]
    rfl
  · unfold qM_ones_L4
    dsimp only
    rw [if_pos (show (3 : Int32) < 4 by decide)]
    rfl
  · unfold qM_ones_L4
    dsimp only
    rw [if_neg (show ¬ (4 : Int32) < 4 by decide)]
theorem two_n : ∀ n, n < 5 → (1 : Int32) <<< (nI n &&& 31) = nI (2 ^ n) ∧ 2 ^ n ≤ 16 ∧ 1 ≤ 2 ^ n := by decide +kernel
theorem ones_0 : ∀ a, a < 16 → bw_c a = 0 → a = 0 := by decide +kernel
/-- LEFT by a window -/
noncomputable def wS (A : zM) (n m s b : Nat) : Int32 := sLf (zw A 5 s (nI b)) n m s
/-- a is a better window than b -/
def wB (W : Nat → Int32) (a b : Nat) : Prop := W b < W a ∨ (W a = W b ∧ (bw_c a < bw_c b ∨ (bw_c a = bw_c b ∧ a < b)))
def wX (W : Nat → Int32) (N kk b : Nat) : Prop := (b < N ∧ bw_c b ≤ kk) ∧ ∀ a, a < N → bw_c a ≤ kk → ¬ wB W a b
theorem wB_tot {W : Nat → Int32} {a b : Nat} (h : a ≠ b) : wB W a b ∨ wB W b a := by
  unfold wB
  by_cases c1 : W b < W a
  · exact Or.inl (Or.inl c1)
  · by_cases c2 : W a < W b
    · exact Or.inr (Or.inl c2)
    · have e : W a = W b := Int32.le_antisymm (Int32.not_lt.mp c1) (Int32.not_lt.mp c2)
      rcases Nat.lt_trichotomy (bw_c a) (bw_c b) with z | z | z
      · exact Or.inl (Or.inr ⟨e, Or.inl z⟩)
      · rcases Nat.lt_trichotomy a b with y | y | y
        · exact Or.inl (Or.inr ⟨e, Or.inr ⟨z, y⟩⟩)
        · exact absurd y h
        · exact Or.inr (Or.inr ⟨e.symm, Or.inr ⟨z.symm, y⟩⟩)
      · exact Or.inr (Or.inr ⟨e.symm, Or.inl z⟩)
theorem wX_one {W : Nat → Int32} {N kk b b' : Nat} (h : wX W N kk b) (h' : wX W N kk b') : b = b' := by
  by_cases c : b = b'
  · exact c
  · rcases wB_tot (W := W) c with z | z
    · exact absurd z (h'.2 b h.1.1 h.1.2)
    · exact absurd z (h.2 b' h'.1.1 h'.1.2)
theorem c_leftWithWindow (hM : cT M n m A) (hW : sWF n m A) (hs : s < 2) (b : Int32) : ∃ M', qP_leftWithWindow M (nI s) b = some (sLf (zw A 5 s b) n m s, M') ∧ cT M' n m (zw A 5 s b) ∧ cf M M' := by
  have c1 := cT_w5 hM s b
  have hW' : sWF n m (zw A 5 s b) := hW
  obtain ⟨M1, g1, g2, g3⟩ := c_learn c1 hW'
  have c2 := cT_eT g2 c1
  obtain ⟨M3, f1, f2⟩ := c_leftOf c2 g3 hW' hs
  refine ⟨M3, ?_, cT_wk f2 c2, (cf_zw (by omega)).tr ((cf_eT g2).tr (cf_wk f2))⟩
  unfold qP_leftWithWindow
  simp (disch := omega) only [zn_cl, zq_in]
  rw [zb_ok g1, zb2_ok f1]
/-- the best of those looked at -/
def wP (W : Nat → Int32) (P : Nat → Prop) (b : Nat) : Prop := P b ∧ ∀ a, P a → ¬ wB W a b
theorem wP_eq {W : Nat → Int32} {P P' : Nat → Prop} {b : Nat} (h : wP W P b) (he : ∀ a, P' a ↔ P a) : wP W P' b := ⟨(he b).mpr h.1, fun a ha => h.2 a ((he a).mp ha)⟩
/-- one more, of more things or behind: it must have more -/
theorem wP_add {W : Nat → Int32} {P P' : Nat → Prop} {b j : Nat} (h : wP W P b) (he : ∀ a, P' a ↔ (P a ∨ a = j)) (hj : ∀ a, P a → bw_c a < bw_c j ∨ (bw_c a = bw_c j ∧ a < j)) : wP W P' (if W b < W j then j else b) := by
  by_cases c : W b < W j
  · rw [if_pos c]
    refine ⟨(he j).mpr (Or.inr rfl), fun a ha hb => ?_⟩
    rcases (he a).mp ha with z | rfl
    · have hle : ¬ W b < W a := fun q => h.2 a z (Or.inl q)
      have hlt : W a < W j := Int32.lt_of_le_of_lt (Int32.not_lt.mp hle) c
      rcases hb with y | y
      · exact Int32.lt_irrefl (Int32.lt_trans y hlt)
      · rw [y.1] at hlt
        exact Int32.lt_irrefl hlt
    · rcases hb with y | y
      · exact Int32.lt_irrefl y
      · omega
  · rw [if_neg c]
    refine ⟨(he b).mpr (Or.inl h.1), fun a ha hb => ?_⟩
    rcases (he a).mp ha with z | rfl
    · exact h.2 a z hb
    · have y := hj b h.1
      rcases hb with x | x
      · exact c x
      · omega
theorem c_windowFor (hM : cT M n m A) (hW : sWF n m A) (hs : s < 2) {kk : Nat} (hk : kk ≤ 4) : ∃ b M', qP_windowFor M (nI s) (nI kk) = some (nI b, M') ∧ wX (wS A n m s) (2 ^ n) kk b ∧ cf M M' ∧ ∃ x, cT M' n m (zw A 5 s x) := by
  have hn := hW.1
  obtain ⟨t1, t2, t3⟩ := two_n n (by omega)
  obtain ⟨M2, g1, g2, g4⟩ := c_leftWithWindow hM hW hs 0
  unfold qP_windowFor
  rw [zb2_ok g1]
  refine zlp_inv (b := qP_windowFor_L13 (nI kk) (nI s)) (I := fun i v => ∃ b, wP (wS A n m s) (fun a => a < 2 ^ n ∧ bw_c a < i + 1) b ∧ v.1 = nI b ∧ v.2.1 = wS A n m s b ∧ v.2.2.1 = nI (i + 1) ∧ cf M v.2.2.2 ∧ ∃ x, cT v.2.2.2 n m (zw A 5 s x)) kk (E := fun o => ∃ b M', o = some (nI b, M') ∧ wX (wS A n m s) (2 ^ n) kk b ∧ cf M M' ∧ ∃ x, cT M' n m (zw A 5 s x)) (zfu_gt (by omega)) (fun i hi v hv => ?_) (fun v hv => ?_) (s := (0, sLf (zw A 5 s 0) n m s, 1, M2)) ⟨0, ⟨⟨by omega, by decide⟩, (fun a ha hb => by
    have e : a = 0 := ones_0 a (by omega) (by omega)
    subst e
    rcases hb with y | y
    · exact Int32.lt_irrefl y
    · omega)⟩, rfl, rfl, rfl, g4, 0, g2⟩
  · obtain ⟨v3, v4, v5, M6⟩ := v
    obtain ⟨b, e1, e2, e3, e4, e5, x, e6⟩ := hv
    dsimp only at e2 e3 e4 e5 e6
    subst e2 e3 e4
    have inner := zlp_fam (b := fun rc => qP_windowFor_L22 (nI (i + 1)) (nI s) rc) (I := fun j v => ∃ b, wP (wS A n m s) (fun a => a < 2 ^ n ∧ (bw_c a < i + 1 ∨ (bw_c a = i + 1 ∧ a < j + 1))) b ∧ v.1 = nI b ∧ v.2.1 = wS A n m s b ∧ v.2.2.1 = nI (j + 1) ∧ cf M v.2.2.2 ∧ ∃ x, cT v.2.2.2 n m (zw A 5 s x)) (2 ^ n - 1) (F := zfu) (zfu_gt (by omega)) (e := fun rc p => rc (p.1, p.2.1, nI (i + 2), p.2.2)) (P := fun p : Int32 × Int32 × zM => ∃ b, wP (wS A n m s) (fun a => a < 2 ^ n ∧ bw_c a < i + 2) b ∧ p.1 = nI b ∧ p.2.1 = wS A n m s b ∧ cf M p.2.2 ∧ ∃ x, cT p.2.2 n m (zw A 5 s x)) (fun j hj v hv => ?_) (fun v hv => ?_) (s := (nI b, wS A n m s b, 1, M6)) ⟨b, wP_eq e1 (fun a => ⟨fun h => ⟨h.1, by
      rcases h.2 with z | z
      · exact z
      · have e : a = 0 := by omega
        subst e
        have : bw_c 0 = 0 := rfl
        omega⟩, fun h => ⟨h.1, Or.inl h.2⟩⟩), rfl, rfl, rfl, e5, x, e6⟩
    · obtain ⟨p, ⟨b', h1, h2, h3, h4, h5⟩, h6⟩ := inner
      refine ⟨(p.1, p.2.1, nI (i + 2), p.2.2), ⟨b', h1, h2, h3, rfl, h4, h5⟩, fun rc => ?_⟩
      unfold qP_windowFor_L13
      dsimp only
      rw [if_neg (show ¬ nI kk < nI (i + 1) from nI_nlt (by omega) (by omega))]
      exact h6 rc
    · obtain ⟨v3, v4, v6, M11⟩ := v
      obtain ⟨b, e1, e2, e3, e4, e5, x, e6⟩ := hv
      dsimp only at e2 e3 e4 e5 e6
      subst e2 e3 e4
      have h63 : M11 63 0 = nI n := e6.1
      have hj16 : j + 1 < 16 := by omega
      by_cases c : bw_c (j + 1) = i + 1
      · have hW' : sWF n m (zw A 5 s x) := hW
        obtain ⟨M19, f1, f2, f3⟩ := c_leftWithWindow e6 hW' hs (nI (j + 1))
        rw [zw_zw] at f1 f2
        have f1' : qP_leftWithWindow M11 (nI s) (nI (j + 1)) = some (wS A n m s (j + 1), M19) := f1
        have hp := wP_add (j := j + 1) (P' := fun a => a < 2 ^ n ∧ (bw_c a < i + 1 ∨ (bw_c a = i + 1 ∧ a < j + 1 + 1))) e1 (fun a => ⟨fun h => by
          by_cases z : a = j + 1
          · exact Or.inr z
          · refine Or.inl ⟨h.1, ?_⟩
            rcases h.2 with y | y
            · exact Or.inl y
            · exact Or.inr ⟨y.1, by omega⟩, fun h => by
          rcases h with z | rfl
          · refine ⟨z.1, ?_⟩
            rcases z.2 with y | y
            · exact Or.inl y
            · exact Or.inr ⟨y.1, by omega⟩
          · exact ⟨by omega, Or.inr ⟨c, by omega⟩⟩⟩) (fun a ha => by
          rcases ha.2 with y | y
          · exact Or.inl (by omega)
          · exact Or.inr ⟨by omega, y.2⟩)
        have hd : ∀ g rc, qP_windowFor_L22 (nI (i + 1)) (nI s) g rc (nI b, wS A n m s b, nI (j + 1), M11) = if wS A n m s b < wS A n m s (j + 1) then rc (nI (j + 1), wS A n m s (j + 1), nI (j + 2), M19) else rc (nI b, wS A n m s b, nI (j + 2), M19) := fun g rc => by
          unfold qP_windowFor_L22
          simp only [h63, t1]
          rw [if_pos (show nI (j + 1) < nI (2 ^ n) from nI_lt (by omega) (by omega)), zb_ok (c_bits (j + 1) hj16), c, if_pos rfl, zb2_ok f1', zb2_s, nI_1]
        by_cases c2 : wS A n m s b < wS A n m s (j + 1)
        · rw [if_pos c2] at hp
          exact ⟨(nI (j + 1), wS A n m s (j + 1), nI (j + 2), M19), ⟨j + 1, hp, rfl, rfl, rfl, e5.tr f3, _, f2⟩, fun g rc => by rw [hd g rc, if_pos c2]⟩
        · rw [if_neg c2] at hp
          exact ⟨(nI b, wS A n m s b, nI (j + 2), M19), ⟨b, hp, rfl, rfl, rfl, e5.tr f3, _, f2⟩, fun g rc => by rw [hd g rc, if_neg c2]⟩
      · refine ⟨(nI b, wS A n m s b, nI (j + 2), M11), ⟨b, wP_eq e1 (fun a => ⟨fun h => ⟨h.1, ?_⟩, fun h => ⟨h.1, ?_⟩⟩), rfl, rfl, rfl, e5, x, e6⟩, fun g rc => ?_⟩
        · rcases h.2 with y | y
          · exact Or.inl y
          · refine Or.inr ⟨y.1, ?_⟩
            by_cases z : a = j + 1
            · subst z; exact absurd y.1 c
            · omega
        · rcases h.2 with y | y
          · exact Or.inl y
          · exact Or.inr ⟨y.1, by omega⟩
        · have h5 := bw_5 (j + 1) hj16
          unfold qP_windowFor_L22
          simp only [h63, t1]
          rw [if_pos (show nI (j + 1) < nI (2 ^ n) from nI_lt (by omega) (by omega)), zb_ok (c_bits (j + 1) hj16), if_neg (show ¬ nI (bw_c (j + 1)) = nI (i + 1) from fun h => c ((nI_eq (by omega) (by omega)).mp h)), zb2_s, if_neg Int32.lt_irrefl, nI_1]
    · obtain ⟨v3, v4, v6, M11⟩ := v
      obtain ⟨b, e1, e2, e3, e4, e5, x, e6⟩ := hv
      dsimp only at e2 e3 e4 e5 e6
      subst e2 e3 e4
      have h63 : M11 63 0 = nI n := e6.1
      refine ⟨(nI b, wS A n m s b, M11), ⟨b, wP_eq e1 (fun a => ⟨fun h => ⟨h.1, ?_⟩, fun h => ⟨h.1, ?_⟩⟩), rfl, rfl, e5, x, e6⟩, fun g rc => ?_⟩
      · by_cases z : bw_c a < i + 1
        · exact Or.inl z
        · exact Or.inr ⟨by omega, by omega⟩
      · rcases h.2 with y | y
        · omega
        · omega
      · unfold qP_windowFor_L22
        simp only [h63, t1]
        rw [show 2 ^ n - 1 + 1 = 2 ^ n by omega, if_neg (show ¬ nI (2 ^ n) < nI (2 ^ n) from Int32.lt_irrefl), nI_1]
  · obtain ⟨v3, v4, v5, M6⟩ := v
    obtain ⟨b, e1, e2, e3, e4, e5, x, e6⟩ := hv
    dsimp only at e2 e3 e4 e5 e6
    subst e2 e3 e4
    refine ⟨some (nI b, M6), ⟨b, M6, rfl, ⟨⟨e1.1.1, by have := e1.1.2; omega⟩, fun a h1 h2 => e1.2 a ⟨h1, by omega⟩⟩, e5, x, e6⟩, fun rc => ?_⟩
    unfold qP_windowFor_L13
    dsimp only
    rw [if_pos (show nI kk < nI (kk + 1) from nI_lt (by omega) (by omega))]
theorem m_shown (hM : mT M n m A) (hW : sWF n m A) (hs : s < 2) {kk : Nat} (hk : kk ≤ 4) : ∃ b, qM_shown M (nI s) (nI kk) = some (nI b, M) ∧ wX (wS A n m s) (2 ^ n) kk b := by
  have hn := hW.1
  obtain ⟨t1, t2, t3⟩ := two_n n (by omega)
  have hin : qM_in (nI kk).toInt64 0 4 = _ := m_in (v := nI kk) (lo := 0) (hi := 4) (L := 0) (H := 4) rfl rfl
  unfold qM_shown
  rw [zb_ok m_isShop, if_pos (show sIn 0 1 (nI s) from sIn_t (h := 2) (by omega) hs), if_neg z10, zb_ok hin, if_pos (show sIn 0 4 (nI kk) from in_n (h := 4) (by omega) hk), if_neg z10]
  simp (disch := omega) only [zq_in]
  refine zlp_inv (b := qM_shown_L41 (nI kk) (nI s) M) (I := fun i v => v.2.2.1 = nI i ∧ (∃ x, v.2.2.2 = zw M 90 s x) ∧ (i = 0 → v.1 = -6) ∧ (1 ≤ i → ∃ b, v.1 = nI b ∧ v.2.1 = wS A n m s b ∧ wP (wS A n m s) (fun a => a < i ∧ bw_c a ≤ kk) b)) (2 ^ n) (E := fun o => ∃ b, o = some (nI b, M) ∧ wX (wS A n m s) (2 ^ n) kk b) (zfu_gt (by omega)) (fun i hi v hv => ?_) (fun v hv => ?_) (s := (-6, 0, 0, M)) ⟨rfl, ⟨M 90 s, (zw_id M 90 s).symm⟩, fun _ => rfl, fun h => by omega⟩
  · obtain ⟨v4, v5, v6, M6⟩ := v
    obtain ⟨e1, ⟨x, e2⟩, e3, e4⟩ := hv
    dsimp only at e1 e2 e3 e4
    subst e1 e2
    have hi16 : i < 16 := by omega
    have m8 := mT_w5 hM s (nI i)
    have f1 : qM_leftOf (zw M 90 s (nI i)) (nI s) = some (wS A n m s i) := m_leftOf m8 hW hs
    have h6 : (zw M 90 s x) 86 6 = nI n := by rw [zw_ne (by decide)]; exact hM.1
    have h5 := bw_5 i hi16
    by_cases c : kk < bw_c i
    · have ci : i ≠ 0 := fun z => by rw [z] at c; have : bw_c 0 = 0 := rfl; omega
      obtain ⟨b, b1, b2, b3⟩ := e4 (by omega)
      refine ⟨(v4, v5, nI (i + 1), zw M 90 s x), ⟨rfl, ⟨x, rfl⟩, (fun h => by omega), fun _ => ⟨b, b1, b2, wP_eq b3 (fun a => ⟨fun h => ⟨?_, h.2⟩, fun h => ⟨by omega, h.2⟩⟩)⟩⟩, fun rc => ?_⟩
      · by_cases z : a = i
        · rw [z] at h; omega
        · omega
      · unfold qM_shown_L41
        simp only [h6, t1]
        rw [if_pos (show nI i < nI (2 ^ n) from nI_lt hi (by omega)), zb_ok (m_ones hi16), if_pos (show nI kk < nI (bw_c i) from nI_lt c (by omega)), nI_1]
    · have hd : ∀ rc, qM_shown_L41 (nI kk) (nI s) M rc (v4, v5, nI i, zw M 90 s x) = (if v4 < 0 then (rc (nI i, wS A n m s i, nI (i + 1), zw M 90 s (nI i))) else (if v5 < wS A n m s i then (rc (nI i, wS A n m s i, nI (i + 1), zw M 90 s (nI i))) else (if wS A n m s i = v5 then (zb (qM_ones (nI i)) fun x10 => zb (qM_ones v4) fun x11 => if x10 < x11 then (rc (nI i, wS A n m s i, nI (i + 1), zw M 90 s (nI i))) else (rc (v4, v5, nI (i + 1), zw M 90 s (nI i)))) else (rc (v4, v5, nI (i + 1), zw M 90 s (nI i)))))) := fun rc => by
        unfold qM_shown_L41
        simp only [h6, t1]
        rw [if_pos (show nI i < nI (2 ^ n) from nI_lt hi (by omega)), zb_ok (m_ones hi16), if_neg (show ¬ nI kk < nI (bw_c i) from nI_nlt (by omega) (by omega))]
        simp (disch := omega) only [zq_in, zn_cl, zw_zw, nI_1]
        rw [zb_ok f1]
      by_cases c0 : i = 0
      · subst c0
        have e := e3 rfl
        subst e
        refine ⟨(nI 0, wS A n m s 0, nI 1, zw M 90 s (nI 0)), ⟨rfl, ⟨_, rfl⟩, (fun h => by omega), fun _ => ⟨0, rfl, rfl, ⟨by omega, Nat.zero_le kk⟩, fun a ha hb => ?_⟩⟩, fun rc => by rw [hd rc, if_pos (show (-6 : Int32) < 0 by decide)]⟩
        have e : a = 0 := by omega
        subst e
        rcases hb with y | y
        · exact Int32.lt_irrefl y
        · omega
      · obtain ⟨b, b1, b2, b3⟩ := e4 (by omega)
        subst b1 b2
        have hb16 : b < 16 := by have := b3.1.1; omega
        have hbi : b < i := b3.1.1
        have h5b := bw_5 b hb16
        have hnn : ¬ nI b < 0 := nI_nn b (by omega)
        have hP : ∀ a, (a < i + 1 ∧ bw_c a ≤ kk) ↔ ((a < i ∧ bw_c a ≤ kk) ∨ a = i) := fun a => ⟨fun h => by
          by_cases z : a = i
          · exact Or.inr z
          · exact Or.inl ⟨by omega, h.2⟩, fun h => by
          rcases h with z | rfl
          · exact ⟨by omega, z.2⟩
          · exact ⟨by omega, by omega⟩⟩
        have up : wB (wS A n m s) i b → wP (wS A n m s) (fun a => a < i + 1 ∧ bw_c a ≤ kk) i := fun hb => by
          refine ⟨(hP i).mpr (Or.inr rfl), fun a ha hab => ?_⟩
          rcases (hP a).mp ha with z | rfl
          · have nb := b3.2 a z
            by_cases y : a = b
            · subst y
              unfold wB at hab hb
              rcases hab with p | p
              · rcases hb with q | q
                · exact Int32.lt_irrefl (Int32.lt_trans p q)
                · rw [q.1] at p; exact Int32.lt_irrefl p
              · rcases hb with q | q
                · rw [p.1] at q; exact Int32.lt_irrefl q
                · omega
            · have ba := (wB_tot (W := wS A n m s) y).resolve_left nb
              unfold wB at hab hb ba
              rcases hab with p | p <;> rcases hb with q | q <;> rcases ba with r | r
              · exact Int32.lt_irrefl (Int32.lt_trans (Int32.lt_trans p r) q)
              · rw [← r.1] at p; exact Int32.lt_irrefl (Int32.lt_trans p q)
              · rw [q.1] at p; exact Int32.lt_irrefl (Int32.lt_trans p r)
              · rw [q.1, r.1] at p; exact Int32.lt_irrefl p
              · rw [p.1] at r; exact Int32.lt_irrefl (Int32.lt_trans r q)
              · rw [← p.1, ← r.1] at q; exact Int32.lt_irrefl q
              · rw [p.1, q.1] at r; exact Int32.lt_irrefl r
              · omega
          · rcases hab with y | y
            · exact Int32.lt_irrefl y
            · omega
        have stay : ¬ wB (wS A n m s) i b → wP (wS A n m s) (fun a => a < i + 1 ∧ bw_c a ≤ kk) b := fun hb => by
          refine ⟨(hP b).mpr (Or.inl b3.1), fun a ha => ?_⟩
          rcases (hP a).mp ha with z | rfl
          · exact b3.2 a z
          · exact hb
        have goU : wB (wS A n m s) i b → (∀ rc, qM_shown_L41 (nI kk) (nI s) M rc (nI b, wS A n m s b, nI i, zw M 90 s x) = rc (nI i, wS A n m s i, nI (i + 1), zw M 90 s (nI i))) → ∃ s', (s'.2.2.1 = nI (i + 1) ∧ (∃ x, s'.2.2.2 = zw M 90 s x) ∧ (i + 1 = 0 → s'.1 = -6) ∧ (1 ≤ i + 1 → ∃ b, s'.1 = nI b ∧ s'.2.1 = wS A n m s b ∧ wP (wS A n m s) (fun a => a < i + 1 ∧ bw_c a ≤ kk) b)) ∧ ∀ rc, qM_shown_L41 (nI kk) (nI s) M rc (nI b, wS A n m s b, nI i, zw M 90 s x) = rc s' := fun hb hr => ⟨_, ⟨rfl, ⟨_, rfl⟩, (fun h => by omega), fun _ => ⟨i, rfl, rfl, up hb⟩⟩, hr⟩
        have goS : ¬ wB (wS A n m s) i b → (∀ rc, qM_shown_L41 (nI kk) (nI s) M rc (nI b, wS A n m s b, nI i, zw M 90 s x) = rc (nI b, wS A n m s b, nI (i + 1), zw M 90 s (nI i))) → ∃ s', (s'.2.2.1 = nI (i + 1) ∧ (∃ x, s'.2.2.2 = zw M 90 s x) ∧ (i + 1 = 0 → s'.1 = -6) ∧ (1 ≤ i + 1 → ∃ b, s'.1 = nI b ∧ s'.2.1 = wS A n m s b ∧ wP (wS A n m s) (fun a => a < i + 1 ∧ bw_c a ≤ kk) b)) ∧ ∀ rc, qM_shown_L41 (nI kk) (nI s) M rc (nI b, wS A n m s b, nI i, zw M 90 s x) = rc s' := fun hb hr => ⟨_, ⟨rfl, ⟨_, rfl⟩, (fun h => by omega), fun _ => ⟨b, rfl, rfl, stay hb⟩⟩, hr⟩
        by_cases d1 : wS A n m s b < wS A n m s i
        · exact goU (Or.inl d1) (fun rc => by rw [hd rc, if_neg hnn, if_pos d1])
        · by_cases d2 : wS A n m s i = wS A n m s b
          · by_cases d3 : bw_c i < bw_c b
            · exact goU (Or.inr ⟨d2, Or.inl d3⟩) (fun rc => by rw [hd rc, if_neg hnn, if_neg d1, if_pos d2, zb_ok (m_ones hi16), zb_ok (m_ones hb16), if_pos (show nI (bw_c i) < nI (bw_c b) from nI_lt d3 (by omega))])
            · exact goS (fun hb => by
                rcases hb with y | y
                · exact d1 y
                · omega) (fun rc => by rw [hd rc, if_neg hnn, if_neg d1, if_pos d2, zb_ok (m_ones hi16), zb_ok (m_ones hb16), if_neg (show ¬ nI (bw_c i) < nI (bw_c b) from nI_nlt (by omega) (by omega))])
          · exact goS (fun hb => by
              rcases hb with y | y
              · exact d1 y
              · exact d2 y.1) (fun rc => by rw [hd rc, if_neg hnn, if_neg d1, if_neg d2])
  · obtain ⟨v4, v5, v6, M6⟩ := v
    obtain ⟨e1, ⟨x, e2⟩, e3, e4⟩ := hv
    dsimp only at e1 e2 e3 e4
    subst e1 e2
    obtain ⟨b, b1, b2, b3⟩ := e4 (by omega)
    subst b1 b2
    have h6 : (zw M 90 s x) 86 6 = nI n := by rw [zw_ne (by decide)]; exact hM.1
    refine ⟨some (nI b, M), ⟨b, rfl, b3.1, fun a h1 h2 => b3.2 a ⟨h1, h2⟩⟩, fun rc => ?_⟩
    unfold qM_shown_L41
    simp only [h6, t1]
    rw [if_neg Int32.lt_irrefl]
    simp (disch := omega) only [zq_in, zn_cl]
    rw [zw_back]
theorem k_shown (hI : zI M) (u v : Int32) : ∃ x M1 M2, qS_shown M u v = some (x, M1) ∧ qM_shown M1 u v = some (x, M2) ∧ zI M2 := by
  obtain ⟨n, m, k, law, A, hI⟩ := hI
  have hn := hI.n4
  have hin : qM_in v.toInt64 0 4 = _ := m_in (v := v) (lo := 0) (hi := 4) (L := 0) (H := 4) rfl rfl
  unfold qS_shown
  rw [zb_ok c_noShop]
  by_cases c : sIn 0 1 u
  · rw [if_pos c, if_pos rfl, zb_ok c_out]
    by_cases c2 : sIn 0 4 v
    · rw [if_pos c2, if_pos rfl]
      obtain ⟨s, hs, rfl⟩ := sIn_n (h := 1) (by omega) c
      obtain ⟨kk, hk, rfl⟩ := sIn_n (h := 4) (by omega) c2
      have hs2 : s < 2 := by omega
      obtain ⟨M1, g1, g2, g3, g4, g5⟩ := c_look hI
      obtain ⟨b, M5, f1, f2, f3, x, f4⟩ := c_windowFor g3 hI.w.wf hs2 hk
      rw [zb_ok g1, zb2_ok f1]
      have hI5 : zIn M5 n m k law A := zIn_t hI ((cf_look g2).tr f3) f4 (az_w5 (az_of hI) (by omega) x)
      obtain ⟨b', h1, h2⟩ := m_shown hI5.m.t hI5.w.wf hs2 hk
      have e := wX_one f2 h2
      subst e
      exact ⟨_, _, M5, rfl, h1, hI5.z⟩
    · rw [if_neg c2, if_neg z10]
      refine ⟨_, _, _, rfl, ?_, hI.z⟩
      unfold qM_shown
      rw [zb_ok m_isShop, if_pos c, if_neg z10, zb_ok hin, if_neg c2, if_pos rfl]
  · rw [if_neg c, if_neg z10]
    refine ⟨_, _, _, rfl, ?_, hI.z⟩
    unfold qM_shown
    rw [zb_ok m_isShop, if_neg c, if_pos rfl]
end ZShown
