section ZCalls11
variable {M : zM} {n m k : Nat} {law : Int32} {A : zM} {q s t : Nat}
theorem zn_p2 (a : Nat) : nI a + 2 = nI (a + 2) := nI_add a 2
theorem zn_p3 (a : Nat) : nI a + 3 = nI (a + 3) := nI_add a 3
theorem mT_w10z (h : mT M n m A) (j : Nat) : mT (zw M 97 j 0) n m (zw A 10 j 0) := by
  obtain ⟨h1, h2, h3, h4, h5, h6, h7, h8, h9, h10, h11, h12, h13, h14, h15⟩ := h
  have hz : ∀ i, (zw A 10 j 0) 10 i ≠ 0 → A 10 i ≠ 0 := fun i hi => by
    by_cases c : i = j
    · subst c
      exact absurd (zw_same A 10 i 0) hi
    · rw [zw_other c] at hi
      exact hi
  refine ⟨h1, h2, h3, h4, h5, h6, h7, h8, h9, h10, h11, h12, ?_, fun i hi => h14 i (hz i hi), fun i hi => h15 i (hz i hi)⟩
  rw [zw_at, zw_at, h13]
theorem mO_w10z (h : mO M n m k law A) (j : Nat) : mO (zw M 97 j 0) n m k law (zw A 10 j 0) := ⟨mT_w10z h.t j, h.l, h.k, h.c13⟩
def nS (A : zM) (m : Nat) (a f o w : Int32) : zM := zw (zw (zw (zw (zw (zw (zw (zw (zw A 6 m a) 7 (2 * m) f) 7 (2 * m + 1) o) 8 m w) 9 m 0) 10 (4 * m) 0) 10 (4 * m + 1) 0) 10 (4 * m + 2) 0) 10 (4 * m + 3) 0
def cS (M : zM) (m : Nat) (a f o w : Int32) : zM := zw (zw (zw (zw (zw (zw (zw (zw (zw (zw (zw M 78 6 0) 11 m a) 12 (2 * m) f) 12 (2 * m + 1) o) 13 m w) 14 m 0) 15 (4 * m) 0) 15 (4 * m + 1) 0) 15 (4 * m + 2) 0) 15 (4 * m + 3) 0) 10 0 (nI (m + 1))
def mS (M : zM) (m : Nat) (a f o w : Int32) : zM := zw (zw (zw (zw (zw (zw (zw (zw (zw (zw M 93 m a) 94 (2 * m) f) 94 (2 * m + 1) o) 95 m w) 96 m 0) 97 (4 * m) 0) 97 (4 * m + 1) 0) 97 (4 * m + 2) 0) 97 (4 * m + 3) 0) 86 14 (nI (m + 1))
theorem c_addSort (hm : M 10 0 = nI m) (h5 : m < 5) (a f o w : Int32) : zb (qD_forget M) (fun M5 => zb2 (qE_addSort M5 a f o w) fun x6 M7 => some (x6, M7)) = some (nI m, cS M m a f o w) := by
  have e : (zw M 78 6 0) 10 0 = nI m := by rw [zw_ne (by decide)]; exact hm
  unfold qD_forget
  rw [zb_s]
  unfold qE_addSort
  rw [e]
  simp (disch := omega) only [zn_cl, zq_in, zc_m2, nI_1]
  have key : zlp (qE_addSort_L56 (zw M 78 6 0)) zfu (0, zw (zw (zw (zw (zw (zw M 78 6 0) 11 m a) 12 (2 * m) f) 12 (2 * m + 1) o) 13 m w) 14 m 0) = some (nI m, cS M m a f o w) := by
    refine zlp_4 (s1 := (1, zw (zw (zw (zw (zw (zw (zw M 78 6 0) 11 m a) 12 (2 * m) f) 12 (2 * m + 1) o) 13 m w) 14 m 0) 15 (4 * m) 0)) (s2 := (2, zw (zw (zw (zw (zw (zw (zw (zw M 78 6 0) 11 m a) 12 (2 * m) f) 12 (2 * m + 1) o) 13 m w) 14 m 0) 15 (4 * m) 0) 15 (4 * m + 1) 0)) (s3 := (3, zw (zw (zw (zw (zw (zw (zw (zw (zw M 78 6 0) 11 m a) 12 (2 * m) f) 12 (2 * m + 1) o) 13 m w) 14 m 0) 15 (4 * m) 0) 15 (4 * m + 1) 0) 15 (4 * m + 2) 0)) (s4 := (4, zw (zw (zw (zw (zw (zw (zw (zw (zw (zw M 78 6 0) 11 m a) 12 (2 * m) f) 12 (2 * m + 1) o) 13 m w) 14 m 0) 15 (4 * m) 0) 15 (4 * m + 1) 0) 15 (4 * m + 2) 0) 15 (4 * m + 3) 0)) (fun rc => ?_) (fun rc => ?_) (fun rc => ?_) (fun rc => ?_) (fun rc => ?_)
    · unfold qE_addSort_L56
      rw [e]
      simp only [if_pos (show (0 : Int32) < 4 by decide), zc_m4, Int32.add_zero]
      simp (disch := omega) only [zn_cl, zq_in]
      rfl
    · unfold qE_addSort_L56
      rw [e]
      simp only [if_pos (show (1 : Int32) < 4 by decide), zc_m4, nI_1]
      simp (disch := omega) only [zn_cl, zq_in]
      rfl
    · unfold qE_addSort_L56
      rw [e]
      simp only [if_pos (show (2 : Int32) < 4 by decide), zc_m4, zn_p2]
      simp (disch := omega) only [zn_cl, zq_in]
      rfl
    · unfold qE_addSort_L56
      rw [e]
      simp only [if_pos (show (3 : Int32) < 4 by decide), zc_m4, zn_p3]
      simp (disch := omega) only [zn_cl, zq_in]
      rfl
    · unfold qE_addSort_L56
      rw [e]
      simp only [if_neg (show ¬ (4 : Int32) < 4 by decide)]
      have e2 : (zw (zw (zw (zw (zw (zw (zw (zw (zw (zw M 78 6 0) 11 m a) 12 (2 * m) f) 12 (2 * m + 1) o) 13 m w) 14 m 0) 15 (4 * m) 0) 15 (4 * m + 1) 0) 15 (4 * m + 2) 0) 15 (4 * m + 3) 0) 10 0 = nI m := by
        rw [zw_ne (by decide), zw_ne (by decide), zw_ne (by decide), zw_ne (by decide), zw_ne (by decide), zw_ne (by decide), zw_ne (by decide), zw_ne (by decide), zw_ne (by decide)]
        exact e
      rw [e2, nI_1]
      rfl
  rw [key]
  rfl
theorem m_clearList (hq : q < 5) : qM_clearList M (nI q) = some (zw (zw (zw (zw M 97 (4 * q) 0) 97 (4 * q + 1) 0) 97 (4 * q + 2) 0) 97 (4 * q + 3) 0) := by
  unfold qM_clearList
  refine zlp_4 (s1 := (1, zw M 97 (4 * q) 0)) (s2 := (2, zw (zw M 97 (4 * q) 0) 97 (4 * q + 1) 0)) (s3 := (3, zw (zw (zw M 97 (4 * q) 0) 97 (4 * q + 1) 0) 97 (4 * q + 2) 0)) (s4 := (4, zw (zw (zw (zw M 97 (4 * q) 0) 97 (4 * q + 1) 0) 97 (4 * q + 2) 0) 97 (4 * q + 3) 0)) (fun rc => ?_) (fun rc => ?_) (fun rc => ?_) (fun rc => ?_) (fun rc => ?_)
  · unfold qM_clearList_L2
    simp only [if_pos (show (0 : Int32) < 4 by decide), zn_4m, Int32.add_zero]
    simp (disch := omega) only [zn_cl, zq_in]
    rfl
  · unfold qM_clearList_L2
    simp only [if_pos (show (1 : Int32) < 4 by decide), zn_4m, nI_1]
    simp (disch := omega) only [zn_cl, zq_in]
    rfl
  · unfold qM_clearList_L2
    simp only [if_pos (show (2 : Int32) < 4 by decide), zn_4m, zn_p2]
    simp (disch := omega) only [zn_cl, zq_in]
    rfl
  · unfold qM_clearList_L2
    simp only [if_pos (show (3 : Int32) < 4 by decide), zn_4m, zn_p3]
    simp (disch := omega) only [zn_cl, zq_in]
    rfl
  · unfold qM_clearList_L2
    simp only [if_neg (show ¬ (4 : Int32) < 4 by decide)]
theorem wF_sort (w : wF n m k law A) (h5 : m < 5) {a f o v : Int32} (ha : sIn 1 99 a) (hf : sIn 0 99 f) (ho : sIn 0 99 o) (hv : sIn 0 2 v) : wF n (m + 1) k law (nS A m a f o v) := by
  have hW := w.wf
  have ha' : sIn 0 99 a := ⟨fun h => ha.1 (Int32.lt_trans h (by decide)), ha.2⟩
  have z0 : ∀ j, nS A m a f o v 10 j = 0 ∨ nS A m a f o v 10 j = A 10 j := fun j => by
    show upd (upd (upd (upd (A 10) (4 * m) 0) (4 * m + 1) 0) (4 * m + 2) 0) (4 * m + 3) 0 j = 0 ∨ upd (upd (upd (upd (A 10) (4 * m) 0) (4 * m + 1) 0) (4 * m + 2) 0) (4 * m + 3) 0 j = A 10 j
    by_cases c3 : j = 4 * m + 3
    · rw [c3, pk_us]; exact Or.inl rfl
    · rw [pk_un c3]
      by_cases c2 : j = 4 * m + 2
      · rw [c2, pk_us]; exact Or.inl rfl
      · rw [pk_un c2]
        by_cases c1 : j = 4 * m + 1
        · rw [c1, pk_us]; exact Or.inl rfl
        · rw [pk_un c1]
          by_cases c0 : j = 4 * m
          · rw [c0, pk_us]; exact Or.inl rfl
          · rw [pk_un c0]; exact Or.inr rfl
  have z1 : ∀ j, nS A m a f o v 10 j ≠ 0 → A 10 j ≠ 0 := fun j h => by
    rcases z0 j with z | z
    · exact absurd z h
    · rw [← z]; exact h
  refine ⟨⟨hW.1, by omega, hW.2.2.1, hW.2.2.2.1, fun j hj h => hW.2.2.2.2.1 j hj (z1 j h), fun j hj => ?_⟩, w.k30, w.law01, w.pr, w.up, w.co, w.he, w.wi, ?_, ?_, ?_, ?_, fun j => ?_, fun j h => w.wo j (z1 j h), fun j h => w.gu j (z1 j h), w.sl⟩
  · rcases z0 j with z | z
    · rw [z]; decide
    · rw [z]; exact hW.2.2.2.2.2 j hj
  · exact sIn_upd w.ma ha'
  · exact sIn_upd (sIn_upd w.fa hf) ho
  · exact sIn_upd w.wa hv
  · exact sIn_upd w.sh ⟨by decide, by decide⟩
  · rcases z0 j with z | z
    · rw [z]; exact ⟨by decide, by decide⟩
    · rw [z]; exact w.wn j
theorem k_sort (hI : zI M) (a f o v : Int32) : ∃ x M1 M2, qS_sort M a f o v = some (x, M1) ∧ qM_sort M1 a f o v = some (x, M2) ∧ zI M2 := by
  obtain ⟨n, m, k, law, A, hI⟩ := hI
  have hm := hI.m5
  have cm : M 10 0 = nI m := hI.c.m
  have mm := hI.m.t.2.1
  have hina : qM_in a.toInt64 1 99 = _ := m_in (v := a) (lo := 1) (hi := 99) (L := 1) (H := 99) rfl rfl
  have hinv : qM_in v.toInt64 0 2 = _ := m_in (v := v) (lo := 0) (hi := 2) (L := 0) (H := 2) rfl rfl
  unfold qS_sort
  rw [zb_ok c_out]
  by_cases ha : sIn 1 99 a
  · rw [if_pos ha, if_pos rfl, zb_ok c_out]
    by_cases hf : sIn 0 99 f
    · rw [if_pos hf, if_pos rfl, zb_ok c_out]
      by_cases ho : sIn 0 99 o
      · rw [if_pos ho, if_pos rfl, zb_ok c_out]
        by_cases hv : sIn 0 2 v
        · rw [if_pos hv, if_pos rfl, cm]
          by_cases h5 : m < 5
          · rw [if_pos (show nI m < 5 from nI_lt (b := 5) h5 (by omega)), c_addSort cm h5]
            have fc : ∀ c, ¬ (10 ≤ c ∧ c ≤ 15) → c ≠ 78 → cS M m a f o v c = M c := fun c h1 h2 => by
              unfold cS
              rw [zw_ne (by omega), zw_ne (by omega), zw_ne (by omega), zw_ne (by omega), zw_ne (by omega), zw_ne (by omega), zw_ne (by omega), zw_ne (by omega), zw_ne (by omega), zw_ne (by omega), zw_ne (by omega)]
            have fm : ∀ c, c ≠ 86 → ¬ (93 ≤ c ∧ c ≤ 97) → mS (cS M m a f o v) m a f o v c = cS M m a f o v c := fun c h0 h1 => by
              unfold mS
              rw [zw_ne (by omega), zw_ne (by omega), zw_ne (by omega), zw_ne (by omega), zw_ne (by omega), zw_ne (by omega), zw_ne (by omega), zw_ne (by omega), zw_ne (by omega), zw_ne (by omega)]
            refine ⟨_, _, mS (cS M m a f o v) m a f o v, rfl, ?_, (zIn_up (m' := m + 1) (A' := nS A m a f o v) hI (wF_sort hI.w h5 ha hf ho hv) ?_ ?_ ?_ (fun c hc => ?_) ?_ (Or.inl ?_)).z⟩
            · unfold qM_sort
              have e : cS M m a f o v 86 14 = nI m := by rw [fc 86 (by omega) (by omega)]; exact mm
              rw [zb_ok hina, if_pos ha, if_neg z10, zb_ok m_isPrice, if_pos hf, if_neg z10, zb_ok m_isPrice, if_pos ho, if_neg z10, zb_ok hinv, if_pos hv, if_neg z10, e, if_neg (show ¬ nI m = 5 from fun h => absurd ((nI_eq (b := 5) (by omega) (by omega)).mp h) (by omega))]
              simp (disch := omega) only [zn_cl, zq_in, zn_2m, nI_1]
              rw [zb_ok (m_clearList h5)]
              have e2 : (zw (zw (zw (zw (zw (zw (zw (zw (zw (cS M m a f o v) 93 m a) 94 (2 * m) f) 94 (2 * m + 1) o) 95 m v) 96 m 0) 97 (4 * m) 0) 97 (4 * m + 1) 0) 97 (4 * m + 2) 0) 97 (4 * m + 3) 0) 86 14 = nI m := by
                rw [zw_ne (by decide), zw_ne (by decide), zw_ne (by decide), zw_ne (by decide), zw_ne (by decide), zw_ne (by decide), zw_ne (by decide), zw_ne (by decide), zw_ne (by decide)]
                exact e
              rw [zw_same, e2, nI_1, nI_pred]
              rfl
            · refine tO_eq (fun c a b => fm c (by omega) (by omega)) ?_
              exact tO_wm (tO_w10 (tO_w10 (tO_w10 (tO_w10 (tO_w9 (tO_w8 (tO_w7 (tO_w7 (tO_w6 (tO_eq (fun c a b => zw_ne (by omega)) hI.c) m a) (2 * m) f) (2 * m + 1) o) m v) m 0) (4 * m) 0) (4 * m + 1) 0) (4 * m + 2) 0) (4 * m + 3) 0) rfl
            · exact mO_wm (mO_w10z (mO_w10z (mO_w10z (mO_w10z (mO_w9 (mO_w8 (mO_w7 (mO_w7 (mO_w6 (mO_eq (fun c hc => fc c (by omega) (by omega)) hI.m) m a) (2 * m) f) (2 * m + 1) o) m v) m 0) (4 * m)) (4 * m + 1)) (4 * m + 2)) (4 * m + 3)) rfl
            · intro c L hc h19
              rw [fm c (by omega) (by omega)]
              exact (tt_n (tt_w (tt_w (tt_w (tt_w (tt_w (tt_w (tt_w (tt_w (tt_w (tt_n hI.t (by decide)) (L := 5) (by decide) h5 (by decide)) (L := 10) (by decide) (by omega) (by decide)) (L := 10) (by decide) (by omega) (by decide)) (L := 5) (by decide) h5 (by decide)) (L := 5) (by decide) h5 (by decide)) (L := 20) (by decide) (by omega) (by decide)) (L := 20) (by decide) (by omega) (by decide)) (L := 20) (by decide) (by omega) (by decide)) (L := 20) (by decide) (by omega) (by decide)) (by decide)) (c, L) hc
            · rw [fm c (by omega) (by omega), fc c (by omega) (by omega)]
            · show (zw _ 86 14 _) 86 16 = _
              rw [zw_other (by decide), zw_ne (by decide), zw_ne (by decide), zw_ne (by decide), zw_ne (by decide), zw_ne (by decide), zw_ne (by decide), zw_ne (by decide), zw_ne (by decide), zw_ne (by decide), fc 86 (by omega) (by omega)]
            · rw [fm 78 (by omega) (by omega)]
              unfold cS
              rw [zw_ne (by decide), zw_ne (by decide), zw_ne (by decide), zw_ne (by decide), zw_ne (by decide), zw_ne (by decide), zw_ne (by decide), zw_ne (by decide), zw_ne (by decide), zw_ne (by decide)]
              exact zw_same _ _ _ _
          · have hm5 : m = 5 := by omega
            rw [if_neg (show ¬ nI m < 5 from nI_nlt (b := 5) (by omega) (by omega))]
            refine ⟨_, _, _, rfl, ?_, hI.z⟩
            unfold qM_sort
            rw [zb_ok hina, if_pos ha, if_neg z10, zb_ok m_isPrice, if_pos hf, if_neg z10, zb_ok m_isPrice, if_pos ho, if_neg z10, zb_ok hinv, if_pos hv, if_neg z10, mm, hm5, if_pos (show nI 5 = 5 from rfl)]
        · rw [if_neg hv, if_neg z10]
          refine ⟨_, _, _, rfl, ?_, hI.z⟩
          unfold qM_sort
          rw [zb_ok hina, if_pos ha, if_neg z10, zb_ok m_isPrice, if_pos hf, if_neg z10, zb_ok m_isPrice, if_pos ho, if_neg z10, zb_ok hinv, if_neg hv, if_pos rfl]
      · rw [if_neg ho, if_neg z10]
        refine ⟨_, _, _, rfl, ?_, hI.z⟩
        unfold qM_sort
        rw [zb_ok hina, if_pos ha, if_neg z10, zb_ok m_isPrice, if_pos hf, if_neg z10, zb_ok m_isPrice, if_neg ho, if_pos rfl]
    · rw [if_neg hf, if_neg z10]
      refine ⟨_, _, _, rfl, ?_, hI.z⟩
      unfold qM_sort
      rw [zb_ok hina, if_pos ha, if_neg z10, zb_ok m_isPrice, if_neg hf, if_pos rfl]
  · rw [if_neg ha, if_neg z10]
    refine ⟨_, _, _, rfl, ?_, hI.z⟩
    unfold qM_sort
    rw [zb_ok hina, if_neg ha, if_pos rfl]
end ZCalls11
