section ZCalls10
variable {M : zM} {n m k : Nat} {law : Int32} {A : zM} {q s t : Nat}
theorem zlp_2 {σ ρ : Type} {b : (σ → Option ρ) → σ → Option ρ} {s0 s1 s2 : σ} {e : Option ρ} (h0 : ∀ rc, b rc s0 = rc s1) (h1 : ∀ rc, b rc s1 = rc s2) (h2 : ∀ rc, b rc s2 = e) : zlp b zfu s0 = e := by
  show zlp b (99997 + 1 + 1 + 1) s0 = e
  show b (zlp b (99997 + 1 + 1)) s0 = e
  rw [h0]
  show b (zlp b (99997 + 1)) s1 = e
  rw [h1]
  show b (zlp b 99997) s2 = e
  rw [h2]
theorem zlp_4 {σ ρ : Type} {b : (σ → Option ρ) → σ → Option ρ} {s0 s1 s2 s3 s4 : σ} {e : Option ρ} (h0 : ∀ rc, b rc s0 = rc s1) (h1 : ∀ rc, b rc s1 = rc s2) (h2 : ∀ rc, b rc s2 = rc s3) (h3 : ∀ rc, b rc s3 = rc s4) (h4 : ∀ rc, b rc s4 = e) : zlp b zfu s0 = e := by
  show zlp b (99995 + 1 + 1 + 1 + 1 + 1) s0 = e
  show b (zlp b (99995 + 1 + 1 + 1 + 1)) s0 = e
  rw [h0]
  show b (zlp b (99995 + 1 + 1 + 1)) s1 = e
  rw [h1]
  show b (zlp b (99995 + 1 + 1)) s2 = e
  rw [h2]
  show b (zlp b (99995 + 1)) s3 = e
  rw [h3]
  show b (zlp b 99995) s4 = e
  rw [h4]
/-- a thing more, in the town, as the one writes it and as the other does -/
def nT (A : zM) (n : Nat) (a b p : Int32) : zM := zw (zw (zw (zw (zw (zw (zw (zw A 0 n 1) 1 (3 * n) p) 2 n a) 3 n 3) 4 n 0) 2 (4 + n) b) 3 (4 + n) 3) 4 (4 + n) 0
def nT2 (A : zM) (n : Nat) (a b p : Int32) : zM := zw (zw (zw (zw (zw (zw (zw (zw A 2 n a) 2 (4 + n) b) 3 n 3) 4 n 0) 3 (4 + n) 3) 4 (4 + n) 0) 1 (3 * n) p) 0 n 1
theorem nT_eq (a b p : Int32) : nT2 A n a b p = nT A n a b p := by
  unfold nT nT2
  funext c
  rcases (show c = 0 ∨ c = 1 ∨ c = 2 ∨ c = 3 ∨ c = 4 ∨ 5 ≤ c by omega) with rfl | rfl | rfl | rfl | rfl | h
  · rfl
  · rfl
  · rfl
  · rfl
  · rfl
  · rw [zw_ne (by omega), zw_ne (by omega), zw_ne (by omega), zw_ne (by omega), zw_ne (by omega), zw_ne (by omega), zw_ne (by omega), zw_ne (by omega), zw_ne (by omega), zw_ne (by omega), zw_ne (by omega), zw_ne (by omega), zw_ne (by omega), zw_ne (by omega), zw_ne (by omega), zw_ne (by omega)]
def cN (M : zM) (n : Nat) (a b p : Int32) : zM := zw (zw (zw (zw (zw (zw (zw (zw (zw (zw M 78 6 0) 4 n 1) 5 (3 * n) p) 6 n a) 7 n 3) 8 n 0) 6 (4 + n) b) 7 (4 + n) 3) 8 (4 + n) 0) 3 0 (nI (n + 1))
def mN (M : zM) (n : Nat) (a b p : Int32) : zM := zw (zw (zw (zw (zw (zw (zw (zw (zw M 87 n a) 87 (4 + n) b) 88 n 3) 89 n 0) 88 (4 + n) 3) 89 (4 + n) 0) 91 (3 * n) p) 92 n 1) 86 6 (nI (n + 1))
theorem c_addThing (hn : M 3 0 = nI n) (h4 : n < 4) (a b p : Int32) : zb (qD_forget M) (fun M4 => zb2 (qG_addThing M4 a b p) fun x5 M6 => some (x5, M6)) = some (nI n, cN M n a b p) := by
  have e : (zw M 78 6 0) 3 0 = nI n := by rw [zw_ne (by decide)]; exact hn
  unfold qD_forget
  rw [zb_s]
  unfold qG_addThing
  rw [e]
  simp (disch := omega) only [zn_cl, zq_in, zc_m3]
  have key : zlp (qG_addThing_L27 (zw M 78 6 0) a b) zfu (0, zw (zw (zw M 78 6 0) 4 n 1) 5 (3 * n) p) = some (nI n, cN M n a b p) := by
    refine zlp_2 (s1 := (1, zw (zw (zw (zw (zw (zw M 78 6 0) 4 n 1) 5 (3 * n) p) 6 n a) 7 n 3) 8 n 0)) (s2 := (2, zw (zw (zw (zw (zw (zw (zw (zw (zw M 78 6 0) 4 n 1) 5 (3 * n) p) 6 n a) 7 n 3) 8 n 0) 6 (4 + n) b) 7 (4 + n) 3) 8 (4 + n) 0)) (fun rc => ?_) (fun rc => ?_) (fun rc => ?_)
    · unfold qG_addThing_L27
      rw [e]
      simp only [if_pos (show (0 : Int32) < 2 by decide), if_true, show (0 : Int32) * 4 = 0 from rfl, Int32.zero_add]
      simp (disch := omega) only [zn_cl, zq_in]
    · unfold qG_addThing_L27
      rw [e]
      simp only [if_pos (show (1 : Int32) < 2 by decide), if_neg z10, show (1 : Int32) * 4 = 4 from rfl, zn_a4, show (1 : Int32) + 1 = 2 from rfl]
      simp (disch := omega) only [zn_cl, zq_in]
    · have e2 : (zw (zw (zw (zw (zw (zw (zw (zw (zw M 78 6 0) 4 n 1) 5 (3 * n) p) 6 n a) 7 n 3) 8 n 0) 6 (4 + n) b) 7 (4 + n) 3) 8 (4 + n) 0) 3 0 = nI n := by
        rw [zw_ne (by decide), zw_ne (by decide), zw_ne (by decide), zw_ne (by decide), zw_ne (by decide), zw_ne (by decide), zw_ne (by decide), zw_ne (by decide)]
        exact e
      unfold qG_addThing_L27
      rw [e]
      simp only [if_neg (show ¬ (2 : Int32) < 2 by decide)]
      rw [e2, nI_1]
      rfl
  rw [key]
  rfl
theorem m_thing (hn : M 86 6 = nI n) (h4 : n < 4) {a b p : Int32} (ha : sIn 0 99 a) (hb : sIn 0 99 b) (hp : sIn 0 99 p) : qM_thing M a b p = some (nI n, mN M n a b p) := by
  unfold qM_thing
  rw [zb_ok m_isPrice, if_pos ha, if_neg z10, zb_ok m_isPrice, if_pos hb, if_neg z10, zb_ok m_isPrice, if_pos hp, if_neg z10, hn, if_neg (show ¬ nI n = 4 from fun h => absurd ((nI_eq (b := 4) (by omega) (by omega)).mp h) (by omega))]
  simp (disch := omega) only [zn_cl, zq_in, zn_a4]
  refine zlp_2 (s1 := (1, zw (zw (zw (zw M 87 n a) 87 (4 + n) b) 88 n 3) 89 n 0)) (s2 := (2, zw (zw (zw (zw (zw (zw M 87 n a) 87 (4 + n) b) 88 n 3) 89 n 0) 88 (4 + n) 3) 89 (4 + n) 0)) (fun rc => ?_) (fun rc => ?_) (fun rc => ?_)
  · have e : (zw (zw M 87 n a) 87 (4 + n) b) 86 6 = nI n := by rw [zw_ne (by decide), zw_ne (by decide)]; exact hn
    unfold qM_thing_L60
    dsimp only
    rw [e]
    simp only [if_pos (show (0 : Int32) < 2 by decide), show (4 : Int32) * 0 = 0 from rfl, Int32.zero_add]
    simp (disch := omega) only [zn_cl, zq_in]
  · have e : (zw (zw (zw (zw M 87 n a) 87 (4 + n) b) 88 n 3) 89 n 0) 86 6 = nI n := by rw [zw_ne (by decide), zw_ne (by decide), zw_ne (by decide), zw_ne (by decide)]; exact hn
    unfold qM_thing_L60
    dsimp only
    rw [e]
    simp only [if_pos (show (1 : Int32) < 2 by decide), show (4 : Int32) * 1 = 4 from rfl, zn_a4, show (1 : Int32) + 1 = 2 from rfl]
    simp (disch := omega) only [zn_cl, zq_in]
  · have e : (zw (zw (zw (zw (zw (zw M 87 n a) 87 (4 + n) b) 88 n 3) 89 n 0) 88 (4 + n) 3) 89 (4 + n) 0) 86 6 = nI n := by rw [zw_ne (by decide), zw_ne (by decide), zw_ne (by decide), zw_ne (by decide), zw_ne (by decide), zw_ne (by decide)]; exact hn
    unfold qM_thing_L60
    dsimp only
    rw [e]
    simp only [if_neg (show ¬ (2 : Int32) < 2 by decide)]
    simp (disch := omega) only [zn_cl, zq_in, zn_3m, nI_1, zw_same, nI_pred]
    rfl
theorem sK_u {A' : zM} (h : A' 0 t = A 0 t) : sK A' t = sK A t := by unfold sK; rw [h]
theorem wF_thing (w : wF n m k law A) (h4 : n < 4) {a b p : Int32} (ha : sIn 0 99 a) (hb : sIn 0 99 b) (hp : sIn 0 99 p) : wF (n + 1) m k law (nT A n a b p) := by
  have hW := w.wf
  have r0 : nT A n a b p 0 = upd (A 0) n 1 := rfl
  have r1 : nT A n a b p 1 = upd (A 1) (3 * n) p := rfl
  have r2 : nT A n a b p 2 = upd (upd (A 2) n a) (4 + n) b := rfl
  have r3 : nT A n a b p 3 = upd (upd (A 3) n 3) (4 + n) 3 := rfl
  have r4 : nT A n a b p 4 = upd (upd (A 4) n 0) (4 + n) 0 := rfl
  have kn : sK (nT A n a b p) n = 1 := by unfold sK; rw [r0, pk_us]; rfl
  have ko : ∀ t, t < n → sK (nT A n a b p) t = sK A t := fun t ht => sK_u (by rw [r0, pk_un (by omega)])
  have k3 : ∀ t, t < n → sK A t ≤ 3 := fun t ht => (wf_K hW ht).2.2
  refine ⟨⟨by omega, hW.2.1, fun t ht => ?_, fun s t hs ht => ?_, hW.2.2.2.2.1, hW.2.2.2.2.2⟩, w.k30, w.law01, fun t i ht hi => ?_, fun t i ht hi => ?_, ?_, ?_, w.wi, w.ma, w.fa, w.wa, w.sh, w.wn, w.wo, w.gu, w.sl⟩
  · by_cases c : t = n
    · subst c
      exact ⟨1, by rw [r0, pk_us]; rfl, by omega, by omega⟩
    · rw [r0, pk_un c]
      exact hW.2.2.1 t (by omega)
  · by_cases c : t = n
    · subst c
      refine ⟨0, 1, ?_, by rw [r0, pk_us]; rfl, by omega, by omega⟩
      rw [r4]
      rcases (show s = 0 ∨ s = 1 by omega) with rfl | rfl
      · rw [pk_un (by omega), show 4 * 0 + t = t by omega, pk_us]; rfl
      · rw [show 4 * 1 + t = 4 + t by omega, pk_us]; rfl
    · rw [r0, pk_un c, r4, pk_un (by omega), pk_un (by omega)]
      exact hW.2.2.2.1 s t hs (by omega)
  · by_cases c : t = n
    · subst c
      rw [kn] at hi
      rw [r1, show 3 * t + i = 3 * t by omega, pk_us]
      exact hp
    · have ht' : t < n := by omega
      rw [ko t ht'] at hi
      have := k3 t ht'
      rw [r1, pk_un (by omega)]
      exact w.pr t i ht' hi
  · by_cases c : t = n
    · subst c
      rw [kn] at hi
      omega
    · have ht' : t < n := by omega
      rw [ko t ht'] at hi
      have := k3 t ht'
      rw [r1, pk_un (by omega), pk_un (by omega)]
      exact w.up t i ht' hi
  · rw [r2]
    exact sIn_upd (sIn_upd w.co ha) hb
  · rw [r3]
    exact sIn_upd (sIn_upd w.he ⟨by decide, by decide⟩) ⟨by decide, by decide⟩
theorem k_thing (hI : zI M) (a b p : Int32) : ∃ x M1 M2, qS_thing M a b p = some (x, M1) ∧ qM_thing M1 a b p = some (x, M2) ∧ zI M2 := by
  obtain ⟨n, m, k, law, A, hI⟩ := hI
  have hn := hI.n4
  have cn : M 3 0 = nI n := hI.c.n
  have mn := hI.m.t.1
  unfold qS_thing
  rw [zb_ok c_out]
  by_cases ha : sIn 0 99 a
  · rw [if_pos ha, if_pos rfl, zb_ok c_out]
    by_cases hb : sIn 0 99 b
    · rw [if_pos hb, if_pos rfl, zb_ok c_out]
      by_cases hp : sIn 0 99 p
      · rw [if_pos hp, if_pos rfl, cn]
        by_cases h4 : n < 4
        · rw [if_pos (show nI n < 4 from nI_lt (b := 4) h4 (by omega)), c_addThing cn h4]
          have fc : ∀ c, ¬ (3 ≤ c ∧ c ≤ 8) → c ≠ 78 → cN M n a b p c = M c := fun c h1 h2 => by
            unfold cN
            rw [zw_ne (by omega), zw_ne (by omega), zw_ne (by omega), zw_ne (by omega), zw_ne (by omega), zw_ne (by omega), zw_ne (by omega), zw_ne (by omega), zw_ne (by omega), zw_ne (by omega)]
          have fm : ∀ c, ¬ (86 ≤ c ∧ c ≤ 92) → mN (cN M n a b p) n a b p c = cN M n a b p c := fun c h1 => by
            unfold mN
            rw [zw_ne (by omega), zw_ne (by omega), zw_ne (by omega), zw_ne (by omega), zw_ne (by omega), zw_ne (by omega), zw_ne (by omega), zw_ne (by omega), zw_ne (by omega)]
          refine ⟨_, _, mN (cN M n a b p) n a b p, rfl, m_thing (by rw [fc 86 (by omega) (by omega)]; exact mn) h4 ha hb hp, (zIn_up (n' := n + 1) (A' := nT A n a b p) hI (wF_thing hI.w h4 ha hb hp) ?_ ?_ ?_ (fun c hc => ?_) ?_ (Or.inl ?_)).z⟩
          · refine tO_eq (fun c a b => fm c (by omega)) ?_
            exact tO_wn (tO_w4 (tO_w3 (tO_w2 (tO_w4 (tO_w3 (tO_w2 (tO_w1 (tO_w0 (tO_eq (fun c a b => zw_ne (by omega)) hI.c) n 1) (3 * n) p) n a) n 3) n 0) (4 + n) b) (4 + n) 3) (4 + n) 0) rfl
          · rw [← nT_eq]
            exact mO_wn (mO_w0 (mO_w1 (mO_w4 (mO_w3 (mO_w4 (mO_w3 (mO_w2 (mO_w2 (mO_eq (fun c hc => fc c (by omega) (by omega)) hI.m) n a) (4 + n) b) n 3) n 0) (4 + n) 3) (4 + n) 0) (3 * n) p) n 1) rfl
          · intro c L hc h19
            rw [fm c (by omega)]
            exact (tt_n (tt_w (tt_w (tt_w (tt_w (tt_w (tt_w (tt_w (tt_w (tt_n hI.t (by decide)) (L := 4) (by decide) h4 (by decide)) (L := 12) (by decide) (by omega) (by decide)) (L := 8) (by decide) (by omega) (by decide)) (L := 8) (by decide) (by omega) (by decide)) (L := 8) (by decide) (by omega) (by decide)) (L := 8) (by decide) (by omega) (by decide)) (L := 8) (by decide) (by omega) (by decide)) (L := 8) (by decide) (by omega) (by decide)) (by decide)) (c, L) hc
          · rw [fm c (by omega), fc c (by omega) (by omega)]
          · show (zw _ 86 6 _) 86 16 = _
            rw [zw_other (by decide), zw_ne (by decide), zw_ne (by decide), zw_ne (by decide), zw_ne (by decide), zw_ne (by decide), zw_ne (by decide), zw_ne (by decide), zw_ne (by decide), fc 86 (by omega) (by omega)]
          · rw [fm 78 (by omega)]
            unfold cN
            rw [zw_ne (by decide), zw_ne (by decide), zw_ne (by decide), zw_ne (by decide), zw_ne (by decide), zw_ne (by decide), zw_ne (by decide), zw_ne (by decide), zw_ne (by decide)]
            exact zw_same _ _ _ _
        · have hn4 : n = 4 := by omega
          rw [if_neg (show ¬ nI n < 4 from nI_nlt (b := 4) (by omega) (by omega))]
          refine ⟨_, _, _, rfl, ?_, hI.z⟩
          unfold qM_thing
          rw [zb_ok m_isPrice, if_pos ha, if_neg z10, zb_ok m_isPrice, if_pos hb, if_neg z10, zb_ok m_isPrice, if_pos hp, if_neg z10, mn, hn4, if_pos (show nI 4 = 4 from rfl)]
      · rw [if_neg hp, if_neg z10]
        refine ⟨_, _, _, rfl, ?_, hI.z⟩
        unfold qM_thing
        rw [zb_ok m_isPrice, if_pos ha, if_neg z10, zb_ok m_isPrice, if_pos hb, if_neg z10, zb_ok m_isPrice, if_neg hp, if_pos rfl]
    · rw [if_neg hb, if_neg z10]
      refine ⟨_, _, _, rfl, ?_, hI.z⟩
      unfold qM_thing
      rw [zb_ok m_isPrice, if_pos ha, if_neg z10, zb_ok m_isPrice, if_neg hb, if_pos rfl]
  · rw [if_neg ha, if_neg z10]
    refine ⟨_, _, _, rfl, ?_, hI.z⟩
    unfold qM_thing
    rw [zb_ok m_isPrice, if_neg ha, if_pos rfl]
/-! STEP -/
theorem sIn_above {x p : Int32} (hx : sIn 0 99 x) : sIn (x + 1) 99 p ↔ sIn 0 99 p ∧ x < p := by
  obtain ⟨j, hj, rfl⟩ := sIn_n (h := 99) (by omega) hx
  rw [nI_1]
  unfold sIn
  simp only [Int32.lt_iff_toInt_lt, nI_toInt (show j < 2 ^ 31 by omega), nI_toInt (show j + 1 < 2 ^ 31 by omega), show (0 : Int32).toInt = 0 from rfl]
  omega
theorem wF_step (w : wF n m k law A) (ht : t < n) (hK : sK A t < 3) {p : Int32} (hp : sIn 0 99 p) (hup : sLp A t < p) : wF n m k law (zw (zw A 1 (3 * t + sK A t) p) 0 t (nI (sK A t + 1))) := by
  have hW := w.wf
  obtain ⟨A', hA'⟩ : ∃ A', A' = zw (zw A 1 (3 * t + sK A t) p) 0 t (nI (sK A t + 1)) := ⟨_, rfl⟩
  have r0 : A' 0 = upd (A 0) t (nI (sK A t + 1)) := by rw [hA']; rfl
  have r1 : A' 1 = upd (A 1) (3 * t + sK A t) p := by rw [hA']; rfl
  have r4 : A' 4 = A 4 := by rw [hA']; rfl
  have kn : sK A' t = sK A t + 1 := by
    show (A' 0 t).toNatClampNeg = sK A t + 1
    rw [r0, pk_us, zn_cl (by omega)]
  have ko : ∀ t', t' ≠ t → sK A' t' = sK A t' := fun t' ht => sK_u (by rw [r0, pk_un ht])
  have k3 : ∀ t, t < n → 1 ≤ sK A t ∧ sK A t ≤ 3 := fun t ht => (wf_K hW ht).2
  have ht1 := k3 t ht
  rw [← hA']
  refine ⟨⟨hW.1, hW.2.1, fun t' ht' => ?_, fun s t' hs ht' => ?_, ?_, ?_⟩, w.k30, w.law01, fun t' i ht' hi => ?_, fun t' i ht' hi => ?_, ?_, ?_, ?_, ?_, ?_, ?_, ?_, ?_, ?_, ?_, ?_⟩
  · by_cases c : t' = t
    · subst c
      exact ⟨sK A t' + 1, by rw [r0, pk_us], by omega, by omega⟩
    · rw [r0, pk_un c]
      exact hW.2.2.1 t' ht'
  · obtain ⟨a, kk, z1, z2, z3, z4⟩ := hW.2.2.2.1 s t' hs ht'
    by_cases c : t' = t
    · subst c
      have : kk = sK A t' := by unfold sK; rw [z2, zn_cl (by omega)]
      exact ⟨a, sK A t' + 1, by rw [r4]; exact z1, by rw [r0, pk_us], by omega, by omega⟩
    · exact ⟨a, kk, by rw [r4]; exact z1, by rw [r0, pk_un c]; exact z2, z3, z4⟩
  · rw [hA']; exact hW.2.2.2.2.1
  · rw [hA']; exact hW.2.2.2.2.2
  · by_cases c : t' = t
    · subst c
      rw [kn] at hi
      by_cases e : i = sK A t'
      · subst e
        rw [r1, pk_us]
        exact hp
      · rw [r1, pk_un (by omega)]
        exact w.pr t' i ht' (by omega)
    · rw [ko t' c] at hi
      have := k3 t' ht'
      rw [r1, pk_un (by omega)]
      exact w.pr t' i ht' hi
  · by_cases c : t' = t
    · subst c
      rw [kn] at hi
      by_cases e : i + 1 = sK A t'
      · rw [r1, pk_un (by omega), e, pk_us]
        unfold sLp at hup
        rw [show sK A t' - 1 = i by omega] at hup
        exact hup
      · rw [r1, pk_un (by omega), pk_un (by omega)]
        exact w.up t' i ht' (by omega)
    · rw [ko t' c] at hi
      have := k3 t' ht'
      rw [r1, pk_un (by omega), pk_un (by omega)]
      exact w.up t' i ht' hi
  all_goals rw [hA']
  · exact w.co
  · exact w.he
  · exact w.wi
  · exact w.ma
  · exact w.fa
  · exact w.wa
  · exact w.sh
  · exact w.wn
  · exact w.wo
  · exact w.gu
  · exact w.sl
theorem lp_in (w : wF n m k law A) (ht : t < n) : sIn 0 99 (sLp A t) := by
  have := (wf_K w.wf ht).2
  exact w.pr t (sK A t - 1) ht (by omega)
theorem k_step (hI : zI M) (a p : Int32) : ∃ x M1 M2, qS_step M a p = some (x, M1) ∧ qM_step M1 a p = some (x, M2) ∧ zI M2 := by
  obtain ⟨n, m, k, law, A, hI⟩ := hI
  have hn := hI.n4
  unfold qS_step
  rw [zb_ok (c_noThing hI.c.n)]
  by_cases ha : sIn 0 (nI n - 1) a
  · rw [if_pos ha, if_pos rfl, zb_ok c_out]
    obtain ⟨t, ht, rfl⟩ := sIn_m (by omega) ha
    obtain ⟨k1, k2, k3⟩ := t_K hI ht
    have mk : ∀ M' : zM, M' 92 = M 92 → M' 92 t = nI (sK A t) := fun M' h => by rw [h, m_c0 hI]; exact k1
    have mp : ∀ M' : zM, M' 91 = M 91 → M' 91 (3 * t + sK A t - 1) = sLp A t := fun M' h => by
      rw [h, hI.m.t.2.2.2.1]
      unfold sLp
      congr 1
      omega
    have hin : ∀ M' : zM, M' 92 = M 92 → M' 91 = M 91 → qM_in p.toInt64 ((M' 91 (3 * t + sK A t - 1)) + 1).toInt64 99 = some (@ite _ (sIn (sLp A t + 1) 99 p) (Classical.propDecidable _) 1 0) := fun M' h1 h2 => by
      rw [mp M' h2]
      exact m_in (lo := sLp A t + 1) (hi := 99) (H := 99) rfl rfl
    have hab := sIn_above (p := p) (lp_in hI.w ht)
    by_cases hp : sIn 0 99 p
    · rw [if_pos hp, if_pos rfl, zb_ok (c_lastPrice hI ht)]
      by_cases hup : sLp A t < p
      · rw [if_pos hup]
        simp (disch := omega) only [zn_cl, zq_in, k1]
        by_cases hK : sK A t < 3
        · rw [if_pos (show nI (sK A t) < 3 from nI_lt (b := 3) hK (by omega))]
          have e1 : (zw M 78 6 0) 4 t = nI (sK A t) := by rw [zw_ne (by decide)]; exact k1
          unfold qD_forget
          rw [zb_s]
          unfold qG_addStep
          simp (disch := omega) only [zn_cl, zq_in, e1, zc_m3, nI_add, nI_1, zb2_s]
          obtain ⟨M1, hM1⟩ : ∃ M1, M1 = zw (zw (zw M 78 6 0) 5 (3 * t + sK A t) p) 4 t (nI (sK A t + 1)) := ⟨_, rfl⟩
          rw [← hM1]
          have fc : ∀ c, c ≠ 4 → c ≠ 5 → c ≠ 78 → M1 c = M c := fun c h1 h2 h3 => by rw [hM1, zw_ne h1, zw_ne h2, zw_ne h3]
          have w' := wF_step hI.w ht hK hp hup
          refine ⟨_, _, zw (zw M1 91 (3 * t + sK A t) p) 92 t (nI (sK A t + 1)), rfl, ?_, (zIn_up (A' := zw (zw A 1 (3 * t + sK A t) p) 0 t (nI (sK A t + 1))) hI w' ?_ ?_ ?_ (fun c hc => ?_) ?_ (Or.inl ?_)).z⟩
          · unfold qM_step
            rw [zb_ok (m_isThing (by rw [fc 86 (by decide) (by decide) (by decide)]; exact hI.m.t.1)), if_pos ha, if_neg z10]
            have e2 := mk M1 (fc 92 (by decide) (by decide) (by decide))
            have e3 := hin M1 (fc 92 (by decide) (by decide) (by decide)) (fc 91 (by decide) (by decide) (by decide))
            simp (disch := omega) only [zn_cl, zq_in, zn_3m, e2, nI_add, zn_s1]
            rw [zb_ok e3, if_pos (hab.mpr ⟨hp, hup⟩), if_neg z10, if_neg (show ¬ nI (sK A t) = 3 from fun h => absurd ((nI_eq (b := 3) (by omega) (by omega)).mp h) (by omega)), nI_1, zw_same, nI_pred]
          · refine tO_eq (fun c a b => (zw_ne (by omega)).trans (zw_ne (by omega))) ?_
            rw [hM1]
            exact tO_w0 (tO_w1 (tO_eq (fun c a b => zw_ne (by omega)) hI.c) _ _) _ _
          · exact mO_w0 (mO_w1 (mO_eq (fun c hc => fc c (by omega) (by omega) (by omega)) hI.m) _ _) _ _
          · intro c L hc h19
            rw [zw_ne (by omega), zw_ne (by omega), hM1]
            exact (tt_w (tt_w (tt_n hI.t (by decide)) (L := 12) (by decide) (by omega) (by decide)) (L := 4) (by decide) (by omega) (by decide)) (c, L) hc
          · rw [zw_ne (by omega), zw_ne (by omega), fc c (by omega) (by omega) (by omega)]
          · rw [zw_ne (by decide), zw_ne (by decide), fc 86 (by decide) (by decide) (by decide)]
          · rw [zw_ne (by decide), zw_ne (by decide), hM1, zw_ne (by decide), zw_ne (by decide)]
            exact zw_same _ _ _ _
        · have hK3 : sK A t = 3 := by omega
          rw [if_neg (show ¬ nI (sK A t) < 3 from nI_nlt (b := 3) (by omega) (by omega))]
          refine ⟨_, _, _, rfl, ?_, hI.z⟩
          unfold qM_step
          rw [zb_ok (m_isThing hI.m.t.1), if_pos ha, if_neg z10]
          have e2 := mk M rfl
          have e3 := hin M rfl rfl
          simp (disch := omega) only [zn_cl, zq_in, zn_3m, e2, nI_add, zn_s1]
          rw [zb_ok e3, if_pos (hab.mpr ⟨hp, hup⟩), if_neg z10, if_pos (show nI (sK A t) = 3 by rw [hK3]; rfl)]
      · rw [if_neg hup]
        refine ⟨_, _, _, rfl, ?_, hI.z⟩
        unfold qM_step
        rw [zb_ok (m_isThing hI.m.t.1), if_pos ha, if_neg z10]
        have e2 := mk M rfl
        have e3 := hin M rfl rfl
        simp (disch := omega) only [zn_cl, zq_in, zn_3m, e2, nI_add, zn_s1]
        rw [zb_ok e3, if_neg (fun h => hup (hab.mp h).2), if_pos rfl]
    · rw [if_neg hp, if_neg z10]
      refine ⟨_, _, _, rfl, ?_, hI.z⟩
      unfold qM_step
      rw [zb_ok (m_isThing hI.m.t.1), if_pos ha, if_neg z10]
      have e2 := mk M rfl
      have e3 := hin M rfl rfl
      simp (disch := omega) only [zn_cl, zq_in, zn_3m, e2, nI_add, zn_s1]
      rw [zb_ok e3, if_neg (fun h => hp (hab.mp h).1), if_pos rfl]
  · rw [if_neg ha, if_neg z10]
    refine ⟨_, _, _, rfl, ?_, hI.z⟩
    unfold qM_step
    rw [zb_ok (m_isThing hI.m.t.1), if_neg ha, if_pos rfl]
end ZCalls10
