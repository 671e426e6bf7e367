section ZPass
variable {M M2 : zM} {b P r i : Nat}
/-- written from P to Q -/
def wM (M M' : zM) (b P Q : Nat) : Prop := M' 86 32 = nI (b + Q) ∧ (∀ c, c ≠ 86 → c ≠ 106 → M' c = M c) ∧ (∀ j, j ≠ 32 → M' 86 j = M 86 j) ∧ ∀ j, ¬ (b + P ≤ j ∧ j < b + Q) → M' 106 j = M 106 j
theorem wM.tr {M1 M2 M3 : zM} {P Q R : Nat} (h1 : wM M1 M2 b P Q) (h2 : wM M2 M3 b Q R) (hp : P ≤ Q) (hq : Q ≤ R) : wM M1 M3 b P R := ⟨h2.1, fun c a d => (h2.2.1 c a d).trans (h1.2.1 c a d), fun j a => (h2.2.2.1 j a).trans (h1.2.2.1 j a), fun j a => (h2.2.2.2 j (by omega)).trans (h1.2.2.2 j (by omega))⟩
theorem wM.rf (h : M 86 32 = nI (b + P)) : wM M M b P P := ⟨h, fun _ _ _ => rfl, fun _ _ => rfl, fun _ _ => rfl⟩
theorem pass_w {p : Nat} (h33 : M 86 33 = 1) (h32 : M 86 32 = nI p) (hp : p < 400) (v : Int32) : qM_pass M v = some (v, zw (zw M 106 p v) 86 32 (nI (p + 1))) := by
  unfold qM_pass
  rw [h33, if_neg z10, zb_s, h32, zq_in hp (by omega), zn_cl (by omega), nI_1]
theorem pass_r {p : Nat} (h33 : M 86 33 = 0) (h32 : M 86 32 = nI p) (hp : p < 400) (v : Int32) : qM_pass M v = some (M 106 p, zw M 86 32 (nI (p + 1))) := by
  unfold qM_pass
  rw [h33, if_pos rfl, h32, zq_in hp (by omega), zn_cl (by omega), zb_s, zq_in hp (by omega), zw_id, nI_1]
theorem pwS (h33 : M 86 33 = 1) (h32 : M 86 32 = nI (b + P)) (hp : b + P < 400) (hr : r ≠ 106) (hri : r ≠ 86 ∨ i ≠ 32) : ∃ N, qM_pass M (M r i) = some (M r i, N) ∧ zw N r i (M r i) = N ∧ wM M N b P (P + 1) ∧ N 106 (b + P) = M r i := by
  refine ⟨_, pass_w h33 h32 hp _, ?_, ⟨?_, fun c a d => ?_, fun j a => ?_, fun j a => ?_⟩, ?_⟩
  · have e : (zw (zw M 106 (b + P) (M r i)) 86 32 (nI (b + P + 1))) r i = M r i := by
      by_cases c : r = 86
      · subst c
        rw [zw_other (hri.resolve_left (fun h => h rfl)), zw_ne (by decide)]
      · rw [zw_ne c, zw_ne hr]
    have := zw_id (zw (zw M 106 (b + P) (M r i)) 86 32 (nI (b + P + 1))) r i
    rw [e] at this
    exact this
  · rw [zw_same, Nat.add_assoc]
  · rw [zw_ne a, zw_ne d]
  · rw [zw_other a, zw_ne (by decide)]
  · rw [zw_ne (by decide), zw_other (by omega)]
  · rw [zw_ne (by decide), zw_same]
/-- one read -/
def rp (M : zM) (b P r i : Nat) : zM := zw (zw M 86 32 (nI (b + (P + 1)))) r i (M 106 (b + P))
theorem prS (h33 : M 86 33 = 0) (h32 : M 86 32 = nI (b + P)) (hp : b + P < 400) (v : Int32) : qM_pass M v = some (M 106 (b + P), zw M 86 32 (nI (b + (P + 1)))) := pass_r h33 h32 hp v
theorem rp_32 (hr : r ≠ 86 ∨ i ≠ 32) : rp M b P r i 86 32 = nI (b + (P + 1)) := by
  unfold rp
  by_cases c : r = 86
  · subst c
    rw [zw_other (fun h => (hr.resolve_left (fun h => h rfl)) h.symm), zw_same]
  · rw [zw_ne (fun h => c h.symm), zw_same]
theorem rp_86 (hr : r ≠ 86) {j : Nat} (hj : j ≠ 32) : rp M b P r i 86 j = M 86 j := by
  unfold rp
  rw [zw_ne (fun h => hr h.symm), zw_other hj]
theorem rp_ne {c : Nat} (h1 : c ≠ 86) (h2 : c ≠ r) : rp M b P r i c = M c := by
  unfold rp
  rw [zw_ne h2, zw_ne h1]
theorem rp_at : rp M b P r i r i = M 106 (b + P) := by
  unfold rp
  rw [zw_same]
theorem rp_ot (hr : r ≠ 86) {j : Nat} (hj : j ≠ i) : rp M b P r i r j = M r j := by
  unfold rp
  rw [zw_other hj, zw_ne hr]
theorem wL_L50 (h33 : M 86 33 = 1) (h32 : M 86 32 = nI (b + 4)) (hb : b ≤ 200) : ∃ M', zlp qM_passAll_L50 zfu (0, M) = (zlp qM_passAll_L112 zfu (0, M')) ∧ wM M M' b 4 28 ∧ ∀ j, j < 8 → M' 106 (b + 4 + 3 * j) = M 87 j ∧ M' 106 (b + 4 + 3 * j + 1) = M 88 j ∧ M' 106 (b + 4 + 3 * j + 2) = M 89 j := by
  refine zlp_inv (b := qM_passAll_L50) (I := fun i v => v.1 = nI i ∧ wM M v.2 b 4 (4 + 3 * i) ∧ ∀ j, j < i → v.2 106 (b + 4 + 3 * j) = M 87 j ∧ v.2 106 (b + 4 + 3 * j + 1) = M 88 j ∧ v.2 106 (b + 4 + 3 * j + 2) = M 89 j) 8 (E := fun o => ∃ M', o = (zlp qM_passAll_L112 zfu (0, M')) ∧ wM M M' b 4 28 ∧ ∀ j, j < 8 → M' 106 (b + 4 + 3 * j) = M 87 j ∧ M' 106 (b + 4 + 3 * j + 1) = M 88 j ∧ M' 106 (b + 4 + 3 * j + 2) = M 89 j) (zfu_gt (by omega)) (fun i hi v hv => ?_) (fun v hv => ?_) (s := (0, M)) ⟨rfl, wM.rf h32, fun j h => by omega⟩
  · obtain ⟨v1, N0⟩ := v
    obtain ⟨e1, e2, e3⟩ := hv
    dsimp only at e1 e2 e3
    subst e1
    have s0 : N0 86 33 = 1 := by rw [e2.2.2.1 33 (by decide)]; exact h33
    obtain ⟨N1, a1, z1, w1, k1⟩ := pwS (M := N0) (b := b) (P := 4 + 3 * i) (r := 87) (i := i) s0 e2.1 (by omega) (by decide) (Or.inl (by decide))
    have s1 : N1 86 33 = 1 := by rw [w1.2.2.1 33 (by decide)]; exact s0
    obtain ⟨N2, a2, z2, w2, k2⟩ := pwS (M := N1) (b := b) (P := 4 + 3 * i + 1) (r := 88) (i := i) s1 w1.1 (by omega) (by decide) (Or.inl (by decide))
    have s2 : N2 86 33 = 1 := by rw [w2.2.2.1 33 (by decide)]; exact s1
    obtain ⟨N3, a3, z3, w3, k3⟩ := pwS (M := N2) (b := b) (P := 4 + 3 * i + 2) (r := 89) (i := i) s2 w2.1 (by omega) (by decide) (Or.inl (by decide))
    have s3 : N3 86 33 = 1 := by rw [w3.2.2.1 33 (by decide)]; exact s2
    have wt := (((e2.tr w1 (by omega) (by omega)).tr w2 (by omega) (by omega)).tr w3 (by omega) (by omega))
    refine ⟨(nI (i + 1), N3), ⟨rfl, ⟨?_, wt.2.1, wt.2.2.1, fun j hj => wt.2.2.2 j (by omega)⟩, fun j hj => ?_⟩, fun rc => ?_⟩
    · dsimp only
      rw [wt.1]
      exact congrArg nI (by omega)
    · dsimp only
      by_cases z : j = i
      · subst z
        exact ⟨(by
          have h := k1
          rw [e2.2.1 87 (by decide) (by decide)] at h
          rw [show b + 4 + 3 * j = b + (4 + 3 * j) by omega, w3.2.2.2 _ (by omega), w2.2.2.2 _ (by omega), h]), (by
          have h := k2
          rw [w1.2.1 88 (by decide) (by decide), e2.2.1 88 (by decide) (by decide)] at h
          rw [show b + 4 + 3 * j + 1 = b + (4 + 3 * j + 1) by omega, w3.2.2.2 _ (by omega), h]), (by
          have h := k3
          rw [w2.2.1 89 (by decide) (by decide), w1.2.1 89 (by decide) (by decide), e2.2.1 89 (by decide) (by decide)] at h
          rw [show b + 4 + 3 * j + 2 = b + (4 + 3 * j + 2) by omega, h])⟩
      · have h := e3 j (by omega)
        refine ⟨?_, ?_, ?_⟩
        · rw [w3.2.2.2 _ (by omega), w2.2.2.2 _ (by omega), w1.2.2.2 _ (by omega)]
          exact h.1
        · rw [w3.2.2.2 _ (by omega), w2.2.2.2 _ (by omega), w1.2.2.2 _ (by omega)]
          exact h.2.1
        · rw [w3.2.2.2 _ (by omega), w2.2.2.2 _ (by omega), w1.2.2.2 _ (by omega)]
          exact h.2.2
    · unfold qM_passAll_L50
      dsimp only
      rw [if_pos (show nI i < 8 from nI_lt (b := 8) hi (by omega))]
      simp (disch := omega) only [zn_2m, zn_cl, zq_in, nI_1]
      rw [zb2_ok a1, z1, zb2_ok a2, z2, zb2_ok a3, z3]
  · obtain ⟨v1, N0⟩ := v
    obtain ⟨e1, e2, e3⟩ := hv
    dsimp only at e1 e2 e3
    subst e1
    refine ⟨_, ⟨N0, rfl, e2, e3⟩, fun rc => ?_⟩
    unfold qM_passAll_L50
    dsimp only
    rw [if_neg (show ¬ nI 8 < 8 by decide)]
theorem rL_L50 (h33 : M 86 33 = 0) (h32 : M 86 32 = nI (b + 4)) (hb : b ≤ 200) : ∃ M', zlp qM_passAll_L50 zfu (0, M) = (zlp qM_passAll_L112 zfu (0, M')) ∧ M' 86 32 = nI (b + 28) ∧ (∀ j, j ≠ 32 → M' 86 j = M 86 j) ∧ (∀ c, c ≠ 86 → c ≠ 87 → c ≠ 88 → c ≠ 89 → M' c = M c) ∧ (∀ j, j < 8 → M' 87 j = M 106 (b + 4 + 3 * j) ∧ M' 88 j = M 106 (b + 4 + 3 * j + 1) ∧ M' 89 j = M 106 (b + 4 + 3 * j + 2)) ∧ (∀ j, 8 ≤ j → M' 87 j = M 87 j) ∧ (∀ j, 8 ≤ j → M' 88 j = M 88 j) ∧ (∀ j, 8 ≤ j → M' 89 j = M 89 j) := by
  refine zlp_inv (b := qM_passAll_L50) (I := fun i v => v.1 = nI i ∧ v.2 86 32 = nI (b + (4 + 3 * i)) ∧ (∀ j, j ≠ 32 → v.2 86 j = M 86 j) ∧ (∀ c, c ≠ 86 → c ≠ 87 → c ≠ 88 → c ≠ 89 → v.2 c = M c) ∧ (∀ j, j < i → v.2 87 j = M 106 (b + 4 + 3 * j) ∧ v.2 88 j = M 106 (b + 4 + 3 * j + 1) ∧ v.2 89 j = M 106 (b + 4 + 3 * j + 2)) ∧ (∀ j, i ≤ j → v.2 87 j = M 87 j) ∧ (∀ j, i ≤ j → v.2 88 j = M 88 j) ∧ (∀ j, i ≤ j → v.2 89 j = M 89 j)) 8 (E := fun o => ∃ M', o = (zlp qM_passAll_L112 zfu (0, M')) ∧ M' 86 32 = nI (b + 28) ∧ (∀ j, j ≠ 32 → M' 86 j = M 86 j) ∧ (∀ c, c ≠ 86 → c ≠ 87 → c ≠ 88 → c ≠ 89 → M' c = M c) ∧ (∀ j, j < 8 → M' 87 j = M 106 (b + 4 + 3 * j) ∧ M' 88 j = M 106 (b + 4 + 3 * j + 1) ∧ M' 89 j = M 106 (b + 4 + 3 * j + 2)) ∧ (∀ j, 8 ≤ j → M' 87 j = M 87 j) ∧ (∀ j, 8 ≤ j → M' 88 j = M 88 j) ∧ (∀ j, 8 ≤ j → M' 89 j = M 89 j)) (zfu_gt (by omega)) (fun i hi v hv => ?_) (fun v hv => ?_) (s := (0, M)) ⟨rfl, h32, fun _ _ => rfl, fun _ _ _ _ _ => rfl, (fun j h => by omega), fun _ _ => rfl, fun _ _ => rfl, fun _ _ => rfl⟩
  · obtain ⟨v1, N0⟩ := v
    obtain ⟨e1, e2, e4, e5, e6, r87, r88, r89⟩ := hv
    dsimp only at e1 e2 e4 e5 e6 r87 r88 r89
    subst e1
    have s0 : N0 86 33 = 0 := by rw [e4 33 (by decide)]; exact h33
    have n106 : N0 106 = M 106 := e5 106 (by decide) (by decide) (by decide) (by decide)
    obtain ⟨N1, d1⟩ : ∃ N, N = rp N0 b (4 + 3 * i) 87 i := ⟨_, rfl⟩
    have t1 : N1 86 32 = nI (b + (4 + 3 * i + 1)) := by rw [d1]; exact rp_32 (Or.inl (by decide))
    have s1 : N1 86 33 = 0 := by rw [d1, rp_86 (by decide) (by decide)]; exact s0
    have u1 : N1 106 = M 106 := by rw [d1, rp_ne (by decide) (by decide)]; exact n106
    obtain ⟨N2, d2⟩ : ∃ N, N = rp N1 b (4 + 3 * i + 1) 88 i := ⟨_, rfl⟩
    have t2 : N2 86 32 = nI (b + (4 + 3 * i + 2)) := by rw [d2]; exact rp_32 (Or.inl (by decide))
    have s2 : N2 86 33 = 0 := by rw [d2, rp_86 (by decide) (by decide)]; exact s1
    have u2 : N2 106 = M 106 := by rw [d2, rp_ne (by decide) (by decide)]; exact u1
    obtain ⟨N3, d3⟩ : ∃ N, N = rp N2 b (4 + 3 * i + 2) 89 i := ⟨_, rfl⟩
    have t3 : N3 86 32 = nI (b + (4 + 3 * i + 3)) := by rw [d3]; exact rp_32 (Or.inl (by decide))
    have s3 : N3 86 33 = 0 := by rw [d3, rp_86 (by decide) (by decide)]; exact s2
    have u3 : N3 106 = M 106 := by rw [d3, rp_ne (by decide) (by decide)]; exact u2
    refine ⟨(nI (i + 1), N3), ⟨rfl, ?_, fun j hj => ?_, fun c h0 hc87 hc88 hc89 => ?_, fun j hj => ?_, fun j hj => ?_, fun j hj => ?_, fun j hj => ?_⟩, fun rc => ?_⟩
    · dsimp only
      rw [t3]
      exact congrArg nI (by omega)
    · dsimp only
      rw [d3, rp_86 (by decide) hj, d2, rp_86 (by decide) hj, d1, rp_86 (by decide) hj]
      exact e4 j hj
    · dsimp only
      rw [d3, rp_ne h0 hc89, d2, rp_ne h0 hc88, d1, rp_ne h0 hc87]
      exact e5 c h0 hc87 hc88 hc89
    · dsimp only
      by_cases z : j = i
      · subst z
        exact ⟨(by
          rw [d3, rp_ne (by decide) (by decide), d2, rp_ne (by decide) (by decide), d1, rp_at, n106]
          exact congrArg (M 106) (by omega)), (by
          rw [d3, rp_ne (by decide) (by decide), d2, rp_at, u1]
          exact congrArg (M 106) (by omega)), (by
          rw [d3, rp_at, u2]
          exact congrArg (M 106) (by omega))⟩
      · have h := e6 j (by omega)
        exact ⟨(by
          rw [d3, rp_ne (by decide) (by decide), d2, rp_ne (by decide) (by decide), d1, rp_ot (by decide) (by omega)]
          exact h.1), (by
          rw [d3, rp_ne (by decide) (by decide), d2, rp_ot (by decide) (by omega), d1, rp_ne (by decide) (by decide)]
          exact h.2.1), (by
          rw [d3, rp_ot (by decide) (by omega), d2, rp_ne (by decide) (by decide), d1, rp_ne (by decide) (by decide)]
          exact h.2.2)⟩
    · dsimp only
      rw [d3, rp_ne (by decide) (by decide), d2, rp_ne (by decide) (by decide), d1, rp_ot (by decide) (by omega)]
      exact r87 j (by omega)
    · dsimp only
      rw [d3, rp_ne (by decide) (by decide), d2, rp_ot (by decide) (by omega), d1, rp_ne (by decide) (by decide)]
      exact r88 j (by omega)
    · dsimp only
      rw [d3, rp_ot (by decide) (by omega), d2, rp_ne (by decide) (by decide), d1, rp_ne (by decide) (by decide)]
      exact r89 j (by omega)
    · unfold qM_passAll_L50
      dsimp only
      rw [if_pos (show nI i < 8 from nI_lt (b := 8) hi (by omega))]
      simp (disch := omega) only [zn_2m, zn_cl, zq_in, nI_1]
      rw [zb2_ok (prS (b := b) (P := 4 + 3 * i) s0 e2 (by omega) _), show zw (zw N0 86 32 (nI (b + (4 + 3 * i + 1)))) 87 i (N0 106 (b + (4 + 3 * i))) = N1 from d1.symm, zb2_ok (prS (b := b) (P := 4 + 3 * i + 1) s1 t1 (by omega) _), show zw (zw N1 86 32 (nI (b + (4 + 3 * i + 1 + 1)))) 88 i (N1 106 (b + (4 + 3 * i + 1))) = N2 from d2.symm, zb2_ok (prS (b := b) (P := 4 + 3 * i + 2) s2 t2 (by omega) _), show zw (zw N2 86 32 (nI (b + (4 + 3 * i + 2 + 1)))) 89 i (N2 106 (b + (4 + 3 * i + 2))) = N3 from d3.symm]
  · obtain ⟨v1, N0⟩ := v
    obtain ⟨e1, e2, e4, e5, e6, er⟩ := hv
    dsimp only at e1 e2 e4 e5 e6 er
    subst e1
    refine ⟨_, ⟨N0, rfl, e2, e4, e5, e6, er⟩, fun rc => ?_⟩
    unfold qM_passAll_L50
    dsimp only
    rw [if_neg (show ¬ nI 8 < 8 by decide)]
theorem wL_L112 (h33 : M 86 33 = 1) (h32 : M 86 32 = nI (b + 28)) (hb : b ≤ 200) : ∃ M', zlp qM_passAll_L112 zfu (0, M) = (zlp qM_passAll_L141 zfu (0, M')) ∧ wM M M' b 28 30 ∧ ∀ j, j < 2 → M' 106 (b + 28 + j) = M 90 j := by
  refine zlp_inv (b := qM_passAll_L112) (I := fun i v => v.1 = nI i ∧ wM M v.2 b 28 (28 + 1 * i) ∧ ∀ j, j < i → v.2 106 (b + 28 + j) = M 90 j) 2 (E := fun o => ∃ M', o = (zlp qM_passAll_L141 zfu (0, M')) ∧ wM M M' b 28 30 ∧ ∀ j, j < 2 → M' 106 (b + 28 + j) = M 90 j) (zfu_gt (by omega)) (fun i hi v hv => ?_) (fun v hv => ?_) (s := (0, M)) ⟨rfl, wM.rf h32, fun j h => by omega⟩
  · obtain ⟨v1, N0⟩ := v
    obtain ⟨e1, e2, e3⟩ := hv
    dsimp only at e1 e2 e3
    subst e1
    have s0 : N0 86 33 = 1 := by rw [e2.2.2.1 33 (by decide)]; exact h33
    obtain ⟨N1, a1, z1, w1, k1⟩ := pwS (M := N0) (b := b) (P := 28 + 1 * i) (r := 90) (i := i) s0 e2.1 (by omega) (by decide) (Or.inl (by decide))
    have s1 : N1 86 33 = 1 := by rw [w1.2.2.1 33 (by decide)]; exact s0
    have wt := (e2.tr w1 (by omega) (by omega))
    refine ⟨(nI (i + 1), N1), ⟨rfl, ⟨?_, wt.2.1, wt.2.2.1, fun j hj => wt.2.2.2 j (by omega)⟩, fun j hj => ?_⟩, fun rc => ?_⟩
    · dsimp only
      rw [wt.1]
      exact congrArg nI (by omega)
    · dsimp only
      by_cases z : j = i
      · subst z
        exact (by
          have h := k1
          rw [e2.2.1 90 (by decide) (by decide)] at h
          rw [show b + 28 + j = b + (28 + 1 * j) by omega, h])
      · have h := e3 j (by omega)
        rw [w1.2.2.2 _ (by omega)]
        exact h
    · unfold qM_passAll_L112
      dsimp only
      rw [if_pos (show nI i < 2 from nI_lt (b := 2) hi (by omega))]
      simp (disch := omega) only [zn_2m, zn_cl, zq_in, nI_1]
      rw [zb2_ok a1, z1]
  · obtain ⟨v1, N0⟩ := v
    obtain ⟨e1, e2, e3⟩ := hv
    dsimp only at e1 e2 e3
    subst e1
    refine ⟨_, ⟨N0, rfl, e2, e3⟩, fun rc => ?_⟩
    unfold qM_passAll_L112
    dsimp only
    rw [if_neg (show ¬ nI 2 < 2 by decide)]
theorem rL_L112 (h33 : M 86 33 = 0) (h32 : M 86 32 = nI (b + 28)) (hb : b ≤ 200) : ∃ M', zlp qM_passAll_L112 zfu (0, M) = (zlp qM_passAll_L141 zfu (0, M')) ∧ M' 86 32 = nI (b + 30) ∧ (∀ j, j ≠ 32 → M' 86 j = M 86 j) ∧ (∀ c, c ≠ 86 → c ≠ 90 → M' c = M c) ∧ (∀ j, j < 2 → M' 90 j = M 106 (b + 28 + j)) ∧ (∀ j, 2 ≤ j → M' 90 j = M 90 j) := by
  refine zlp_inv (b := qM_passAll_L112) (I := fun i v => v.1 = nI i ∧ v.2 86 32 = nI (b + (28 + 1 * i)) ∧ (∀ j, j ≠ 32 → v.2 86 j = M 86 j) ∧ (∀ c, c ≠ 86 → c ≠ 90 → v.2 c = M c) ∧ (∀ j, j < i → v.2 90 j = M 106 (b + 28 + j)) ∧ (∀ j, i ≤ j → v.2 90 j = M 90 j)) 2 (E := fun o => ∃ M', o = (zlp qM_passAll_L141 zfu (0, M')) ∧ M' 86 32 = nI (b + 30) ∧ (∀ j, j ≠ 32 → M' 86 j = M 86 j) ∧ (∀ c, c ≠ 86 → c ≠ 90 → M' c = M c) ∧ (∀ j, j < 2 → M' 90 j = M 106 (b + 28 + j)) ∧ (∀ j, 2 ≤ j → M' 90 j = M 90 j)) (zfu_gt (by omega)) (fun i hi v hv => ?_) (fun v hv => ?_) (s := (0, M)) ⟨rfl, h32, fun _ _ => rfl, fun _ _ _ => rfl, (fun j h => by omega), fun _ _ => rfl⟩
  · obtain ⟨v1, N0⟩ := v
    obtain ⟨e1, e2, e4, e5, e6, r90⟩ := hv
    dsimp only at e1 e2 e4 e5 e6 r90
    subst e1
    have s0 : N0 86 33 = 0 := by rw [e4 33 (by decide)]; exact h33
    have n106 : N0 106 = M 106 := e5 106 (by decide) (by decide)
    obtain ⟨N1, d1⟩ : ∃ N, N = rp N0 b (28 + 1 * i) 90 i := ⟨_, rfl⟩
    have t1 : N1 86 32 = nI (b + (28 + 1 * i + 1)) := by rw [d1]; exact rp_32 (Or.inl (by decide))
    have s1 : N1 86 33 = 0 := by rw [d1, rp_86 (by decide) (by decide)]; exact s0
    have u1 : N1 106 = M 106 := by rw [d1, rp_ne (by decide) (by decide)]; exact n106
    refine ⟨(nI (i + 1), N1), ⟨rfl, ?_, fun j hj => ?_, fun c h0 hc90 => ?_, fun j hj => ?_, fun j hj => ?_⟩, fun rc => ?_⟩
    · dsimp only
      rw [t1]
      exact congrArg nI (by omega)
    · dsimp only
      rw [d1, rp_86 (by decide) hj]
      exact e4 j hj
    · dsimp only
      rw [d1, rp_ne h0 hc90]
      exact e5 c h0 hc90
    · dsimp only
      by_cases z : j = i
      · subst z
        exact (by
          rw [d1, rp_at, n106]
          exact congrArg (M 106) (by omega))
      · have h := e6 j (by omega)
        exact (by
          rw [d1, rp_ot (by decide) (by omega)]
          exact h)
    · dsimp only
      rw [d1, rp_ot (by decide) (by omega)]
      exact r90 j (by omega)
    · unfold qM_passAll_L112
      dsimp only
      rw [if_pos (show nI i < 2 from nI_lt (b := 2) hi (by omega))]
      simp (disch := omega) only [zn_2m, zn_cl, zq_in, nI_1]
      rw [zb2_ok (prS (b := b) (P := 28 + 1 * i) s0 e2 (by omega) _), show zw (zw N0 86 32 (nI (b + (28 + 1 * i + 1)))) 90 i (N0 106 (b + (28 + 1 * i))) = N1 from d1.symm]
  · obtain ⟨v1, N0⟩ := v
    obtain ⟨e1, e2, e4, e5, e6, er⟩ := hv
    dsimp only at e1 e2 e4 e5 e6 er
    subst e1
    refine ⟨_, ⟨N0, rfl, e2, e4, e5, e6, er⟩, fun rc => ?_⟩
    unfold qM_passAll_L112
    dsimp only
    rw [if_neg (show ¬ nI 2 < 2 by decide)]
theorem wL_L141 (h33 : M 86 33 = 1) (h32 : M 86 32 = nI (b + 30)) (hb : b ≤ 200) : ∃ M', zlp qM_passAll_L141 zfu (0, M) = (zlp qM_passAll_L171 zfu (0, M')) ∧ wM M M' b 30 42 ∧ ∀ j, j < 12 → M' 106 (b + 30 + j) = M 91 j := by
  refine zlp_inv (b := qM_passAll_L141) (I := fun i v => v.1 = nI i ∧ wM M v.2 b 30 (30 + 1 * i) ∧ ∀ j, j < i → v.2 106 (b + 30 + j) = M 91 j) 12 (E := fun o => ∃ M', o = (zlp qM_passAll_L171 zfu (0, M')) ∧ wM M M' b 30 42 ∧ ∀ j, j < 12 → M' 106 (b + 30 + j) = M 91 j) (zfu_gt (by omega)) (fun i hi v hv => ?_) (fun v hv => ?_) (s := (0, M)) ⟨rfl, wM.rf h32, fun j h => by omega⟩
  · obtain ⟨v1, N0⟩ := v
    obtain ⟨e1, e2, e3⟩ := hv
    dsimp only at e1 e2 e3
    subst e1
    have s0 : N0 86 33 = 1 := by rw [e2.2.2.1 33 (by decide)]; exact h33
    obtain ⟨N1, a1, z1, w1, k1⟩ := pwS (M := N0) (b := b) (P := 30 + 1 * i) (r := 91) (i := i) s0 e2.1 (by omega) (by decide) (Or.inl (by decide))
    have s1 : N1 86 33 = 1 := by rw [w1.2.2.1 33 (by decide)]; exact s0
    have wt := (e2.tr w1 (by omega) (by omega))
    refine ⟨(nI (i + 1), N1), ⟨rfl, ⟨?_, wt.2.1, wt.2.2.1, fun j hj => wt.2.2.2 j (by omega)⟩, fun j hj => ?_⟩, fun rc => ?_⟩
    · dsimp only
      rw [wt.1]
      exact congrArg nI (by omega)
    · dsimp only
      by_cases z : j = i
      · subst z
        exact (by
          have h := k1
          rw [e2.2.1 91 (by decide) (by decide)] at h
          rw [show b + 30 + j = b + (30 + 1 * j) by omega, h])
      · have h := e3 j (by omega)
        rw [w1.2.2.2 _ (by omega)]
        exact h
    · unfold qM_passAll_L141
      dsimp only
      rw [if_pos (show nI i < 12 from nI_lt (b := 12) hi (by omega))]
      simp (disch := omega) only [zn_2m, zn_cl, zq_in, nI_1]
      rw [zb2_ok a1, z1]
  · obtain ⟨v1, N0⟩ := v
    obtain ⟨e1, e2, e3⟩ := hv
    dsimp only at e1 e2 e3
    subst e1
    refine ⟨_, ⟨N0, rfl, e2, e3⟩, fun rc => ?_⟩
    unfold qM_passAll_L141
    dsimp only
    rw [if_neg (show ¬ nI 12 < 12 by decide)]
theorem rL_L141 (h33 : M 86 33 = 0) (h32 : M 86 32 = nI (b + 30)) (hb : b ≤ 200) : ∃ M', zlp qM_passAll_L141 zfu (0, M) = (zlp qM_passAll_L171 zfu (0, M')) ∧ M' 86 32 = nI (b + 42) ∧ (∀ j, j ≠ 32 → M' 86 j = M 86 j) ∧ (∀ c, c ≠ 86 → c ≠ 91 → M' c = M c) ∧ (∀ j, j < 12 → M' 91 j = M 106 (b + 30 + j)) ∧ (∀ j, 12 ≤ j → M' 91 j = M 91 j) := by
  refine zlp_inv (b := qM_passAll_L141) (I := fun i v => v.1 = nI i ∧ v.2 86 32 = nI (b + (30 + 1 * i)) ∧ (∀ j, j ≠ 32 → v.2 86 j = M 86 j) ∧ (∀ c, c ≠ 86 → c ≠ 91 → v.2 c = M c) ∧ (∀ j, j < i → v.2 91 j = M 106 (b + 30 + j)) ∧ (∀ j, i ≤ j → v.2 91 j = M 91 j)) 12 (E := fun o => ∃ M', o = (zlp qM_passAll_L171 zfu (0, M')) ∧ M' 86 32 = nI (b + 42) ∧ (∀ j, j ≠ 32 → M' 86 j = M 86 j) ∧ (∀ c, c ≠ 86 → c ≠ 91 → M' c = M c) ∧ (∀ j, j < 12 → M' 91 j = M 106 (b + 30 + j)) ∧ (∀ j, 12 ≤ j → M' 91 j = M 91 j)) (zfu_gt (by omega)) (fun i hi v hv => ?_) (fun v hv => ?_) (s := (0, M)) ⟨rfl, h32, fun _ _ => rfl, fun _ _ _ => rfl, (fun j h => by omega), fun _ _ => rfl⟩
  · obtain ⟨v1, N0⟩ := v
    obtain ⟨e1, e2, e4, e5, e6, r91⟩ := hv
    dsimp only at e1 e2 e4 e5 e6 r91
    subst e1
    have s0 : N0 86 33 = 0 := by rw [e4 33 (by decide)]; exact h33
    have n106 : N0 106 = M 106 := e5 106 (by decide) (by decide)
    obtain ⟨N1, d1⟩ : ∃ N, N = rp N0 b (30 + 1 * i) 91 i := ⟨_, rfl⟩
    have t1 : N1 86 32 = nI (b + (30 + 1 * i + 1)) := by rw [d1]; exact rp_32 (Or.inl (by decide))
    have s1 : N1 86 33 = 0 := by rw [d1, rp_86 (by decide) (by decide)]; exact s0
    have u1 : N1 106 = M 106 := by rw [d1, rp_ne (by decide) (by decide)]; exact n106
    refine ⟨(nI (i + 1), N1), ⟨rfl, ?_, fun j hj => ?_, fun c h0 hc91 => ?_, fun j hj => ?_, fun j hj => ?_⟩, fun rc => ?_⟩
    · dsimp only
      rw [t1]
      exact congrArg nI (by omega)
    · dsimp only
      rw [d1, rp_86 (by decide) hj]
      exact e4 j hj
    · dsimp only
      rw [d1, rp_ne h0 hc91]
      exact e5 c h0 hc91
    · dsimp only
      by_cases z : j = i
      · subst z
        exact (by
          rw [d1, rp_at, n106]
          exact congrArg (M 106) (by omega))
      · have h := e6 j (by omega)
        exact (by
          rw [d1, rp_ot (by decide) (by omega)]
          exact h)
    · dsimp only
      rw [d1, rp_ot (by decide) (by omega)]
      exact r91 j (by omega)
    · unfold qM_passAll_L141
      dsimp only
      rw [if_pos (show nI i < 12 from nI_lt (b := 12) hi (by omega))]
      simp (disch := omega) only [zn_2m, zn_cl, zq_in, nI_1]
      rw [zb2_ok (prS (b := b) (P := 30 + 1 * i) s0 e2 (by omega) _), show zw (zw N0 86 32 (nI (b + (30 + 1 * i + 1)))) 91 i (N0 106 (b + (30 + 1 * i))) = N1 from d1.symm]
  · obtain ⟨v1, N0⟩ := v
    obtain ⟨e1, e2, e4, e5, e6, er⟩ := hv
    dsimp only at e1 e2 e4 e5 e6 er
    subst e1
    refine ⟨_, ⟨N0, rfl, e2, e4, e5, e6, er⟩, fun rc => ?_⟩
    unfold qM_passAll_L141
    dsimp only
    rw [if_neg (show ¬ nI 12 < 12 by decide)]
theorem wL_L171 (h33 : M 86 33 = 1) (h32 : M 86 32 = nI (b + 42)) (hb : b ≤ 200) : ∃ M', zlp qM_passAll_L171 zfu (0, M) = (zlp qM_passAll_L200 zfu (0, M')) ∧ wM M M' b 42 46 ∧ ∀ j, j < 4 → M' 106 (b + 42 + j) = M 92 j := by
  refine zlp_inv (b := qM_passAll_L171) (I := fun i v => v.1 = nI i ∧ wM M v.2 b 42 (42 + 1 * i) ∧ ∀ j, j < i → v.2 106 (b + 42 + j) = M 92 j) 4 (E := fun o => ∃ M', o = (zlp qM_passAll_L200 zfu (0, M')) ∧ wM M M' b 42 46 ∧ ∀ j, j < 4 → M' 106 (b + 42 + j) = M 92 j) (zfu_gt (by omega)) (fun i hi v hv => ?_) (fun v hv => ?_) (s := (0, M)) ⟨rfl, wM.rf h32, fun j h => by omega⟩
  · obtain ⟨v1, N0⟩ := v
    obtain ⟨e1, e2, e3⟩ := hv
    dsimp only at e1 e2 e3
    subst e1
    have s0 : N0 86 33 = 1 := by rw [e2.2.2.1 33 (by decide)]; exact h33
    obtain ⟨N1, a1, z1, w1, k1⟩ := pwS (M := N0) (b := b) (P := 42 + 1 * i) (r := 92) (i := i) s0 e2.1 (by omega) (by decide) (Or.inl (by decide))
    have s1 : N1 86 33 = 1 := by rw [w1.2.2.1 33 (by decide)]; exact s0
    have wt := (e2.tr w1 (by omega) (by omega))
    refine ⟨(nI (i + 1), N1), ⟨rfl, ⟨?_, wt.2.1, wt.2.2.1, fun j hj => wt.2.2.2 j (by omega)⟩, fun j hj => ?_⟩, fun rc => ?_⟩
    · dsimp only
      rw [wt.1]
      exact congrArg nI (by omega)
    · dsimp only
      by_cases z : j = i
      · subst z
        exact (by
          have h := k1
          rw [e2.2.1 92 (by decide) (by decide)] at h
          rw [show b + 42 + j = b + (42 + 1 * j) by omega, h])
      · have h := e3 j (by omega)
        rw [w1.2.2.2 _ (by omega)]
        exact h
    · unfold qM_passAll_L171
      dsimp only
      rw [if_pos (show nI i < 4 from nI_lt (b := 4) hi (by omega))]
      simp (disch := omega) only [zn_2m, zn_cl, zq_in, nI_1]
      rw [zb2_ok a1, z1]
  · obtain ⟨v1, N0⟩ := v
    obtain ⟨e1, e2, e3⟩ := hv
    dsimp only at e1 e2 e3
    subst e1
    refine ⟨_, ⟨N0, rfl, e2, e3⟩, fun rc => ?_⟩
    unfold qM_passAll_L171
    dsimp only
    rw [if_neg (show ¬ nI 4 < 4 by decide)]
theorem rL_L171 (h33 : M 86 33 = 0) (h32 : M 86 32 = nI (b + 42)) (hb : b ≤ 200) : ∃ M', zlp qM_passAll_L171 zfu (0, M) = (zlp qM_passAll_L200 zfu (0, M')) ∧ M' 86 32 = nI (b + 46) ∧ (∀ j, j ≠ 32 → M' 86 j = M 86 j) ∧ (∀ c, c ≠ 86 → c ≠ 92 → M' c = M c) ∧ (∀ j, j < 4 → M' 92 j = M 106 (b + 42 + j)) ∧ (∀ j, 4 ≤ j → M' 92 j = M 92 j) := by
  refine zlp_inv (b := qM_passAll_L171) (I := fun i v => v.1 = nI i ∧ v.2 86 32 = nI (b + (42 + 1 * i)) ∧ (∀ j, j ≠ 32 → v.2 86 j = M 86 j) ∧ (∀ c, c ≠ 86 → c ≠ 92 → v.2 c = M c) ∧ (∀ j, j < i → v.2 92 j = M 106 (b + 42 + j)) ∧ (∀ j, i ≤ j → v.2 92 j = M 92 j)) 4 (E := fun o => ∃ M', o = (zlp qM_passAll_L200 zfu (0, M')) ∧ M' 86 32 = nI (b + 46) ∧ (∀ j, j ≠ 32 → M' 86 j = M 86 j) ∧ (∀ c, c ≠ 86 → c ≠ 92 → M' c = M c) ∧ (∀ j, j < 4 → M' 92 j = M 106 (b + 42 + j)) ∧ (∀ j, 4 ≤ j → M' 92 j = M 92 j)) (zfu_gt (by omega)) (fun i hi v hv => ?_) (fun v hv => ?_) (s := (0, M)) ⟨rfl, h32, fun _ _ => rfl, fun _ _ _ => rfl, (fun j h => by omega), fun _ _ => rfl⟩
  · obtain ⟨v1, N0⟩ := v
    obtain ⟨e1, e2, e4, e5, e6, r92⟩ := hv
    dsimp only at e1 e2 e4 e5 e6 r92
    subst e1
    have s0 : N0 86 33 = 0 := by rw [e4 33 (by decide)]; exact h33
    have n106 : N0 106 = M 106 := e5 106 (by decide) (by decide)
    obtain ⟨N1, d1⟩ : ∃ N, N = rp N0 b (42 + 1 * i) 92 i := ⟨_, rfl⟩
    have t1 : N1 86 32 = nI (b + (42 + 1 * i + 1)) := by rw [d1]; exact rp_32 (Or.inl (by decide))
    have s1 : N1 86 33 = 0 := by rw [d1, rp_86 (by decide) (by decide)]; exact s0
    have u1 : N1 106 = M 106 := by rw [d1, rp_ne (by decide) (by decide)]; exact n106
    refine ⟨(nI (i + 1), N1), ⟨rfl, ?_, fun j hj => ?_, fun c h0 hc92 => ?_, fun j hj => ?_, fun j hj => ?_⟩, fun rc => ?_⟩
    · dsimp only
      rw [t1]
      exact congrArg nI (by omega)
    · dsimp only
      rw [d1, rp_86 (by decide) hj]
      exact e4 j hj
    · dsimp only
      rw [d1, rp_ne h0 hc92]
      exact e5 c h0 hc92
    · dsimp only
      by_cases z : j = i
      · subst z
        exact (by
          rw [d1, rp_at, n106]
          exact congrArg (M 106) (by omega))
      · have h := e6 j (by omega)
        exact (by
          rw [d1, rp_ot (by decide) (by omega)]
          exact h)
    · dsimp only
      rw [d1, rp_ot (by decide) (by omega)]
      exact r92 j (by omega)
    · unfold qM_passAll_L171
      dsimp only
      rw [if_pos (show nI i < 4 from nI_lt (b := 4) hi (by omega))]
      simp (disch := omega) only [zn_2m, zn_cl, zq_in, nI_1]
      rw [zb2_ok (prS (b := b) (P := 42 + 1 * i) s0 e2 (by omega) _), show zw (zw N0 86 32 (nI (b + (42 + 1 * i + 1)))) 92 i (N0 106 (b + (42 + 1 * i))) = N1 from d1.symm]
  · obtain ⟨v1, N0⟩ := v
    obtain ⟨e1, e2, e4, e5, e6, er⟩ := hv
    dsimp only at e1 e2 e4 e5 e6 er
    subst e1
    refine ⟨_, ⟨N0, rfl, e2, e4, e5, e6, er⟩, fun rc => ?_⟩
    unfold qM_passAll_L171
    dsimp only
    rw [if_neg (show ¬ nI 4 < 4 by decide)]
theorem wL_L200 (h33 : M 86 33 = 1) (h32 : M 86 32 = nI (b + 46)) (hb : b ≤ 200) : ∃ M', zlp qM_passAll_L200 zfu (0, M) = (zlp qM_passAll_L305 zfu (0, M')) ∧ wM M M' b 46 71 ∧ ∀ j, j < 5 → M' 106 (b + 46 + 5 * j) = M 93 j ∧ M' 106 (b + 46 + 5 * j + 1) = M 94 (2 * j) ∧ M' 106 (b + 46 + 5 * j + 2) = M 94 (2 * j + 1) ∧ M' 106 (b + 46 + 5 * j + 3) = M 95 j ∧ M' 106 (b + 46 + 5 * j + 4) = M 96 j := by
  refine zlp_inv (b := qM_passAll_L200) (I := fun i v => v.1 = nI i ∧ wM M v.2 b 46 (46 + 5 * i) ∧ ∀ j, j < i → v.2 106 (b + 46 + 5 * j) = M 93 j ∧ v.2 106 (b + 46 + 5 * j + 1) = M 94 (2 * j) ∧ v.2 106 (b + 46 + 5 * j + 2) = M 94 (2 * j + 1) ∧ v.2 106 (b + 46 + 5 * j + 3) = M 95 j ∧ v.2 106 (b + 46 + 5 * j + 4) = M 96 j) 5 (E := fun o => ∃ M', o = (zlp qM_passAll_L305 zfu (0, M')) ∧ wM M M' b 46 71 ∧ ∀ j, j < 5 → M' 106 (b + 46 + 5 * j) = M 93 j ∧ M' 106 (b + 46 + 5 * j + 1) = M 94 (2 * j) ∧ M' 106 (b + 46 + 5 * j + 2) = M 94 (2 * j + 1) ∧ M' 106 (b + 46 + 5 * j + 3) = M 95 j ∧ M' 106 (b + 46 + 5 * j + 4) = M 96 j) (zfu_gt (by omega)) (fun i hi v hv => ?_) (fun v hv => ?_) (s := (0, M)) ⟨rfl, wM.rf h32, fun j h => by omega⟩
  · obtain ⟨v1, N0⟩ := v
    obtain ⟨e1, e2, e3⟩ := hv
    dsimp only at e1 e2 e3
    subst e1
    have s0 : N0 86 33 = 1 := by rw [e2.2.2.1 33 (by decide)]; exact h33
    obtain ⟨N1, a1, z1, w1, k1⟩ := pwS (M := N0) (b := b) (P := 46 + 5 * i) (r := 93) (i := i) s0 e2.1 (by omega) (by decide) (Or.inl (by decide))
    have s1 : N1 86 33 = 1 := by rw [w1.2.2.1 33 (by decide)]; exact s0
    obtain ⟨N2, a2, z2, w2, k2⟩ := pwS (M := N1) (b := b) (P := 46 + 5 * i + 1) (r := 94) (i := 2 * i) s1 w1.1 (by omega) (by decide) (Or.inl (by decide))
    have s2 : N2 86 33 = 1 := by rw [w2.2.2.1 33 (by decide)]; exact s1
    obtain ⟨N3, a3, z3, w3, k3⟩ := pwS (M := N2) (b := b) (P := 46 + 5 * i + 2) (r := 94) (i := 2 * i + 1) s2 w2.1 (by omega) (by decide) (Or.inl (by decide))
    have s3 : N3 86 33 = 1 := by rw [w3.2.2.1 33 (by decide)]; exact s2
    obtain ⟨N4, a4, z4, w4, k4⟩ := pwS (M := N3) (b := b) (P := 46 + 5 * i + 3) (r := 95) (i := i) s3 w3.1 (by omega) (by decide) (Or.inl (by decide))
    have s4 : N4 86 33 = 1 := by rw [w4.2.2.1 33 (by decide)]; exact s3
    obtain ⟨N5, a5, z5, w5, k5⟩ := pwS (M := N4) (b := b) (P := 46 + 5 * i + 4) (r := 96) (i := i) s4 w4.1 (by omega) (by decide) (Or.inl (by decide))
    have s5 : N5 86 33 = 1 := by rw [w5.2.2.1 33 (by decide)]; exact s4
    have wt := (((((e2.tr w1 (by omega) (by omega)).tr w2 (by omega) (by omega)).tr w3 (by omega) (by omega)).tr w4 (by omega) (by omega)).tr w5 (by omega) (by omega))
    refine ⟨(nI (i + 1), N5), ⟨rfl, ⟨?_, wt.2.1, wt.2.2.1, fun j hj => wt.2.2.2 j (by omega)⟩, fun j hj => ?_⟩, fun rc => ?_⟩
    · dsimp only
      rw [wt.1]
      exact congrArg nI (by omega)
    · dsimp only
      by_cases z : j = i
      · subst z
        exact ⟨(by
          have h := k1
          rw [e2.2.1 93 (by decide) (by decide)] at h
          rw [show b + 46 + 5 * j = b + (46 + 5 * j) by omega, w5.2.2.2 _ (by omega), w4.2.2.2 _ (by omega), w3.2.2.2 _ (by omega), w2.2.2.2 _ (by omega), h]), (by
          have h := k2
          rw [w1.2.1 94 (by decide) (by decide), e2.2.1 94 (by decide) (by decide)] at h
          rw [show b + 46 + 5 * j + 1 = b + (46 + 5 * j + 1) by omega, w5.2.2.2 _ (by omega), w4.2.2.2 _ (by omega), w3.2.2.2 _ (by omega), h]), (by
          have h := k3
          rw [w2.2.1 94 (by decide) (by decide), w1.2.1 94 (by decide) (by decide), e2.2.1 94 (by decide) (by decide)] at h
          rw [show b + 46 + 5 * j + 2 = b + (46 + 5 * j + 2) by omega, w5.2.2.2 _ (by omega), w4.2.2.2 _ (by omega), h]), (by
          have h := k4
          rw [w3.2.1 95 (by decide) (by decide), w2.2.1 95 (by decide) (by decide), w1.2.1 95 (by decide) (by decide), e2.2.1 95 (by decide) (by decide)] at h
          rw [show b + 46 + 5 * j + 3 = b + (46 + 5 * j + 3) by omega, w5.2.2.2 _ (by omega), h]), (by
          have h := k5
          rw [w4.2.1 96 (by decide) (by decide), w3.2.1 96 (by decide) (by decide), w2.2.1 96 (by decide) (by decide), w1.2.1 96 (by decide) (by decide), e2.2.1 96 (by decide) (by decide)] at h
          rw [show b + 46 + 5 * j + 4 = b + (46 + 5 * j + 4) by omega, h])⟩
      · have h := e3 j (by omega)
        refine ⟨?_, ?_, ?_, ?_, ?_⟩
        · rw [w5.2.2.2 _ (by omega), w4.2.2.2 _ (by omega), w3.2.2.2 _ (by omega), w2.2.2.2 _ (by omega), w1.2.2.2 _ (by omega)]
          exact h.1
        · rw [w5.2.2.2 _ (by omega), w4.2.2.2 _ (by omega), w3.2.2.2 _ (by omega), w2.2.2.2 _ (by omega), w1.2.2.2 _ (by omega)]
          exact h.2.1
        · rw [w5.2.2.2 _ (by omega), w4.2.2.2 _ (by omega), w3.2.2.2 _ (by omega), w2.2.2.2 _ (by omega), w1.2.2.2 _ (by omega)]
          exact h.2.2.1
        · rw [w5.2.2.2 _ (by omega), w4.2.2.2 _ (by omega), w3.2.2.2 _ (by omega), w2.2.2.2 _ (by omega), w1.2.2.2 _ (by omega)]
          exact h.2.2.2.1
        · rw [w5.2.2.2 _ (by omega), w4.2.2.2 _ (by omega), w3.2.2.2 _ (by omega), w2.2.2.2 _ (by omega), w1.2.2.2 _ (by omega)]
          exact h.2.2.2.2
    · unfold qM_passAll_L200
      dsimp only
      rw [if_pos (show nI i < 5 from nI_lt (b := 5) hi (by omega))]
      simp (disch := omega) only [zn_2m, zn_cl, zq_in, nI_1]
      rw [zb2_ok a1, z1, zb2_ok a2, z2, zb2_ok a3, z3, zb2_ok a4, z4, zb2_ok a5, z5]
  · obtain ⟨v1, N0⟩ := v
    obtain ⟨e1, e2, e3⟩ := hv
    dsimp only at e1 e2 e3
    subst e1
    refine ⟨_, ⟨N0, rfl, e2, e3⟩, fun rc => ?_⟩
    unfold qM_passAll_L200
    dsimp only
    rw [if_neg (show ¬ nI 5 < 5 by decide)]
theorem rL_L200 (h33 : M 86 33 = 0) (h32 : M 86 32 = nI (b + 46)) (hb : b ≤ 200) : ∃ M', zlp qM_passAll_L200 zfu (0, M) = (zlp qM_passAll_L305 zfu (0, M')) ∧ M' 86 32 = nI (b + 71) ∧ (∀ j, j ≠ 32 → M' 86 j = M 86 j) ∧ (∀ c, c ≠ 86 → c ≠ 93 → c ≠ 94 → c ≠ 95 → c ≠ 96 → M' c = M c) ∧ (∀ j, j < 5 → M' 93 j = M 106 (b + 46 + 5 * j) ∧ M' 94 (2 * j) = M 106 (b + 46 + 5 * j + 1) ∧ M' 94 (2 * j + 1) = M 106 (b + 46 + 5 * j + 2) ∧ M' 95 j = M 106 (b + 46 + 5 * j + 3) ∧ M' 96 j = M 106 (b + 46 + 5 * j + 4)) ∧ (∀ j, 5 ≤ j → M' 93 j = M 93 j) ∧ (∀ j, 10 ≤ j → M' 94 j = M 94 j) ∧ (∀ j, 5 ≤ j → M' 95 j = M 95 j) ∧ (∀ j, 5 ≤ j → M' 96 j = M 96 j) := by
  refine zlp_inv (b := qM_passAll_L200) (I := fun i v => v.1 = nI i ∧ v.2 86 32 = nI (b + (46 + 5 * i)) ∧ (∀ j, j ≠ 32 → v.2 86 j = M 86 j) ∧ (∀ c, c ≠ 86 → c ≠ 93 → c ≠ 94 → c ≠ 95 → c ≠ 96 → v.2 c = M c) ∧ (∀ j, j < i → v.2 93 j = M 106 (b + 46 + 5 * j) ∧ v.2 94 (2 * j) = M 106 (b + 46 + 5 * j + 1) ∧ v.2 94 (2 * j + 1) = M 106 (b + 46 + 5 * j + 2) ∧ v.2 95 j = M 106 (b + 46 + 5 * j + 3) ∧ v.2 96 j = M 106 (b + 46 + 5 * j + 4)) ∧ (∀ j, i ≤ j → v.2 93 j = M 93 j) ∧ (∀ j, 2 * i ≤ j → v.2 94 j = M 94 j) ∧ (∀ j, i ≤ j → v.2 95 j = M 95 j) ∧ (∀ j, i ≤ j → v.2 96 j = M 96 j)) 5 (E := fun o => ∃ M', o = (zlp qM_passAll_L305 zfu (0, M')) ∧ M' 86 32 = nI (b + 71) ∧ (∀ j, j ≠ 32 → M' 86 j = M 86 j) ∧ (∀ c, c ≠ 86 → c ≠ 93 → c ≠ 94 → c ≠ 95 → c ≠ 96 → M' c = M c) ∧ (∀ j, j < 5 → M' 93 j = M 106 (b + 46 + 5 * j) ∧ M' 94 (2 * j) = M 106 (b + 46 + 5 * j + 1) ∧ M' 94 (2 * j + 1) = M 106 (b + 46 + 5 * j + 2) ∧ M' 95 j = M 106 (b + 46 + 5 * j + 3) ∧ M' 96 j = M 106 (b + 46 + 5 * j + 4)) ∧ (∀ j, 5 ≤ j → M' 93 j = M 93 j) ∧ (∀ j, 10 ≤ j → M' 94 j = M 94 j) ∧ (∀ j, 5 ≤ j → M' 95 j = M 95 j) ∧ (∀ j, 5 ≤ j → M' 96 j = M 96 j)) (zfu_gt (by omega)) (fun i hi v hv => ?_) (fun v hv => ?_) (s := (0, M)) ⟨rfl, h32, fun _ _ => rfl, fun _ _ _ _ _ _ => rfl, (fun j h => by omega), fun _ _ => rfl, fun _ _ => rfl, fun _ _ => rfl, fun _ _ => rfl⟩
  · obtain ⟨v1, N0⟩ := v
    obtain ⟨e1, e2, e4, e5, e6, r93, r94, r95, r96⟩ := hv
    dsimp only at e1 e2 e4 e5 e6 r93 r94 r95 r96
    subst e1
    have s0 : N0 86 33 = 0 := by rw [e4 33 (by decide)]; exact h33
    have n106 : N0 106 = M 106 := e5 106 (by decide) (by decide) (by decide) (by decide) (by decide)
    obtain ⟨N1, d1⟩ : ∃ N, N = rp N0 b (46 + 5 * i) 93 i := ⟨_, rfl⟩
    have t1 : N1 86 32 = nI (b + (46 + 5 * i + 1)) := by rw [d1]; exact rp_32 (Or.inl (by decide))
    have s1 : N1 86 33 = 0 := by rw [d1, rp_86 (by decide) (by decide)]; exact s0
    have u1 : N1 106 = M 106 := by rw [d1, rp_ne (by decide) (by decide)]; exact n106
    obtain ⟨N2, d2⟩ : ∃ N, N = rp N1 b (46 + 5 * i + 1) 94 (2 * i) := ⟨_, rfl⟩
    have t2 : N2 86 32 = nI (b + (46 + 5 * i + 2)) := by rw [d2]; exact rp_32 (Or.inl (by decide))
    have s2 : N2 86 33 = 0 := by rw [d2, rp_86 (by decide) (by decide)]; exact s1
    have u2 : N2 106 = M 106 := by rw [d2, rp_ne (by decide) (by decide)]; exact u1
    obtain ⟨N3, d3⟩ : ∃ N, N = rp N2 b (46 + 5 * i + 2) 94 (2 * i + 1) := ⟨_, rfl⟩
    have t3 : N3 86 32 = nI (b + (46 + 5 * i + 3)) := by rw [d3]; exact rp_32 (Or.inl (by decide))
    have s3 : N3 86 33 = 0 := by rw [d3, rp_86 (by decide) (by decide)]; exact s2
    have u3 : N3 106 = M 106 := by rw [d3, rp_ne (by decide) (by decide)]; exact u2
    obtain ⟨N4, d4⟩ : ∃ N, N = rp N3 b (46 + 5 * i + 3) 95 i := ⟨_, rfl⟩
    have t4 : N4 86 32 = nI (b + (46 + 5 * i + 4)) := by rw [d4]; exact rp_32 (Or.inl (by decide))
    have s4 : N4 86 33 = 0 := by rw [d4, rp_86 (by decide) (by decide)]; exact s3
    have u4 : N4 106 = M 106 := by rw [d4, rp_ne (by decide) (by decide)]; exact u3
    obtain ⟨N5, d5⟩ : ∃ N, N = rp N4 b (46 + 5 * i + 4) 96 i := ⟨_, rfl⟩
    have t5 : N5 86 32 = nI (b + (46 + 5 * i + 5)) := by rw [d5]; exact rp_32 (Or.inl (by decide))
    have s5 : N5 86 33 = 0 := by rw [d5, rp_86 (by decide) (by decide)]; exact s4
    have u5 : N5 106 = M 106 := by rw [d5, rp_ne (by decide) (by decide)]; exact u4
    refine ⟨(nI (i + 1), N5), ⟨rfl, ?_, fun j hj => ?_, fun c h0 hc93 hc94 hc95 hc96 => ?_, fun j hj => ?_, fun j hj => ?_, fun j hj => ?_, fun j hj => ?_, fun j hj => ?_⟩, fun rc => ?_⟩
    · dsimp only
      rw [t5]
      exact congrArg nI (by omega)
    · dsimp only
      rw [d5, rp_86 (by decide) hj, d4, rp_86 (by decide) hj, d3, rp_86 (by decide) hj, d2, rp_86 (by decide) hj, d1, rp_86 (by decide) hj]
      exact e4 j hj
    · dsimp only
      rw [d5, rp_ne h0 hc96, d4, rp_ne h0 hc95, d3, rp_ne h0 hc94, d2, rp_ne h0 hc94, d1, rp_ne h0 hc93]
      exact e5 c h0 hc93 hc94 hc95 hc96
    · dsimp only
      by_cases z : j = i
      · subst z
        exact ⟨(by
          rw [d5, rp_ne (by decide) (by decide), d4, rp_ne (by decide) (by decide), d3, rp_ne (by decide) (by decide), d2, rp_ne (by decide) (by decide), d1, rp_at, n106]
          exact congrArg (M 106) (by omega)), (by
          rw [d5, rp_ne (by decide) (by decide), d4, rp_ne (by decide) (by decide), d3, rp_ot (by decide) (by omega), d2, rp_at, u1]
          exact congrArg (M 106) (by omega)), (by
          rw [d5, rp_ne (by decide) (by decide), d4, rp_ne (by decide) (by decide), d3, rp_at, u2]
          exact congrArg (M 106) (by omega)), (by
          rw [d5, rp_ne (by decide) (by decide), d4, rp_at, u3]
          exact congrArg (M 106) (by omega)), (by
          rw [d5, rp_at, u4]
          exact congrArg (M 106) (by omega))⟩
      · have h := e6 j (by omega)
        exact ⟨(by
          rw [d5, rp_ne (by decide) (by decide), d4, rp_ne (by decide) (by decide), d3, rp_ne (by decide) (by decide), d2, rp_ne (by decide) (by decide), d1, rp_ot (by decide) (by omega)]
          exact h.1), (by
          rw [d5, rp_ne (by decide) (by decide), d4, rp_ne (by decide) (by decide), d3, rp_ot (by decide) (by omega), d2, rp_ot (by decide) (by omega), d1, rp_ne (by decide) (by decide)]
          exact h.2.1), (by
          rw [d5, rp_ne (by decide) (by decide), d4, rp_ne (by decide) (by decide), d3, rp_ot (by decide) (by omega), d2, rp_ot (by decide) (by omega), d1, rp_ne (by decide) (by decide)]
          exact h.2.2.1), (by
          rw [d5, rp_ne (by decide) (by decide), d4, rp_ot (by decide) (by omega), d3, rp_ne (by decide) (by decide), d2, rp_ne (by decide) (by decide), d1, rp_ne (by decide) (by decide)]
          exact h.2.2.2.1), (by
          rw [d5, rp_ot (by decide) (by omega), d4, rp_ne (by decide) (by decide), d3, rp_ne (by decide) (by decide), d2, rp_ne (by decide) (by decide), d1, rp_ne (by decide) (by decide)]
          exact h.2.2.2.2)⟩
    · dsimp only
      rw [d5, rp_ne (by decide) (by decide), d4, rp_ne (by decide) (by decide), d3, rp_ne (by decide) (by decide), d2, rp_ne (by decide) (by decide), d1, rp_ot (by decide) (by omega)]
      exact r93 j (by omega)
    · dsimp only
      rw [d5, rp_ne (by decide) (by decide), d4, rp_ne (by decide) (by decide), d3, rp_ot (by decide) (by omega), d2, rp_ot (by decide) (by omega), d1, rp_ne (by decide) (by decide)]
      exact r94 j (by omega)
    · dsimp only
      rw [d5, rp_ne (by decide) (by decide), d4, rp_ot (by decide) (by omega), d3, rp_ne (by decide) (by decide), d2, rp_ne (by decide) (by decide), d1, rp_ne (by decide) (by decide)]
      exact r95 j (by omega)
    · dsimp only
      rw [d5, rp_ot (by decide) (by omega), d4, rp_ne (by decide) (by decide), d3, rp_ne (by decide) (by decide), d2, rp_ne (by decide) (by decide), d1, rp_ne (by decide) (by decide)]
      exact r96 j (by omega)
    · unfold qM_passAll_L200
      dsimp only
      rw [if_pos (show nI i < 5 from nI_lt (b := 5) hi (by omega))]
      simp (disch := omega) only [zn_2m, zn_cl, zq_in, nI_1]
      rw [zb2_ok (prS (b := b) (P := 46 + 5 * i) s0 e2 (by omega) _), show zw (zw N0 86 32 (nI (b + (46 + 5 * i + 1)))) 93 i (N0 106 (b + (46 + 5 * i))) = N1 from d1.symm, zb2_ok (prS (b := b) (P := 46 + 5 * i + 1) s1 t1 (by omega) _), show zw (zw N1 86 32 (nI (b + (46 + 5 * i + 1 + 1)))) 94 (2 * i) (N1 106 (b + (46 + 5 * i + 1))) = N2 from d2.symm, zb2_ok (prS (b := b) (P := 46 + 5 * i + 2) s2 t2 (by omega) _), show zw (zw N2 86 32 (nI (b + (46 + 5 * i + 2 + 1)))) 94 (2 * i + 1) (N2 106 (b + (46 + 5 * i + 2))) = N3 from d3.symm, zb2_ok (prS (b := b) (P := 46 + 5 * i + 3) s3 t3 (by omega) _), show zw (zw N3 86 32 (nI (b + (46 + 5 * i + 3 + 1)))) 95 i (N3 106 (b + (46 + 5 * i + 3))) = N4 from d4.symm, zb2_ok (prS (b := b) (P := 46 + 5 * i + 4) s4 t4 (by omega) _), show zw (zw N4 86 32 (nI (b + (46 + 5 * i + 4 + 1)))) 96 i (N4 106 (b + (46 + 5 * i + 4))) = N5 from d5.symm]
  · obtain ⟨v1, N0⟩ := v
    obtain ⟨e1, e2, e4, e5, e6, er⟩ := hv
    dsimp only at e1 e2 e4 e5 e6 er
    subst e1
    refine ⟨_, ⟨N0, rfl, e2, e4, e5, e6, er⟩, fun rc => ?_⟩
    unfold qM_passAll_L200
    dsimp only
    rw [if_neg (show ¬ nI 5 < 5 by decide)]
theorem wL_L305 (h33 : M 86 33 = 1) (h32 : M 86 32 = nI (b + 71)) (hb : b ≤ 200) : ∃ M', zlp qM_passAll_L305 zfu (0, M) = (zlp qM_passAll_L367 zfu (0, M')) ∧ wM M M' b 71 131 ∧ ∀ j, j < 20 → M' 106 (b + 71 + 3 * j) = M 97 j ∧ M' 106 (b + 71 + 3 * j + 1) = M 98 j ∧ M' 106 (b + 71 + 3 * j + 2) = M 99 j := by
  refine zlp_inv (b := qM_passAll_L305) (I := fun i v => v.1 = nI i ∧ wM M v.2 b 71 (71 + 3 * i) ∧ ∀ j, j < i → v.2 106 (b + 71 + 3 * j) = M 97 j ∧ v.2 106 (b + 71 + 3 * j + 1) = M 98 j ∧ v.2 106 (b + 71 + 3 * j + 2) = M 99 j) 20 (E := fun o => ∃ M', o = (zlp qM_passAll_L367 zfu (0, M')) ∧ wM M M' b 71 131 ∧ ∀ j, j < 20 → M' 106 (b + 71 + 3 * j) = M 97 j ∧ M' 106 (b + 71 + 3 * j + 1) = M 98 j ∧ M' 106 (b + 71 + 3 * j + 2) = M 99 j) (zfu_gt (by omega)) (fun i hi v hv => ?_) (fun v hv => ?_) (s := (0, M)) ⟨rfl, wM.rf h32, fun j h => by omega⟩
  · obtain ⟨v1, N0⟩ := v
    obtain ⟨e1, e2, e3⟩ := hv
    dsimp only at e1 e2 e3
    subst e1
    have s0 : N0 86 33 = 1 := by rw [e2.2.2.1 33 (by decide)]; exact h33
    obtain ⟨N1, a1, z1, w1, k1⟩ := pwS (M := N0) (b := b) (P := 71 + 3 * i) (r := 97) (i := i) s0 e2.1 (by omega) (by decide) (Or.inl (by decide))
    have s1 : N1 86 33 = 1 := by rw [w1.2.2.1 33 (by decide)]; exact s0
    obtain ⟨N2, a2, z2, w2, k2⟩ := pwS (M := N1) (b := b) (P := 71 + 3 * i + 1) (r := 98) (i := i) s1 w1.1 (by omega) (by decide) (Or.inl (by decide))
    have s2 : N2 86 33 = 1 := by rw [w2.2.2.1 33 (by decide)]; exact s1
    obtain ⟨N3, a3, z3, w3, k3⟩ := pwS (M := N2) (b := b) (P := 71 + 3 * i + 2) (r := 99) (i := i) s2 w2.1 (by omega) (by decide) (Or.inl (by decide))
    have s3 : N3 86 33 = 1 := by rw [w3.2.2.1 33 (by decide)]; exact s2
    have wt := (((e2.tr w1 (by omega) (by omega)).tr w2 (by omega) (by omega)).tr w3 (by omega) (by omega))
    refine ⟨(nI (i + 1), N3), ⟨rfl, ⟨?_, wt.2.1, wt.2.2.1, fun j hj => wt.2.2.2 j (by omega)⟩, fun j hj => ?_⟩, fun rc => ?_⟩
    · dsimp only
      rw [wt.1]
      exact congrArg nI (by omega)
    · dsimp only
      by_cases z : j = i
      · subst z
        exact ⟨(by
          have h := k1
          rw [e2.2.1 97 (by decide) (by decide)] at h
          rw [show b + 71 + 3 * j = b + (71 + 3 * j) by omega, w3.2.2.2 _ (by omega), w2.2.2.2 _ (by omega), h]), (by
          have h := k2
          rw [w1.2.1 98 (by decide) (by decide), e2.2.1 98 (by decide) (by decide)] at h
          rw [show b + 71 + 3 * j + 1 = b + (71 + 3 * j + 1) by omega, w3.2.2.2 _ (by omega), h]), (by
          have h := k3
          rw [w2.2.1 99 (by decide) (by decide), w1.2.1 99 (by decide) (by decide), e2.2.1 99 (by decide) (by decide)] at h
          rw [show b + 71 + 3 * j + 2 = b + (71 + 3 * j + 2) by omega, h])⟩
      · have h := e3 j (by omega)
        refine ⟨?_, ?_, ?_⟩
        · rw [w3.2.2.2 _ (by omega), w2.2.2.2 _ (by omega), w1.2.2.2 _ (by omega)]
          exact h.1
        · rw [w3.2.2.2 _ (by omega), w2.2.2.2 _ (by omega), w1.2.2.2 _ (by omega)]
          exact h.2.1
        · rw [w3.2.2.2 _ (by omega), w2.2.2.2 _ (by omega), w1.2.2.2 _ (by omega)]
          exact h.2.2
    · unfold qM_passAll_L305
      dsimp only
      rw [if_pos (show nI i < 20 from nI_lt (b := 20) hi (by omega))]
      simp (disch := omega) only [zn_2m, zn_cl, zq_in, nI_1]
      rw [zb2_ok a1, z1, zb2_ok a2, z2, zb2_ok a3, z3]
  · obtain ⟨v1, N0⟩ := v
    obtain ⟨e1, e2, e3⟩ := hv
    dsimp only at e1 e2 e3
    subst e1
    refine ⟨_, ⟨N0, rfl, e2, e3⟩, fun rc => ?_⟩
    unfold qM_passAll_L305
    dsimp only
    rw [if_neg (show ¬ nI 20 < 20 by decide)]
theorem rL_L305 (h33 : M 86 33 = 0) (h32 : M 86 32 = nI (b + 71)) (hb : b ≤ 200) : ∃ M', zlp qM_passAll_L305 zfu (0, M) = (zlp qM_passAll_L367 zfu (0, M')) ∧ M' 86 32 = nI (b + 131) ∧ (∀ j, j ≠ 32 → M' 86 j = M 86 j) ∧ (∀ c, c ≠ 86 → c ≠ 97 → c ≠ 98 → c ≠ 99 → M' c = M c) ∧ (∀ j, j < 20 → M' 97 j = M 106 (b + 71 + 3 * j) ∧ M' 98 j = M 106 (b + 71 + 3 * j + 1) ∧ M' 99 j = M 106 (b + 71 + 3 * j + 2)) ∧ (∀ j, 20 ≤ j → M' 97 j = M 97 j) ∧ (∀ j, 20 ≤ j → M' 98 j = M 98 j) ∧ (∀ j, 20 ≤ j → M' 99 j = M 99 j) := by
  refine zlp_inv (b := qM_passAll_L305) (I := fun i v => v.1 = nI i ∧ v.2 86 32 = nI (b + (71 + 3 * i)) ∧ (∀ j, j ≠ 32 → v.2 86 j = M 86 j) ∧ (∀ c, c ≠ 86 → c ≠ 97 → c ≠ 98 → c ≠ 99 → v.2 c = M c) ∧ (∀ j, j < i → v.2 97 j = M 106 (b + 71 + 3 * j) ∧ v.2 98 j = M 106 (b + 71 + 3 * j + 1) ∧ v.2 99 j = M 106 (b + 71 + 3 * j + 2)) ∧ (∀ j, i ≤ j → v.2 97 j = M 97 j) ∧ (∀ j, i ≤ j → v.2 98 j = M 98 j) ∧ (∀ j, i ≤ j → v.2 99 j = M 99 j)) 20 (E := fun o => ∃ M', o = (zlp qM_passAll_L367 zfu (0, M')) ∧ M' 86 32 = nI (b + 131) ∧ (∀ j, j ≠ 32 → M' 86 j = M 86 j) ∧ (∀ c, c ≠ 86 → c ≠ 97 → c ≠ 98 → c ≠ 99 → M' c = M c) ∧ (∀ j, j < 20 → M' 97 j = M 106 (b + 71 + 3 * j) ∧ M' 98 j = M 106 (b + 71 + 3 * j + 1) ∧ M' 99 j = M 106 (b + 71 + 3 * j + 2)) ∧ (∀ j, 20 ≤ j → M' 97 j = M 97 j) ∧ (∀ j, 20 ≤ j → M' 98 j = M 98 j) ∧ (∀ j, 20 ≤ j → M' 99 j = M 99 j)) (zfu_gt (by omega)) (fun i hi v hv => ?_) (fun v hv => ?_) (s := (0, M)) ⟨rfl, h32, fun _ _ => rfl, fun _ _ _ _ _ => rfl, (fun j h => by omega), fun _ _ => rfl, fun _ _ => rfl, fun _ _ => rfl⟩
  · obtain ⟨v1, N0⟩ := v
    obtain ⟨e1, e2, e4, e5, e6, r97, r98, r99⟩ := hv
    dsimp only at e1 e2 e4 e5 e6 r97 r98 r99
    subst e1
    have s0 : N0 86 33 = 0 := by rw [e4 33 (by decide)]; exact h33
    have n106 : N0 106 = M 106 := e5 106 (by decide) (by decide) (by decide) (by decide)
    obtain ⟨N1, d1⟩ : ∃ N, N = rp N0 b (71 + 3 * i) 97 i := ⟨_, rfl⟩
    have t1 : N1 86 32 = nI (b + (71 + 3 * i + 1)) := by rw [d1]; exact rp_32 (Or.inl (by decide))
    have s1 : N1 86 33 = 0 := by rw [d1, rp_86 (by decide) (by decide)]; exact s0
    have u1 : N1 106 = M 106 := by rw [d1, rp_ne (by decide) (by decide)]; exact n106
    obtain ⟨N2, d2⟩ : ∃ N, N = rp N1 b (71 + 3 * i + 1) 98 i := ⟨_, rfl⟩
    have t2 : N2 86 32 = nI (b + (71 + 3 * i + 2)) := by rw [d2]; exact rp_32 (Or.inl (by decide))
    have s2 : N2 86 33 = 0 := by rw [d2, rp_86 (by decide) (by decide)]; exact s1
    have u2 : N2 106 = M 106 := by rw [d2, rp_ne (by decide) (by decide)]; exact u1
    obtain ⟨N3, d3⟩ : ∃ N, N = rp N2 b (71 + 3 * i + 2) 99 i := ⟨_, rfl⟩
    have t3 : N3 86 32 = nI (b + (71 + 3 * i + 3)) := by rw [d3]; exact rp_32 (Or.inl (by decide))
    have s3 : N3 86 33 = 0 := by rw [d3, rp_86 (by decide) (by decide)]; exact s2
    have u3 : N3 106 = M 106 := by rw [d3, rp_ne (by decide) (by decide)]; exact u2
    refine ⟨(nI (i + 1), N3), ⟨rfl, ?_, fun j hj => ?_, fun c h0 hc97 hc98 hc99 => ?_, fun j hj => ?_, fun j hj => ?_, fun j hj => ?_, fun j hj => ?_⟩, fun rc => ?_⟩
    · dsimp only
      rw [t3]
      exact congrArg nI (by omega)
    · dsimp only
      rw [d3, rp_86 (by decide) hj, d2, rp_86 (by decide) hj, d1, rp_86 (by decide) hj]
      exact e4 j hj
    · dsimp only
      rw [d3, rp_ne h0 hc99, d2, rp_ne h0 hc98, d1, rp_ne h0 hc97]
      exact e5 c h0 hc97 hc98 hc99
    · dsimp only
      by_cases z : j = i
      · subst z
        exact ⟨(by
          rw [d3, rp_ne (by decide) (by decide), d2, rp_ne (by decide) (by decide), d1, rp_at, n106]
          exact congrArg (M 106) (by omega)), (by
          rw [d3, rp_ne (by decide) (by decide), d2, rp_at, u1]
          exact congrArg (M 106) (by omega)), (by
          rw [d3, rp_at, u2]
          exact congrArg (M 106) (by omega))⟩
      · have h := e6 j (by omega)
        exact ⟨(by
          rw [d3, rp_ne (by decide) (by decide), d2, rp_ne (by decide) (by decide), d1, rp_ot (by decide) (by omega)]
          exact h.1), (by
          rw [d3, rp_ne (by decide) (by decide), d2, rp_ot (by decide) (by omega), d1, rp_ne (by decide) (by decide)]
          exact h.2.1), (by
          rw [d3, rp_ot (by decide) (by omega), d2, rp_ne (by decide) (by decide), d1, rp_ne (by decide) (by decide)]
          exact h.2.2)⟩
    · dsimp only
      rw [d3, rp_ne (by decide) (by decide), d2, rp_ne (by decide) (by decide), d1, rp_ot (by decide) (by omega)]
      exact r97 j (by omega)
    · dsimp only
      rw [d3, rp_ne (by decide) (by decide), d2, rp_ot (by decide) (by omega), d1, rp_ne (by decide) (by decide)]
      exact r98 j (by omega)
    · dsimp only
      rw [d3, rp_ot (by decide) (by omega), d2, rp_ne (by decide) (by decide), d1, rp_ne (by decide) (by decide)]
      exact r99 j (by omega)
    · unfold qM_passAll_L305
      dsimp only
      rw [if_pos (show nI i < 20 from nI_lt (b := 20) hi (by omega))]
      simp (disch := omega) only [zn_2m, zn_cl, zq_in, nI_1]
      rw [zb2_ok (prS (b := b) (P := 71 + 3 * i) s0 e2 (by omega) _), show zw (zw N0 86 32 (nI (b + (71 + 3 * i + 1)))) 97 i (N0 106 (b + (71 + 3 * i))) = N1 from d1.symm, zb2_ok (prS (b := b) (P := 71 + 3 * i + 1) s1 t1 (by omega) _), show zw (zw N1 86 32 (nI (b + (71 + 3 * i + 1 + 1)))) 98 i (N1 106 (b + (71 + 3 * i + 1))) = N2 from d2.symm, zb2_ok (prS (b := b) (P := 71 + 3 * i + 2) s2 t2 (by omega) _), show zw (zw N2 86 32 (nI (b + (71 + 3 * i + 2 + 1)))) 99 i (N2 106 (b + (71 + 3 * i + 2))) = N3 from d3.symm]
  · obtain ⟨v1, N0⟩ := v
    obtain ⟨e1, e2, e4, e5, e6, er⟩ := hv
    dsimp only at e1 e2 e4 e5 e6 er
    subst e1
    refine ⟨_, ⟨N0, rfl, e2, e4, e5, e6, er⟩, fun rc => ?_⟩
    unfold qM_passAll_L305
    dsimp only
    rw [if_neg (show ¬ nI 20 < 20 by decide)]
theorem wL_L367 (h33 : M 86 33 = 1) (h32 : M 86 32 = nI (b + 131)) (hb : b ≤ 200) : ∃ M', zlp qM_passAll_L367 zfu (0, M) = (some M') ∧ wM M M' b 131 161 ∧ ∀ j, j < 30 → M' 106 (b + 131 + j) = M 105 j := by
  refine zlp_inv (b := qM_passAll_L367) (I := fun i v => v.1 = nI i ∧ wM M v.2 b 131 (131 + 1 * i) ∧ ∀ j, j < i → v.2 106 (b + 131 + j) = M 105 j) 30 (E := fun o => ∃ M', o = (some M') ∧ wM M M' b 131 161 ∧ ∀ j, j < 30 → M' 106 (b + 131 + j) = M 105 j) (zfu_gt (by omega)) (fun i hi v hv => ?_) (fun v hv => ?_) (s := (0, M)) ⟨rfl, wM.rf h32, fun j h => by omega⟩
  · obtain ⟨v1, N0⟩ := v
    obtain ⟨e1, e2, e3⟩ := hv
    dsimp only at e1 e2 e3
    subst e1
    have s0 : N0 86 33 = 1 := by rw [e2.2.2.1 33 (by decide)]; exact h33
    obtain ⟨N1, a1, z1, w1, k1⟩ := pwS (M := N0) (b := b) (P := 131 + 1 * i) (r := 105) (i := i) s0 e2.1 (by omega) (by decide) (Or.inl (by decide))
    have s1 : N1 86 33 = 1 := by rw [w1.2.2.1 33 (by decide)]; exact s0
    have wt := (e2.tr w1 (by omega) (by omega))
    refine ⟨(nI (i + 1), N1), ⟨rfl, ⟨?_, wt.2.1, wt.2.2.1, fun j hj => wt.2.2.2 j (by omega)⟩, fun j hj => ?_⟩, fun rc => ?_⟩
    · dsimp only
      rw [wt.1]
      exact congrArg nI (by omega)
    · dsimp only
      by_cases z : j = i
      · subst z
        exact (by
          have h := k1
          rw [e2.2.1 105 (by decide) (by decide)] at h
          rw [show b + 131 + j = b + (131 + 1 * j) by omega, h])
      · have h := e3 j (by omega)
        rw [w1.2.2.2 _ (by omega)]
        exact h
    · unfold qM_passAll_L367
      dsimp only
      rw [if_pos (show nI i < 30 from nI_lt (b := 30) hi (by omega))]
      simp (disch := omega) only [zn_2m, zn_cl, zq_in, nI_1]
      rw [zb2_ok a1, z1]
  · obtain ⟨v1, N0⟩ := v
    obtain ⟨e1, e2, e3⟩ := hv
    dsimp only at e1 e2 e3
    subst e1
    refine ⟨_, ⟨N0, rfl, e2, e3⟩, fun rc => ?_⟩
    unfold qM_passAll_L367
    dsimp only
    rw [if_neg (show ¬ nI 30 < 30 by decide)]
theorem rL_L367 (h33 : M 86 33 = 0) (h32 : M 86 32 = nI (b + 131)) (hb : b ≤ 200) : ∃ M', zlp qM_passAll_L367 zfu (0, M) = (some M') ∧ M' 86 32 = nI (b + 161) ∧ (∀ j, j ≠ 32 → M' 86 j = M 86 j) ∧ (∀ c, c ≠ 86 → c ≠ 105 → M' c = M c) ∧ (∀ j, j < 30 → M' 105 j = M 106 (b + 131 + j)) ∧ (∀ j, 30 ≤ j → M' 105 j = M 105 j) := by
  refine zlp_inv (b := qM_passAll_L367) (I := fun i v => v.1 = nI i ∧ v.2 86 32 = nI (b + (131 + 1 * i)) ∧ (∀ j, j ≠ 32 → v.2 86 j = M 86 j) ∧ (∀ c, c ≠ 86 → c ≠ 105 → v.2 c = M c) ∧ (∀ j, j < i → v.2 105 j = M 106 (b + 131 + j)) ∧ (∀ j, i ≤ j → v.2 105 j = M 105 j)) 30 (E := fun o => ∃ M', o = (some M') ∧ M' 86 32 = nI (b + 161) ∧ (∀ j, j ≠ 32 → M' 86 j = M 86 j) ∧ (∀ c, c ≠ 86 → c ≠ 105 → M' c = M c) ∧ (∀ j, j < 30 → M' 105 j = M 106 (b + 131 + j)) ∧ (∀ j, 30 ≤ j → M' 105 j = M 105 j)) (zfu_gt (by omega)) (fun i hi v hv => ?_) (fun v hv => ?_) (s := (0, M)) ⟨rfl, h32, fun _ _ => rfl, fun _ _ _ => rfl, (fun j h => by omega), fun _ _ => rfl⟩
  · obtain ⟨v1, N0⟩ := v
    obtain ⟨e1, e2, e4, e5, e6, r105⟩ := hv
    dsimp only at e1 e2 e4 e5 e6 r105
    subst e1
    have s0 : N0 86 33 = 0 := by rw [e4 33 (by decide)]; exact h33
    have n106 : N0 106 = M 106 := e5 106 (by decide) (by decide)
    obtain ⟨N1, d1⟩ : ∃ N, N = rp N0 b (131 + 1 * i) 105 i := ⟨_, rfl⟩
    have t1 : N1 86 32 = nI (b + (131 + 1 * i + 1)) := by rw [d1]; exact rp_32 (Or.inl (by decide))
    have s1 : N1 86 33 = 0 := by rw [d1, rp_86 (by decide) (by decide)]; exact s0
    have u1 : N1 106 = M 106 := by rw [d1, rp_ne (by decide) (by decide)]; exact n106
    refine ⟨(nI (i + 1), N1), ⟨rfl, ?_, fun j hj => ?_, fun c h0 hc105 => ?_, fun j hj => ?_, fun j hj => ?_⟩, fun rc => ?_⟩
    · dsimp only
      rw [t1]
      exact congrArg nI (by omega)
    · dsimp only
      rw [d1, rp_86 (by decide) hj]
      exact e4 j hj
    · dsimp only
      rw [d1, rp_ne h0 hc105]
      exact e5 c h0 hc105
    · dsimp only
      by_cases z : j = i
      · subst z
        exact (by
          rw [d1, rp_at, n106]
          exact congrArg (M 106) (by omega))
      · have h := e6 j (by omega)
        exact (by
          rw [d1, rp_ot (by decide) (by omega)]
          exact h)
    · dsimp only
      rw [d1, rp_ot (by decide) (by omega)]
      exact r105 j (by omega)
    · unfold qM_passAll_L367
      dsimp only
      rw [if_pos (show nI i < 30 from nI_lt (b := 30) hi (by omega))]
      simp (disch := omega) only [zn_2m, zn_cl, zq_in, nI_1]
      rw [zb2_ok (prS (b := b) (P := 131 + 1 * i) s0 e2 (by omega) _), show zw (zw N0 86 32 (nI (b + (131 + 1 * i + 1)))) 105 i (N0 106 (b + (131 + 1 * i))) = N1 from d1.symm]
  · obtain ⟨v1, N0⟩ := v
    obtain ⟨e1, e2, e4, e5, e6, er⟩ := hv
    dsimp only at e1 e2 e4 e5 e6 er
    subst e1
    refine ⟨_, ⟨N0, rfl, e2, e4, e5, e6, er⟩, fun rc => ?_⟩
    unfold qM_passAll_L367
    dsimp only
    rw [if_neg (show ¬ nI 30 < 30 by decide)]
end ZPass
