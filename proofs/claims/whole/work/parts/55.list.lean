section ZList
variable {M : zM} {n m k : Nat} {law : Int32} {A : zM} {q s t : Nat} {st w cur : Nat} {D : pDa}
theorem pNx_inv {c : Int32} {p : Nat × Nat × Nat} (hst : st ≤ 8) (h : pNx st w cur c = some p) : (st = 0 ∧ ∃ t, t < 4 ∧ c = nI (97 + t) ∧ bw_t w t = false ∧ p = (1, w + 2 ^ t, t)) ∨ (st = 1 ∧ p = (2, w, cur)) ∨ (st = 2 ∧ p = (3, w, cur)) ∨ (st = 3 ∧ p = (4, w, cur)) ∨ (st = 4 ∧ p = (5, w, cur)) ∨ (st = 6 ∧ p = (7, w, cur)) ∨ (st = 7 ∧ p = (8, w, cur)) ∨ (st ≠ 0 ∧ st ≠ 1 ∧ p = (6, w, cur)) ∨ (st ≠ 0 ∧ st ≠ 1 ∧ p = (0, w, cur)) := by
  have mark : ∀ g, st ≠ 0 → st ≠ 1 → pMk g w cur c = some p → (st ≠ 0 ∧ st ≠ 1 ∧ p = (6, w, cur)) ∨ (st ≠ 0 ∧ st ≠ 1 ∧ p = (0, w, cur)) := fun g n0 n1 hm => by
    rcases pMk_inv hm with ⟨h, -⟩ | h
    · exact Or.inl ⟨n0, n1, h⟩
    · exact Or.inr ⟨n0, n1, h⟩
  rcases (show st = 0 ∨ st = 1 ∨ st = 2 ∨ st = 3 ∨ st = 4 ∨ st = 5 ∨ st = 6 ∨ st = 7 ∨ st = 8 by omega) with rfl | rfl | rfl | rfl | rfl | rfl | rfl | rfl | rfl
  · rw [pNx_0] at h
    by_cases c1 : c < 97 ∨ 100 < c
    · rw [if_pos c1] at h; cases h
    · rw [if_neg c1] at h
      obtain ⟨t, ht, e1, -, e⟩ := let_of c1
      rw [e] at h
      by_cases c2 : bw_t w t = true
      · rw [if_pos c2] at h; cases h
      · rw [if_neg c2] at h
        cases h
        refine Or.inl ⟨rfl, t, ht, e1, ?_, rfl⟩
        cases z : bw_t w t with
        | false => rfl
        | true => exact absurd z c2
  · rw [pNx_1] at h
    split at h
    · cases h
    · cases h; exact Or.inr (Or.inl ⟨rfl, rfl⟩)
  · rw [pNx_2] at h
    split at h
    · cases h; exact Or.inr (Or.inr (Or.inl ⟨rfl, rfl⟩))
    · cases h
  · rw [pNx_3] at h
    split at h
    · cases h
    · cases h; exact Or.inr (Or.inr (Or.inr (Or.inl ⟨rfl, rfl⟩)))
  · rw [pNx_4] at h
    split at h
    · exact Or.inr (Or.inr (Or.inr (Or.inr (Or.inr (Or.inr (Or.inr (mark true (by omega) (by omega) h)))))))
    · cases h; exact Or.inr (Or.inr (Or.inr (Or.inr (Or.inl ⟨rfl, rfl⟩))))
  · rw [pNx_5] at h
    exact Or.inr (Or.inr (Or.inr (Or.inr (Or.inr (Or.inr (Or.inr (mark true (by omega) (by omega) h)))))))
  · rw [pNx_6] at h
    split at h
    · cases h
    · cases h; exact Or.inr (Or.inr (Or.inr (Or.inr (Or.inr (Or.inl ⟨rfl, rfl⟩)))))
  · rw [pNx_7] at h
    split at h
    · exact Or.inr (Or.inr (Or.inr (Or.inr (Or.inr (Or.inr (Or.inr (mark false (by omega) (by omega) h)))))))
    · cases h; exact Or.inr (Or.inr (Or.inr (Or.inr (Or.inr (Or.inr (Or.inl ⟨rfl, rfl⟩))))))
  · rw [pNx_8] at h
    exact Or.inr (Or.inr (Or.inr (Or.inr (Or.inr (Or.inr (Or.inr (mark false (by omega) (by omega) h)))))))
/-- the reference writes the list of sort q -/
def lJ (M0 M9 : zM) (q w : Nat) (D : pDa) : Prop := M9 86 17 = nI w ∧ (∀ j, j ≠ 17 → M9 86 j = M0 86 j) ∧ (∀ r, r ≠ 86 → r ≠ 97 → r ≠ 98 → r ≠ 99 → M9 r = M0 r) ∧ (∀ r, r = 97 ∨ r = 98 ∨ r = 99 → ∀ j, ¬ (4 * q ≤ j ∧ j < 4 * q + 4) → M9 r j = M0 r j) ∧ (∀ t, t < 4 → M9 97 (4 * q + t) = D.1 t) ∧ (∀ t, t < 4 → bw_t w t = true → M9 98 (4 * q + t) = D.2.1 t ∧ M9 99 (4 * q + t) = D.2.2 t)
variable {M0 M9 M12 : zM}
theorem lJ_st {w' : Nat} (h : lJ M0 M9 q w D) (g2 : ∀ r, r ≠ 86 → M12 r = M9 r) (g3 : ∀ j, j ≠ 17 → M12 86 j = M9 86 j) (g4 : M12 86 17 = nI w) : lJ M0 M12 q w D := by
  obtain ⟨a1, a2, a3, a4, a5, a6⟩ := h
  refine ⟨g4, fun j hj => (g3 j hj).trans (a2 j hj), fun r b1 b2 b3 b4 => (g2 r b1).trans (a3 r b1 b2 b3 b4), fun r hr j hj => ?_, ?_, ?_⟩
  · rw [g2 r (by omega)]; exact a4 r hr j hj
  · rw [g2 97 (by decide)]; exact a5
  · rw [g2 98 (by decide), g2 99 (by decide)]; exact a6
theorem lJ_97 (h : lJ M0 M9 q w D) (hc : cur < 4) (x : Int32) : lJ M0 (zw M9 97 (4 * q + cur) x) q w (upd D.1 cur x, D.2.1, D.2.2) := by
  obtain ⟨a1, a2, a3, a4, a5, a6⟩ := h
  refine ⟨a1, a2, fun r b1 b2 b3 b4 => (zw_ne b2).trans (a3 r b1 b2 b3 b4), fun r hr j hj => ?_, fun t ht => ?_, a6⟩
  · by_cases z : r = 97
    · subst z
      rw [zw_other (by omega)]
      exact a4 97 (by omega) j hj
    · rw [zw_ne z]
      exact a4 r hr j hj
  · show _ = upd D.1 cur x t
    by_cases z : t = cur
    · rw [z, zw_same, pk_us]
    · rw [zw_other (by omega), pk_un z]
      exact a5 t ht
theorem lJ_98 (h : lJ M0 M9 q w D) (hc : cur < 4) (x : Int32) : lJ M0 (zw M9 98 (4 * q + cur) x) q w (D.1, upd D.2.1 cur x, D.2.2) := by
  obtain ⟨a1, a2, a3, a4, a5, a6⟩ := h
  refine ⟨a1, a2, fun r b1 b2 b3 b4 => (zw_ne b3).trans (a3 r b1 b2 b3 b4), fun r hr j hj => ?_, a5, fun t ht hb => ⟨?_, (a6 t ht hb).2⟩⟩
  · by_cases z : r = 98
    · subst z
      rw [zw_other (by omega)]
      exact a4 98 (by omega) j hj
    · rw [zw_ne z]
      exact a4 r hr j hj
  · show _ = upd D.2.1 cur x t
    by_cases z : t = cur
    · rw [z, zw_same, pk_us]
    · rw [zw_other (by omega), pk_un z]
      exact (a6 t ht hb).1
theorem lJ_99 (h : lJ M0 M9 q w D) (hc : cur < 4) (x : Int32) : lJ M0 (zw M9 99 (4 * q + cur) x) q w (D.1, D.2.1, upd D.2.2 cur x) := by
  obtain ⟨a1, a2, a3, a4, a5, a6⟩ := h
  refine ⟨a1, a2, fun r b1 b2 b3 b4 => (zw_ne b4).trans (a3 r b1 b2 b3 b4), fun r hr j hj => ?_, a5, fun t ht hb => ⟨(a6 t ht hb).1, ?_⟩⟩
  · by_cases z : r = 99
    · subst z
      rw [zw_other (by omega)]
      exact a4 99 (by omega) j hj
    · rw [zw_ne z]
      exact a4 r hr j hj
  · show _ = upd D.2.2 cur x t
    by_cases z : t = cur
    · rw [z, zw_same, pk_us]
    · rw [zw_other (by omega), pk_un z]
      exact (a6 t ht hb).2
theorem m_listLoop {N : Nat} {f : Nat → Int32} (hq : q < 5) (hN : N ≤ 40) (h16 : M0 86 16 = nI N) (h100 : M0 100 = f) {z : pSt} (hz : pRun f N = some z) (h0 : lJ M0 M0 q 0 (fun _ => 0, fun _ => 0, fun _ => -6)) : ∃ M9, zlp (qM_list_L40 (nI q)) zfu (0, 0, 0, 0, M0) = some (nI (bw_c z.2.1), zw M9 86 16 0) ∧ lJ M0 M9 q z.2.1 z.2.2.2 := by
  have some_of : ∀ i, i ≤ N → ∃ x, pRun f i = some x := fun i hi => by
    cases h : pRun f i with
    | none => rw [pRun_dn h N hi] at hz; cases hz
    | some x => exact ⟨x, rfl⟩
  refine zlp_inv (b := qM_list_L40 (nI q)) (I := fun i v => ∃ x, pRun f i = some x ∧ v.1 = nI x.1 ∧ (x.1 ≠ 0 → v.2.1 = nI (4 * q + x.2.2.1)) ∧ v.2.2.1 = nI (bw_c x.2.1) ∧ v.2.2.2.1 = nI i ∧ lJ M0 v.2.2.2.2 q x.2.1 x.2.2.2) N (E := fun o => ∃ M9, o = some (nI (bw_c z.2.1), zw M9 86 16 0) ∧ lJ M0 M9 q z.2.1 z.2.2.2) (zfu_gt (by omega)) (fun i hi v hv => ?_) (fun v hv => ?_) (s := (0, 0, 0, 0, M0)) ⟨_, rfl, rfl, fun h => absurd rfl h, rfl, rfl, h0⟩
  · obtain ⟨v1, v2, v3, v4, M9⟩ := v
    obtain ⟨x, e1, e2, e3, e4, e5, e6⟩ := hv
    dsimp only at e2 e3 e4 e5 e6
    subst e2 e4 e5
    have hI := pI_run e1
    have c16 : M9 86 16 = nI N := by rw [e6.2.1 16 (by decide)]; exact h16
    have c100 : M9 100 = f := by rw [e6.2.2.1 100 (by decide) (by decide) (by decide) (by decide)]; exact h100
    obtain ⟨M12, g1, g2, g3, g4⟩ := m_stepOf e6.1 hI.2.1 hI.1 x.2.2.1 (f i)
    obtain ⟨y, hy⟩ := some_of (i + 1) (by omega)
    have hr := pRun_s e1
    rw [hy] at hr
    cases hp : pNx x.1 x.2.1 x.2.2.1 (f i) with
    | none => unfold pGo at hr; rw [hp] at hr; cases hr
    | some p =>
      have hye : y = (p.1, p.2.1, p.2.2, pDt p.1 p.2.2 (f i) x.2.2.2) := by
        unfold pGo at hr
        rw [hp] at hr
        cases hr
        rfl
      subst hye
      have hg := g4 p hp
      rw [hp] at g1
      have a3 := hI.2.2.1
      obtain ⟨xs, xw, xc, xD⟩ := x
      dsimp only at *
      have step : ∀ (s2 : Int32 × Int32 × Int32 × Int32 × zM), s2.1 = nI p.1 → (p.1 ≠ 0 → s2.2.1 = nI (4 * q + p.2.2)) → s2.2.2.1 = nI (bw_c p.2.1) → s2.2.2.2.1 = nI (i + 1) → lJ M0 s2.2.2.2.2 q p.2.1 (pDt p.1 p.2.2 (f i) xD) → (∀ rc, qM_list_L40 (nI q) rc (nI xs, v2, nI (bw_c xw), nI i, M9) = rc s2) → ∃ s', (∃ x, pRun f (i + 1) = some x ∧ s'.1 = nI x.1 ∧ (x.1 ≠ 0 → s'.2.1 = nI (4 * q + x.2.2.1)) ∧ s'.2.2.1 = nI (bw_c x.2.1) ∧ s'.2.2.2.1 = nI (i + 1) ∧ lJ M0 s'.2.2.2.2 q x.2.1 x.2.2.2) ∧ ∀ rc, qM_list_L40 (nI q) rc (nI xs, v2, nI (bw_c xw), nI i, M9) = rc s' := by
        intro s2 h1 h2 h3 h4 h5 h6
        exact ⟨s2, ⟨_, hy, h1, h2, h3, h4, h5⟩, h6⟩
      have head : ∀ rc, qM_list_L40 (nI q) rc (nI xs, v2, nI (bw_c xw), nI i, M9) = (if nI p.1 = 1 then
        (zq (vp_in (((4 * nI q) + f i) - 97) 20) <| zq (vp_in (((4 * nI q) + f i) - 97) 20) <| rc (nI p.1, (((4 * nI q) + f i) - 97), nI (bw_c xw + 1), nI (i + 1), (zw (zw M12 98 (((4 * nI q) + f i) - 97).toNatClampNeg 0) 99 (((4 * nI q) + f i) - 97).toNatClampNeg (-6))))
      else if nI p.1 = 2 then
        (zq (vp_in v2 20) <| rc (nI p.1, v2, nI (bw_c xw), nI (i + 1), (zw M12 97 v2.toNatClampNeg (f i - 48))))
      else if nI p.1 = 4 then
        (zq (vp_in v2 20) <| zq (vp_in v2 20) <| rc (nI p.1, v2, nI (bw_c xw), nI (i + 1), (zw M12 98 v2.toNatClampNeg (((10 * (M12 98 v2.toNatClampNeg)) + f i) - 48))))
      else if nI p.1 = 5 then
        (zq (vp_in v2 20) <| zq (vp_in v2 20) <| rc (nI p.1, v2, nI (bw_c xw), nI (i + 1), (zw M12 98 v2.toNatClampNeg (((10 * (M12 98 v2.toNatClampNeg)) + f i) - 48))))
      else if nI p.1 = 7 then
        (zq (vp_in v2 20) <| rc (nI p.1, v2, nI (bw_c xw), nI (i + 1), (zw M12 99 v2.toNatClampNeg (f i - 48))))
      else if nI p.1 = 8 then
        (zq (vp_in v2 20) <| zq (vp_in v2 20) <| rc (nI p.1, v2, nI (bw_c xw), nI (i + 1), (zw M12 99 v2.toNatClampNeg (((10 * (M12 99 v2.toNatClampNeg)) + f i) - 48))))
      else 
        (rc (nI p.1, v2, nI (bw_c xw), nI (i + 1), M12))) := by
        intro rc
        unfold qM_list_L40
        simp (disch := omega) only [c16, zn_lt, if_pos hi, zn_cl, zq_in, c100, nI_1]
        rw [zb2_ok g1]
        rfl
      rcases pNx_inv hI.1 hp with ⟨rfl, t, ht, ec, hb, rfl⟩ | ⟨rfl, rfl⟩ | ⟨rfl, rfl⟩ | ⟨rfl, rfl⟩ | ⟨rfl, rfl⟩ | ⟨rfl, rfl⟩ | ⟨rfl, rfl⟩ | ⟨n0, n1, rfl⟩ | ⟨n0, n1, rfl⟩
      · have eat : 4 * nI q + f i - 97 = nI (4 * q + t) := by
          rw [ec, zn_4m, nI_add, show (97 : Int32) = nI 97 from rfl, pk_sub (by omega)]
          congr 1
          omega
        obtain ⟨b1, b2, b3⟩ := bw_or xw hI.2.1 t ht hb
        have b4 := bw_add xw hI.2.1 t ht hb
        have a9 := hI.2.2.2.2.2.2.2.2.1 t ht hb
        refine step (nI 1, nI (4 * q + t), nI (bw_c xw + 1), nI (i + 1), zw (zw M12 98 (4 * q + t) 0) 99 (4 * q + t) (-6)) rfl (fun _ => rfl) (by rw [b3]) rfl ?_ (fun rc => ?_)
        · show lJ M0 (zw (zw M12 98 (4 * q + t) 0) 99 (4 * q + t) (-6)) q (xw + 2 ^ t) xD
          obtain ⟨a1, a2, a3', a4, a5, a6⟩ := e6
          refine ⟨hg, fun j hj => (g3 j hj).trans (a2 j hj), fun r c1 c2 c3 c4 => ?_, fun r hr j hj => ?_, fun t' ht' => ?_, fun t' ht' hb' => ?_⟩
          · rw [zw_ne c4, zw_ne c3, g2 r c1]; exact a3' r c1 c2 c3 c4
          · have hbase : M12 r j = M0 r j := by rw [g2 r (by omega)]; exact a4 r hr j hj
            rcases hr with rfl | rfl | rfl
            · exact hbase
            · rw [zw_ne (by decide), zw_other (by omega)]; exact hbase
            · rw [zw_other (by omega), zw_ne (by decide)]; exact hbase
          · rw [zw_ne (by decide), zw_ne (by decide), g2 97 (by decide)]
            exact a5 t' ht'
          · show _ = xD.2.1 t' ∧ _ = xD.2.2 t'
            by_cases z : t' = t
            · rw [z, zw_ne (by decide), zw_same, zw_same]
              exact ⟨a9.1.symm, a9.2.symm⟩
            · have hb2 : bw_t xw t' = true := by
                have hb3 : bw_t (xw + 2 ^ t) t' = true := hb'
                rw [b4 t' ht'] at hb3
                simpa [z] using hb3
              rw [zw_ne (by decide), zw_other (by omega), zw_other (by omega), zw_ne (by decide), g2 98 (by decide), g2 99 (by decide)]
              exact a6 t' ht' hb2
        · rw [head rc, if_pos (show nI 1 = 1 from rfl), eat]
          simp (disch := omega) only [zn_cl, zq_in]
      · have ev := e3 (by omega)
        subst ev
        have hL := lJ_st (w' := xw) e6 g2 g3 hg
        refine step (nI 2, nI (4 * q + xc), nI (bw_c xw), nI (i + 1), zw M12 97 (4 * q + xc) (f i - 48)) rfl (fun _ => rfl) rfl rfl (lJ_97 hL a3 _) (fun rc => ?_)
        rw [head rc, if_neg (show ¬ nI 2 = 1 by decide), if_pos (show nI 2 = 2 from rfl)]
        simp (disch := omega) only [zn_cl, zq_in]
      · have ev := e3 (by omega)
        subst ev
        have hL := lJ_st (w' := xw) e6 g2 g3 hg
        refine step (nI 3, nI (4 * q + xc), nI (bw_c xw), nI (i + 1), M12) rfl (fun _ => rfl) rfl rfl hL (fun rc => ?_)
        rw [head rc, if_neg (show ¬ nI 3 = 1 by decide), if_neg (show ¬ nI 3 = 2 by decide), if_neg (show ¬ nI 3 = 4 by decide), if_neg (show ¬ nI 3 = 5 by decide), if_neg (show ¬ nI 3 = 7 by decide), if_neg (show ¬ nI 3 = 8 by decide)]
      · have ev := e3 (by omega)
        subst ev
        have hL := lJ_st (w' := xw) e6 g2 g3 hg
        have h98 : M12 98 (4 * q + xc) = 0 := by
          rw [(hL.2.2.2.2.2 xc a3 (hI.2.2.2.1 (by omega))).1]
          exact hI.2.2.2.2.2.2.2.2.2 (by omega) (by omega)
        refine step (nI 4, nI (4 * q + xc), nI (bw_c xw), nI (i + 1), zw M12 98 (4 * q + xc) (0 * 10 + f i - 48)) rfl (fun _ => rfl) rfl rfl (lJ_98 hL a3 _) (fun rc => ?_)
        rw [head rc, if_neg (show ¬ nI 4 = 1 by decide), if_neg (show ¬ nI 4 = 2 by decide), if_pos (show nI 4 = 4 from rfl)]
        simp (disch := omega) only [zn_cl, zq_in, h98]
        rfl
      · have ev := e3 (by omega)
        subst ev
        have hL := lJ_st (w' := xw) e6 g2 g3 hg
        have h98 : M12 98 (4 * q + xc) = xD.2.1 xc := (hL.2.2.2.2.2 xc a3 (hI.2.2.2.1 (by omega))).1
        refine step (nI 5, nI (4 * q + xc), nI (bw_c xw), nI (i + 1), zw M12 98 (4 * q + xc) (xD.2.1 xc * 10 + f i - 48)) rfl (fun _ => rfl) rfl rfl (lJ_98 hL a3 _) (fun rc => ?_)
        rw [head rc, if_neg (show ¬ nI 5 = 1 by decide), if_neg (show ¬ nI 5 = 2 by decide), if_neg (show ¬ nI 5 = 4 by decide), if_pos (show nI 5 = 5 from rfl)]
        simp (disch := omega) only [zn_cl, zq_in, h98]
        rw [Int32.mul_comm]
      · have ev := e3 (by omega)
        subst ev
        have hL := lJ_st (w' := xw) e6 g2 g3 hg
        refine step (nI 7, nI (4 * q + xc), nI (bw_c xw), nI (i + 1), zw M12 99 (4 * q + xc) (0 * 10 + f i - 48)) rfl (fun _ => rfl) rfl rfl (lJ_99 hL a3 _) (fun rc => ?_)
        rw [head rc, if_neg (show ¬ nI 7 = 1 by decide), if_neg (show ¬ nI 7 = 2 by decide), if_neg (show ¬ nI 7 = 4 by decide), if_neg (show ¬ nI 7 = 5 by decide), if_pos (show nI 7 = 7 from rfl)]
        simp (disch := omega) only [zn_cl, zq_in]
        rw [show (0 : Int32) * 10 = 0 from rfl, Int32.zero_add]
      · have ev := e3 (by omega)
        subst ev
        have hL := lJ_st (w' := xw) e6 g2 g3 hg
        have h99 : M12 99 (4 * q + xc) = xD.2.2 xc := (hL.2.2.2.2.2 xc a3 (hI.2.2.2.1 (by omega))).2
        refine step (nI 8, nI (4 * q + xc), nI (bw_c xw), nI (i + 1), zw M12 99 (4 * q + xc) (xD.2.2 xc * 10 + f i - 48)) rfl (fun _ => rfl) rfl rfl (lJ_99 hL a3 _) (fun rc => ?_)
        rw [head rc, if_neg (show ¬ nI 8 = 1 by decide), if_neg (show ¬ nI 8 = 2 by decide), if_neg (show ¬ nI 8 = 4 by decide), if_neg (show ¬ nI 8 = 5 by decide), if_neg (show ¬ nI 8 = 7 by decide), if_pos (show nI 8 = 8 from rfl)]
        simp (disch := omega) only [zn_cl, zq_in, h99]
        rw [Int32.mul_comm]
      · have ev := e3 n0
        subst ev
        have hL := lJ_st (w' := xw) e6 g2 g3 hg
        refine step (nI 6, nI (4 * q + xc), nI (bw_c xw), nI (i + 1), M12) rfl (fun _ => rfl) rfl rfl hL (fun rc => ?_)
        rw [head rc, if_neg (show ¬ nI 6 = 1 by decide), if_neg (show ¬ nI 6 = 2 by decide), if_neg (show ¬ nI 6 = 4 by decide), if_neg (show ¬ nI 6 = 5 by decide), if_neg (show ¬ nI 6 = 7 by decide), if_neg (show ¬ nI 6 = 8 by decide)]
      · have ev := e3 n0
        subst ev
        have hL := lJ_st (w' := xw) e6 g2 g3 hg
        refine step (nI 0, nI (4 * q + xc), nI (bw_c xw), nI (i + 1), M12) rfl (fun _ => rfl) rfl rfl hL (fun rc => ?_)
        rw [head rc, if_neg (show ¬ nI 0 = 1 by decide), if_neg (show ¬ nI 0 = 2 by decide), if_neg (show ¬ nI 0 = 4 by decide), if_neg (show ¬ nI 0 = 5 by decide), if_neg (show ¬ nI 0 = 7 by decide), if_neg (show ¬ nI 0 = 8 by decide)]
  · obtain ⟨v1, v2, v3, v4, M9⟩ := v
    obtain ⟨x, e1, e2, e3, e4, e5, e6⟩ := hv
    dsimp only at e2 e3 e4 e5 e6
    subst e2 e4 e5
    rw [hz] at e1
    cases e1
    have c16 : M9 86 16 = nI N := by rw [e6.2.1 16 (by decide)]; exact h16
    refine ⟨_, ⟨M9, rfl, e6⟩, fun rc => ?_⟩
    unfold qM_list_L40
    simp (disch := omega) only [c16, zn_lt, Nat.lt_irrefl, if_false]
end ZList
