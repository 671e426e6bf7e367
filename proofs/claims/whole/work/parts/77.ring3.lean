section ZRing3
variable {M : zM} {n m k : Nat} {law : Int32} {A A' : zM} {q s t a b : Nat}
theorem k_ring (hI : zI M) (v p : Int32) : ∃ x M1 M2, qS_ring M v p = some (x, M1) ∧ qM_ring M1 v p = some (x, M2) ∧ zI M2 := by
  obtain ⟨n, m, k, law, A, hI⟩ := hI
  have hn := hI.n4
  have hin : qM_in p.toInt64 0 3 = _ := m_in (v := p) (lo := 0) (hi := 3) (L := 0) (H := 3) rfl rfl
  unfold qS_ring qM_ring
  rw [zb_ok c_noShop]
  by_cases c : sIn 0 1 v
  · rw [if_pos c, if_pos rfl, zb_ok c_out]
    by_cases c2 : sIn 0 3 p
    · rw [if_pos c2, if_pos rfl]
      obtain ⟨s, hs, rfl⟩ := sIn_n (h := 1) (by omega) c
      have hs2 : s < 2 := by omega
      have hf0 : qS_forbidsAll M 0 law = _ := c_forbids (s := 0) hI (by omega) hI.w.law01
      have hf1 : qS_forbidsAll M 1 law = _ := c_forbids (s := 1) hI (by omega) hI.w.law01
      rw [hI.l2, zb_ok hf0, zb_ok hf1]
      by_cases hb0 : sBest law A n m 0 = none
      · rw [pB_t hb0, if_neg z10]
        have g0 : ∃ M2, qM_bestOf M 0 = some (bV (sBest law A n m 0), M2) ∧ eM j19 M M2 := by
          obtain ⟨M2, g1, g2, -⟩ := m_bestOf (s := 0) hI.m.t hI.w.wf (by omega) hI.m.l hI.w.law01
          exact ⟨M2, g1, g2⟩
        obtain ⟨M2, g1, g2⟩ := g0
        refine ⟨_, _, M2, rfl, ?_, (zIn_19 hI g2).z⟩
        have hg : qM_goRound M (nI s) = some (0, M2) := by
          unfold qM_goRound
          rw [zb2_ok g1, hb0, if_pos (show bV none < 0 by decide)]
        rw [zb_ok m_isShop, if_pos c, if_neg z10, zb_ok hin, if_pos c2, if_neg z10, zb2_ok hg, if_pos rfl]
      · rw [pB_f hb0, if_pos rfl]
        obtain ⟨i0, x0, hbx0, hbl0, -, -⟩ := best_some hb0
        have hr := wf_rows hI.w.wf
        -- the reference's two first searches
        have two : ∀ {M : zM}, zIn M n m k law A → ∃ M2 M4, qM_bestOf M 0 = some (nI i0, M2) ∧ qM_bestOf M2 1 = some (bV (sBest law A n m 1), M4) ∧ eM j19 M M4 := by
          intro M hI
          obtain ⟨M2, g1, g2, -⟩ := m_bestOf (s := 0) hI.m.t hI.w.wf (by omega) hI.m.l hI.w.law01
          rw [hbx0] at g1
          have hI2 := zIn_19 hI g2
          obtain ⟨M4, g3, g4, -⟩ := m_bestOf (s := 1) hI2.m.t hI2.w.wf (by omega) hI2.m.l hI2.w.law01
          exact ⟨M2, M4, g1, g3, g2.tr g4⟩
        by_cases hb1 : sBest law A n m 1 = none
        · rw [pB_t hb1, if_neg z10]
          obtain ⟨M2, M4, g1, g2, g3⟩ := two hI
          refine ⟨_, _, M4, rfl, ?_, (zIn_19 hI g3).z⟩
          have hg : qM_goRound M (nI s) = some (0, M4) := by
            unfold qM_goRound
            rw [zb2_ok g1, if_neg (nI_nn i0 (by omega)), zb2_ok g2, hb1, if_pos (show bV none < 0 by decide)]
          rw [zb_ok m_isShop, if_pos c, if_neg z10, zb_ok hin, if_pos c2, if_neg z10, zb2_ok hg, if_pos rfl]
        · rw [pB_f hb1, if_pos rfl]
          obtain ⟨i1, x1, hbx1, hbl1, -, -⟩ := best_some hb1
          obtain ⟨M1, g1, g2, g3, g4, g5⟩ := c_look hI
          have hI1 := zIn_look hI g2 g5
          obtain ⟨M6, f1, f2, f3, f4⟩ := c_prepare g3 g4 hI.w hI1.d hb0 hb1
          have hI6 := zIn_pre hI g2 f2 f3 f4
          have q0 := sRo_lt (s := 0) hI.w.wf (by omega)
          have q1 := sRo_lt (s := 1) hI.w.wf (by omega)
          have r0 : qG_rowOf_3 M6 0 = some (nI (sRo A n 0)) := t_rowOf (s := 0) hI6 (by omega)
          have r1 : qG_rowOf_3 M6 1 = some (nI (sRo A n 1)) := t_rowOf (s := 1) hI6 (by omega)
          rw [zb_ok g1, hI1.l2, zb_ok f1, zb_ok r0, zb_ok r1]
          obtain ⟨cc, rr, xx, yy, b1, b2⟩ := ring_both hI.w hb0 hb1 13122 0 (sRo A n 0) (sRo A n 1) s 0 0 (fun _ => 0) (cn0_le _ _) q0 q1 hs2 (by omega) rfl (by have := cn0_le (fun _ => 0) 13122; omega) (fun _ => Nat.le_refl _)
          -- the class
          obtain ⟨Mf, u1, u2, u3⟩ := c_fill84 (M := M6)
          obtain ⟨N, hN⟩ : ∃ N, N = zw (zw (zw (zw Mf 78 0 0) 78 1 0) 79 0 (nI (sRo A n 0))) 79 1 (nI (sRo A n 1)) := ⟨_, rfl⟩
          have nO : ∀ c, c ≠ 78 → c ≠ 79 → c ≠ 84 → N c = M6 c := fun c z1 z2 z3 => by rw [hN, zw_ne z2, zw_ne z2, zw_ne z1, zw_ne z1]; exact u3 c z3
          have n78 : ∀ j, j ≠ 0 → j ≠ 1 → N 78 j = M6 78 j := fun j z1 z2 => by rw [hN, zw_ne (by decide), zw_ne (by decide), zw_other z2, zw_other z1, u3 78 (by decide)]
          have hpN : pT N law n m A := pT_of (n78 5 (by decide) (by decide)) (n78 6 (by decide) (by decide)) (fun c hc => nO c (by omega) (by omega) (by omega)) f4
          obtain ⟨M9, k1, k2, k3, k4, k5, k6, k7⟩ := b1 N hpN (by rw [hN, zw_other (by decide), zw_same]) (by rw [hN, zw_same]) (by rw [hN, zw_ne (by decide), zw_ne (by decide), zw_other (by decide), zw_same]) (by rw [hN, zw_ne (by decide), zw_ne (by decide), zw_same]) (fun p hp => by rw [hN, zw_ne (by decide), zw_ne (by decide), zw_ne (by decide), zw_ne (by decide)]; exact u2 p hp) zfu (by decide)
          have hfight : qD_fight M6 (nI s) (nI (sRo A n 0)) (nI (sRo A n 1)) = some M9 := by
            unfold qD_fight
            rw [zb_ok u1, zn_cl0, zn_cl1, ← hN]
            exact k1
          rw [zb_ok hfight, k2, k3]
          have cO : ∀ c, c ≠ 78 → c ≠ 79 → c ≠ 84 → M9 c = M6 c := fun c z1 z2 z3 => (k6 c z1 z2 z3).trans (nO c z1 z2 z3)
          have hI9 : zIn M9 n m k law A := by
            refine zIn_kp (kp_cls (fun c hc => cO c (by omega) (by omega) (by omega)) (trial_tails (fun z => by rw [cO 64 (by decide) (by decide) (by decide)]; exact z) (fun z => by rw [cO 65 (by decide) (by decide) (by decide)]; exact z) (fun z => by rw [cO 66 (by decide) (by decide) (by decide)]; exact z) (fun z => by rw [cO 67 (by decide) (by decide) (by decide)]; exact z) (fun z => by rw [cO 68 (by decide) (by decide) (by decide)]; exact z) (fun z => by rw [cO 69 (by decide) (by decide) (by decide)]; exact z))) (Or.inr ⟨?_, ?_⟩) hI6
            · rw [k7 6 (by decide) (by decide), n78 6 (by decide) (by decide)]; exact f4.2.1
            · exact dT_eq (cO 80 (by decide) (by decide) (by decide)) (cO 81 (by decide) (by decide) (by decide)) f4.2.2.1
          -- the reference
          obtain ⟨Na, Nb, a1, a2, a3⟩ := two hI9
          rw [hbx1] at a2
          have hIb := zIn_19 hI9 a3
          have e0 : qM_rowOf Nb 0 = some (nI (sRo A n 0)) := m_rowOf (s := 0) hIb.m.t hIb.w.wf (by omega)
          have e1 : qM_rowOf Nb 1 = some (nI (sRo A n 1)) := m_rowOf (s := 1) hIb.m.t hIb.w.wf (by omega)
          obtain ⟨Nc, w1, w2, w3⟩ := m_fill104 (M := Nb) (x5 := sRo A n 0) (x6 := sRo A n 1) hs2 (by omega) (by omega)
          obtain ⟨Nd, hNd⟩ : ∃ Nd, Nd = zw (zw (zw Nc 86 24 0) 86 25 0) 104 (kM (sRo A n 0) (sRo A n 1) s) 0 := ⟨_, rfl⟩
          have dO : ∀ c, c ≠ 86 → c ≠ 104 → Nd c = Nb c := fun c z1 z2 => by rw [hNd, zw_ne z2, zw_ne z1, zw_ne z1]; exact w3 c z2
          have d86 : ∀ j, j ≠ 24 → j ≠ 25 → Nd 86 j = Nb 86 j := fun j z1 z2 => by rw [hNd, zw_ne (by decide), zw_other z2, zw_other z1, w3 86 (by decide)]
          have hMd : mT Nd n m (tw A n (sRo A n 0) (sRo A n 1)) := by
            rw [tw_id hI.w]
            exact mT_eq (d86 6 (by decide) (by decide)) (d86 14 (by decide) (by decide)) (fun c a b => dO c (by omega) (by omega)) hIb.m.t
          obtain ⟨Me, j1, j2, j3, j4, j5, j6, j7, j8⟩ := b2 Nd hMd (by rw [d86 18 (by decide) (by decide)]; exact hIb.m.l) (by rw [hNd, zw_ne (by decide), zw_other (by decide), zw_same]) (by rw [hNd, zw_ne (by decide), zw_same]) (fun a' b' s' z1 z2 z3 => by
            have hinj : kP a' b' s' = kP (sRo A n 0) (sRo A n 1) s ↔ kM a' b' s' = kM (sRo A n 0) (sRo A n 1) s := by unfold kP kM; omega
            have hlt : kM a' b' s' < 13122 := by unfold kM; omega
            unfold upN
            by_cases z : kP a' b' s' = kP (sRo A n 0) (sRo A n 1) s
            · rw [if_pos z, hNd, hinj.mp z, zw_same]; rfl
            · rw [if_neg z, hNd, zw_other (fun h => z (hinj.mpr h)), zw_ne (by decide), zw_ne (by decide), w2 _ hlt]; rfl) zfu (by decide)
          have hg : qM_goRound M9 (nI s) = some (1, Me) := by
            unfold qM_goRound
            rw [zb2_ok a1, if_neg (nI_nn i0 (by omega)), zb2_ok a2, if_neg (show ¬ bV (some (i1, x1)) < 0 from nI_nn i1 (by omega)), zb_ok e0, zb_ok e1, w1, ← hNd]
            exact j1
          have hIe : zIn Me n m k law A := by
            refine zIn_m hIb (fun c hc => ?_) (fun j hj => ?_)
            · by_cases z : c = 89
              · subst z
                rw [j7]
                exact hIb.m.t.2.2.2.2.2.2.1.symm
              · rw [j6 c (by omega) z (by omega)]; exact dO c (by omega) (by omega)
            · rw [j8 j hj]; exact d86 j (by omega) (by omega)
          have hres : ∀ x : Int32, (if p = 0 then some ((Me 86 24), Me) else if p = 1 then some ((Me 86 25), Me) else if p = 2 then some ((Me 86 26), Me) else some ((Me 86 27), Me)) = some (x, Me) → (zb (qM_isShop (nI s)) fun x1 => if x1 = 0 then some (-1, M9) else zb (qM_in p.toInt64 0 3) fun x2 => if x2 = 0 then some (-2, M9) else zb2 (qM_goRound M9 (nI s)) fun x3 M4 => if x3 = 0 then some (-5, M4) else if p = 0 then some (M4 86 24, M4) else if p = 1 then some (M4 86 25, M4) else if p = 2 then some (M4 86 26, M4) else some (M4 86 27, M4)) = some (x, Me) := fun x hx => by
            rw [zb_ok m_isShop, if_pos c, if_neg z10, zb_ok hin, if_pos c2, if_neg z10, zb2_ok hg, if_neg z10, hx]
          obtain ⟨pp, hpp, rfl⟩ := sIn_n (h := 3) (by omega) c2
          rcases (show pp = 0 ∨ pp = 1 ∨ pp = 2 ∨ pp = 3 by omega) with rfl | rfl | rfl | rfl
          · rw [if_pos (show nI 0 = 0 from rfl)]
            exact ⟨_, _, Me, rfl, hres cc (by rw [if_pos (show nI 0 = 0 from rfl), j2]), hIe.z⟩
          · rw [if_neg (show ¬ nI 1 = 0 by decide), if_pos (show nI 1 = 1 from rfl)]
            exact ⟨_, _, Me, rfl, hres rr (by rw [if_neg (show ¬ nI 1 = 0 by decide), if_pos (show nI 1 = 1 from rfl), j3]), hIe.z⟩
          · rw [if_neg (show ¬ nI 2 = 0 by decide), if_neg (show ¬ nI 2 = 1 by decide), show nI 2 - 2 = nI 0 from rfl, zq_in (by omega) (by omega), zn_cl (by omega), k4]
            exact ⟨_, _, Me, rfl, hres (nI xx) (by rw [if_neg (show ¬ nI 2 = 0 by decide), if_neg (show ¬ nI 2 = 1 by decide), if_pos (show nI 2 = 2 from rfl), j4]), hIe.z⟩
          · rw [if_neg (show ¬ nI 3 = 0 by decide), if_neg (show ¬ nI 3 = 1 by decide), show nI 3 - 2 = nI 1 from rfl, zq_in (by omega) (by omega), zn_cl (by omega), k5]
            exact ⟨_, _, Me, rfl, hres (nI yy) (by rw [if_neg (show ¬ nI 3 = 0 by decide), if_neg (show ¬ nI 3 = 1 by decide), if_neg (show ¬ nI 3 = 2 by decide), j5]), hIe.z⟩
    · rw [if_neg c2, if_neg z10]
      refine ⟨_, _, _, rfl, ?_, hI.z⟩
      rw [zb_ok m_isShop, if_pos c, if_neg z10, zb_ok hin, if_neg c2, if_pos rfl]
  · rw [if_neg c, if_neg z10]
    refine ⟨_, _, _, rfl, ?_, hI.z⟩
    rw [zb_ok m_isShop, if_neg c, if_pos rfl]
end ZRing3
