section ZRing2
variable {M : zM} {n m k : Nat} {law : Int32} {A A' : zM} {q s t a b : Nat}
theorem ring_both (w : wF n m k law A) (hb0 : ¬ sBest law A n m 0 = none) (hb1 : ¬ sBest law A n m 1 = none) : ∀ (u kk a b s st : Nat) (ch : Int32) (H : Nat → Nat), cn0 H 13122 ≤ u → a < sRc (sK A) n → b < sRc (sK A) n → s < 2 → st < 2 → H (kP a b s) = 0 → kk + cn0 H 13122 ≤ 13122 → (∀ p, H p ≤ kk) → ∃ (c r : Int32) (x y : Nat), (∀ M, pT M law n m A → M 79 0 = nI a → M 79 1 = nI b → M 78 0 = ch → M 78 1 = 0 → (∀ p, p < 13122 → M 84 p = nI (H p)) → ∀ F, u + 3 ≤ F → ∃ M', zlp qD_fight_L41 F (nI s, nI st, nI (kk + 1), M) = some M' ∧ M' 78 0 = c ∧ M' 78 1 = r ∧ M' 79 0 = nI x ∧ M' 79 1 = nI y ∧ (∀ c, c ≠ 78 → c ≠ 79 → c ≠ 84 → M' c = M c) ∧ ∀ j, j ≠ 0 → j ≠ 1 → M' 78 j = M 78 j) ∧ (∀ M, mT M n m (tw A n a b) → M 86 18 = law → M 86 24 = ch → M 86 25 = 0 → (∀ a' b' s', a' < 81 → b' < 81 → s' < 2 → M 104 (kM a' b' s') = tH (upN H (kP a b s) (kk + 1) (kP a' b' s'))) → ∀ F, u + 3 ≤ F → ∃ M', zlp (qM_goRound_L91 (nI (sRo A n 0)) (nI (sRo A n 1))) F (nI s, nI st, nI kk, 1, M) = some (1, M') ∧ M' 86 24 = c ∧ M' 86 25 = r ∧ M' 86 26 = nI x ∧ M' 86 27 = nI y ∧ (∀ c, c ≠ 86 → c ≠ 89 → c ≠ 104 → M' c = M c) ∧ M' 89 = A 4 ∧ ∀ j, j = 6 ∨ j = 14 ∨ j = 16 ∨ j = 18 ∨ j = 29 → M' 86 j = M 86 j) := by
  have hr := wf_rows w.wf
  have h01 := w.law01
  intro u
  induction u with
  | zero =>
    intro kk a b s st ch H hu ha hb hs hst hH hk hHk
    exfalso
    have := cn0_pos (H := H) (N := 13122) (p := kP a b s) (by unfold kP; omega) hH
    omega
  | succ u ih =>
    intro kk a b s st ch H hu ha hb hs hst hH hk hHk
    have hkp : kP a b s < 13122 := by unfold kP; omega
    have hpos := cn0_pos (H := H) (N := 13122) hkp hH
    have own_lt : oW s a b < sRc (sK A) n := by unfold oW; split <;> assumption
    have oth_lt : oT s a b < sRc (sK A) n := by unfold oT; split <;> assumption
    have hbs : ¬ sBest law A n m s = none := by
      rcases (show s = 0 ∨ s = 1 by omega) with rfl | rfl
      · exact hb0
      · exact hb1
    obtain ⟨c, gc, hc, hoc⟩ := gBs_some w h01 hbs (oT s a b)
    obtain ⟨G, hG⟩ : ∃ G : Prop, G = tG law A n m s (oW s a b) (oT s a b) c := ⟨_, rfl⟩
    obtain ⟨a', ha'⟩ : ∃ a', a' = @nA0 s a b c G (Classical.propDecidable _) := ⟨_, rfl⟩
    obtain ⟨b', hb'⟩ : ∃ b', b' = @nB0 s a b c G (Classical.propDecidable _) := ⟨_, rfl⟩
    obtain ⟨st', hst'⟩ : ∃ st', st' = @ite _ G (Classical.propDecidable _) 0 (st + 1) := ⟨_, rfl⟩
    obtain ⟨ch', hch'⟩ : ∃ ch', ch' = @ite _ G (Classical.propDecidable _) (ch + 1) ch := ⟨_, rfl⟩
    obtain ⟨H', hH'⟩ : ∃ H', H' = upN H (kP a b s) (kk + 1) := ⟨_, rfl⟩
    have la : a' < sRc (sK A) n := by
      rw [ha']; unfold nA0
      split
      · split <;> assumption
      · assumption
    have lb : b' < sRc (sK A) n := by
      rw [hb']; unfold nB0
      split
      · split <;> assumption
      · assumption
    have lst : st' ≤ 2 := by rw [hst']; split <;> omega
    have e1s : (1 : Int32) - nI s = nI (1 - s) := pk_sub (a := 1) (by omega)
    have hkp' : kP a' b' (1 - s) < 13122 := by unfold kP; omega
    have hcn : cn0 H' 13122 + 1 = cn0 H 13122 := by rw [hH']; exact cn0_up (by omega) hH hkp
    have hH'k : ∀ p, H' p ≤ kk + 1 := fun p => by
      rw [hH']
      unfold upN
      split
      · omega
      · have := hHk p; omega
    -- the class's turn
    have ct : ∀ M, pT M law n m A → M 79 0 = nI a → M 79 1 = nI b → M 78 0 = ch → M 78 1 = 0 → (∀ p, p < 13122 → M 84 p = nI (H p)) → ∃ M8, (∀ rc, qD_fight_L41 rc (nI s, nI st, nI (kk + 1), M) = rc (nI (1 - s), nI st', nI (kk + 1 + 1), M8)) ∧ pT M8 law n m A ∧ M8 79 0 = nI a' ∧ M8 79 1 = nI b' ∧ M8 78 0 = ch' ∧ M8 78 1 = 0 ∧ (∀ p, p < 13122 → M8 84 p = nI (H' p)) ∧ (∀ c, c ≠ 78 → c ≠ 79 → c ≠ 84 → M8 c = M c) ∧ ∀ j, j ≠ 0 → j ≠ 1 → M8 78 j = M 78 j := by
      intro M hp h0 h1 hc0 hc1 hs84
      obtain ⟨N, hN⟩ : ∃ N, N = zw M 84 (kP a b s) (nI (kk + 1)) := ⟨_, rfl⟩
      have hpN : pT N law n m A := by rw [hN]; exact pT_of (by rw [zw_ne (by decide)]) (by rw [zw_ne (by decide)]) (fun c hc => zw_ne (by omega)) hp
      have n79 : N 79 = M 79 := by rw [hN, zw_ne (by decide)]
      have n78 : N 78 = M 78 := by rw [hN, zw_ne (by decide)]
      have n84 : ∀ p, p < 13122 → N 84 p = nI (H' p) := fun p hp => by
        rw [hN, hH']
        unfold upN
        by_cases z : p = kP a b s
        · rw [if_pos z, z, zw_same]
        · rw [if_neg z, zw_other z]; exact hs84 p hp
      have hown : N 79 s = nI (oW s a b) := by
        rw [n79]
        rcases (show s = 0 ∨ s = 1 by omega) with rfl | rfl
        · exact h0
        · exact h1
      have hoth : N 79 (1 - s) = nI (oT s a b) := by
        rw [n79]
        rcases (show s = 0 ∨ s = 1 by omega) with rfl | rfl
        · exact h1
        · exact h0
      obtain ⟨c2, q1, q2, q3, q4, q5⟩ := c_turn hpN w hs own_lt oth_lt hown hoth
      have ec : c2 = c := by rw [gc] at q1; cases q1; rfl
      subst ec
      have hd : ∀ rc, qD_fight_L41 rc (nI s, nI st, nI (kk + 1), M) = (zb2 (qD_takesTurn N (nI s)) fun x7 M8 => rc (nI (1 - s), (if x7 = 0 then nI (st + 1) else 0), nI (kk + 1 + 1), M8)) := fun rc => by
        have ek : (nI a * 81 + nI b) * 2 + nI s = nI (kP a b s) := by
          rw [zc_m81, nI_add, zc_m2, nI_add]; rfl
        unfold qD_fight_L41
        dsimp only
        rw [if_neg (show ¬ (Int32.ofNat 13122 + 1 < nI (kk + 1)) from nI_nlt (a := 13123) (b := kk + 1) (by omega) (by omega)), if_pos (show nI st < 2 from nI_lt (b := 2) hst (by omega)), zn_cl0, zn_cl1, h0, h1, ek]
        simp (disch := omega) only [zn_cl, zq_in]
        rw [hs84 _ hkp, hH, if_neg (show ¬ (0 : Int32) < nI 0 by decide), ← hN, e1s, nI_1, nI_1]
      by_cases g : tG law A n m s (oW s a b) (oT s a b) c2
      · have gG : G := by rw [hG]; exact g
        refine ⟨zw (zw N 79 s (nI c2)) 78 0 (N 78 0 + 1), fun rc => ?_, ?_, ?_, ?_, ?_, ?_, fun p hp => ?_, fun c x1 x2 x3 => ?_, fun j x1 x2 => ?_⟩
        · rw [hd rc, zb2_ok (q4 g), if_neg z10, hst', if_pos gG]; rfl
        · exact pT_of (by rw [zw_other (by decide), zw_ne (by decide)]) (by rw [zw_other (by decide), zw_ne (by decide)]) (fun c hc => by rw [zw_ne (by omega), zw_ne (by omega)]) hpN
        · rw [zw_ne (by decide), ha']
          unfold nA0
          rw [if_pos gG]
          rcases (show s = 0 ∨ s = 1 by omega) with rfl | rfl
          · rw [zw_same, if_pos rfl]
          · rw [zw_other (by decide), if_neg (by omega), n79]; exact h0
        · rw [zw_ne (by decide), hb']
          unfold nB0
          rw [if_pos gG]
          rcases (show s = 0 ∨ s = 1 by omega) with rfl | rfl
          · rw [zw_other (by decide), if_pos rfl, n79]; exact h1
          · rw [zw_same, if_neg (by omega)]
        · rw [zw_same, hch', if_pos gG, n78, hc0]
        · rw [zw_other (by decide), zw_ne (by decide), n78]; exact hc1
        · rw [zw_ne (by decide), zw_ne (by decide)]; exact n84 p hp
        · rw [zw_ne x1, zw_ne x2, hN, zw_ne x3]
        · rw [zw_other x1, zw_ne (by decide), n78]
      · have gG : ¬ G := by rw [hG]; exact g
        refine ⟨N, fun rc => ?_, hpN, ?_, ?_, ?_, ?_, n84, fun c x1 x2 x3 => ?_, fun j x1 x2 => ?_⟩
        · rw [hd rc, zb2_ok (q5 g), if_pos rfl, hst', if_neg gG]
        · rw [n79, ha']; unfold nA0; rw [if_neg gG]; exact h0
        · rw [n79, hb']; unfold nB0; rw [if_neg gG]; exact h1
        · rw [n78, hch', if_neg gG]; exact hc0
        · rw [n78]; exact hc1
        · rw [hN, zw_ne x3]
        · rw [n78]
    -- the reference's turn
    have mtn : ∀ M, mT M n m (tw A n a b) → M 86 18 = law → M 86 24 = ch → M 86 25 = 0 → (∀ a' b' s', a' < 81 → b' < 81 → s' < 2 → M 104 (kM a' b' s') = tH (H' (kP a' b' s'))) → ∃ M44, (∀ rc, qM_goRound_L91 (nI (sRo A n 0)) (nI (sRo A n 1)) rc (nI s, nI st, nI kk, 1, M) = if nI st' = 2 then rc (nI (1 - s), nI st', nI (kk + 1), 0, M44) else if tH (H' (kP a' b' (1 - s))) < 0 then rc (nI (1 - s), nI st', nI (kk + 1), 1, zw M44 104 (kM a' b' (1 - s)) (nI (kk + 1))) else rc (nI (1 - s), nI st', nI (kk + 1), 0, zw M44 86 25 (nI (kk + 1) - tH (H' (kP a' b' (1 - s)))))) ∧ mT M44 n m (tw A n a' b') ∧ M44 86 18 = law ∧ M44 86 24 = ch' ∧ M44 86 25 = 0 ∧ (∀ r, r ≠ 86 → r ≠ 89 → M44 r = M r) ∧ (∀ j, j ≠ 19 → j ≠ 24 → M44 86 j = M 86 j) := by
      intro M hM hlaw h24 h25 htab
      obtain ⟨M22, M44, t1, t2, t3, t4, t5, t6, t7, t8⟩ := m_turn hM w hlaw hs ha hb hc hoc gc
      rw [← hG] at t3 t4 t5 t8
      rw [← ha', ← hb'] at t5
      have w5 := tw_wf w a' b'
      have r0 : qM_rowOf M44 0 = some (nI a') := by
        have := m_rowOf (s := 0) t5 w5.wf (by omega)
        rw [tw_r0 w la b'] at this
        exact this
      have r1 : qM_rowOf M44 1 = some (nI b') := by
        have := m_rowOf (s := 1) t5 w5.wf (by omega)
        rw [tw_r1 w a' lb] at this
        exact this
      have hkm : kM a' b' (1 - s) < 13122 := by unfold kM; omega
      have h104 : M44 104 (kM a' b' (1 - s)) = tH (H' (kP a' b' (1 - s))) := by rw [t6 104 (by decide) (by decide)]; exact htab a' b' (1 - s) (by omega) (by omega) (by omega)
      have est : (if pB G = 0 then nI st + 1 else 0) = nI st' := by
        rw [hst']
        by_cases g : G
        · rw [pB_t g, if_neg z10, if_pos g]; rfl
        · rw [pB_f g, if_pos rfl, if_neg g, nI_1]
      refine ⟨M44, fun rc => ?_, t5, by rw [t7 18 (by decide) (by decide)]; exact hlaw, by rw [t8, hch', h24], by rw [t7 25 (by decide) (by decide)]; exact h25, t6, t7⟩
      unfold qM_goRound_L91
      dsimp only
      rw [if_neg z10, zb2_ok t1, zb_ok t2, t3, zb_s, t4, zb_s, zb_ok r0, zb_ok r1, e1s, zb_ok (m_atk a' b' (1 - s)), est]
      simp (disch := omega) only [zn_cl, zq_in, h104, nI_1]
    -- ends
    by_cases d1 : st' = 2
    · refine ⟨ch', 0, a', b', fun M hp h0 h1 hc0 hc1 hs84 F hF => ?_, fun M hM hlaw h24 h25 htab F hF => ?_⟩
      · obtain ⟨F, rfl⟩ : ∃ F', F = F' + 1 + 1 := ⟨F - 2, by omega⟩
        obtain ⟨M8, x1, x2, x3, x4, x5, x6, x7, x8, x9⟩ := ct M hp h0 h1 hc0 hc1 hs84
        refine ⟨M8, ?_, x5, x6, x3, x4, x8, x9⟩
        rw [zlp_s, x1, zlp_s, d1]
        unfold qD_fight_L41
        dsimp only
        rw [if_neg (show ¬ nI 2 < 2 by decide)]
        split <;> rfl
      · obtain ⟨F, rfl⟩ : ∃ F', F = F' + 1 + 1 := ⟨F - 2, by omega⟩
        rw [← hH'] at htab
        obtain ⟨M44, x1, x2, x3, x4, x5, x6, x7⟩ := mtn M hM hlaw h24 h25 htab
        obtain ⟨M', y1, y2, y3, y4, y5, y6⟩ := m_fin x2 w la lb (zlp (qM_goRound_L91 (nI (sRo A n 0)) (nI (sRo A n 1))) F) (nI (1 - s)) (nI st') (nI (kk + 1))
        refine ⟨M', ?_, by rw [y4 24 (by decide) (by decide)]; exact x4, by rw [y4 25 (by decide) (by decide)]; exact x5, y2, y3, fun c z1 z2 z3 => (y5 c z1 z2).trans (x6 c z1 z2), y6, fun j hj => by rw [y4 j (by omega) (by omega), x7 j (by omega) (by omega)]⟩
        rw [zlp_s, x1, if_pos (show nI st' = 2 by rw [d1]; rfl), zlp_s, y1]
    · have d1' : st' < 2 := by omega
      have n2 : ¬ nI st' = 2 := fun h => d1 ((nI_eq (b := 2) (by omega) (by omega)).mp h)
      by_cases d2 : H' (kP a' b' (1 - s)) = 0
      · obtain ⟨c0, r0, x0, y0, i1, i2⟩ := ih (kk + 1) a' b' (1 - s) st' ch' H' (by omega) la lb (by omega) d1' d2 (by omega) hH'k
        refine ⟨c0, r0, x0, y0, fun M hp h0 h1 hc0 hc1 hs84 F hF => ?_, fun M hM hlaw h24 h25 htab F hF => ?_⟩
        · obtain ⟨F, rfl⟩ : ∃ F', F = F' + 1 := ⟨F - 1, by omega⟩
          obtain ⟨M8, x1, x2, x3, x4, x5, x6, x7, x8, x9⟩ := ct M hp h0 h1 hc0 hc1 hs84
          obtain ⟨M', z1, z2, z3, z4, z5, z6, z7⟩ := i1 M8 x2 x3 x4 x5 x6 x7 F (by omega)
          refine ⟨M', ?_, z2, z3, z4, z5, fun c y1 y2 y3 => (z6 c y1 y2 y3).trans (x8 c y1 y2 y3), fun j y1 y2 => (z7 j y1 y2).trans (x9 j y1 y2)⟩
          rw [zlp_s, x1]
          exact z1
        · obtain ⟨F, rfl⟩ : ∃ F', F = F' + 1 := ⟨F - 1, by omega⟩
          rw [← hH'] at htab
          obtain ⟨M44, x1, x2, x3, x4, x5, x6, x7⟩ := mtn M hM hlaw h24 h25 htab
          obtain ⟨M', z1, z2, z3, z4, z5, z6, z7, z8⟩ := i2 (zw M44 104 (kM a' b' (1 - s)) (nI (kk + 1))) (mT_of (fun c hc => zw_ne (by omega)) x2) (by rw [zw_ne (by decide)]; exact x3) (by rw [zw_ne (by decide)]; exact x4) (by rw [zw_ne (by decide)]; exact x5) (fun a2 b2 s2 y1 y2 y3 => by
            have hinj : kP a2 b2 s2 = kP a' b' (1 - s) ↔ kM a2 b2 s2 = kM a' b' (1 - s) := by unfold kP kM; omega
            unfold upN
            by_cases z : kP a2 b2 s2 = kP a' b' (1 - s)
            · rw [if_pos z, hinj.mp z, zw_same]
              unfold tH
              rw [if_neg (by omega)]
              rfl
            · rw [if_neg z, zw_other (fun h => z (hinj.mpr h)), x6 104 (by decide) (by decide)]
              exact htab a2 b2 s2 y1 y2 y3) F (by omega)
          refine ⟨M', ?_, z2, z3, z4, z5, fun c y1 y2 y3 => by rw [z6 c y1 y2 y3, zw_ne y3]; exact x6 c y1 y2, z7, fun j hj => by rw [z8 j hj, zw_ne (by decide), x7 j (by omega) (by omega)]⟩
          rw [zlp_s, x1, if_neg n2, if_pos (show tH (H' (kP a' b' (1 - s))) < 0 by rw [d2]; decide)]
          exact z1
      · have hle := hH'k (kP a' b' (1 - s))
        obtain ⟨h, hh⟩ : ∃ h, h = H' (kP a' b' (1 - s)) := ⟨_, rfl⟩
        rw [← hh] at d2 hle
        have htH : tH h = nI (h - 1) := by unfold tH; rw [if_neg d2]
        have er : nI (kk + 1 + 1) - nI h = nI (kk + 1) - nI (h - 1) := by
          rw [pk_sub (by omega), pk_sub (by omega)]
          congr 1
          omega
        refine ⟨ch', nI (kk + 1) - nI (h - 1), a', b', fun M hp h0 h1 hc0 hc1 hs84 F hF => ?_, fun M hM hlaw h24 h25 htab F hF => ?_⟩
        · obtain ⟨F, rfl⟩ : ∃ F', F = F' + 1 + 1 := ⟨F - 2, by omega⟩
          obtain ⟨M8, x1, x2, x3, x4, x5, x6, x7, x8, x9⟩ := ct M hp h0 h1 hc0 hc1 hs84
          refine ⟨zw M8 78 1 (nI (kk + 1 + 1) - nI h), ?_, ?_, ?_, ?_, ?_, fun c y1 y2 y3 => ?_, fun j y1 y2 => ?_⟩
          · rw [zlp_s, x1, zlp_s]
            have ek : (nI a' * 81 + nI b') * 2 + nI (1 - s) = nI (kP a' b' (1 - s)) := by
              rw [zc_m81, nI_add, zc_m2, nI_add]; rfl
            unfold qD_fight_L41
            dsimp only
            rw [if_neg (show ¬ (Int32.ofNat 13122 + 1 < nI (kk + 1 + 1)) from nI_nlt (a := 13123) (b := kk + 1 + 1) (by omega) (by omega)), if_pos (show nI st' < 2 from nI_lt (b := 2) d1' (by omega)), zn_cl0, zn_cl1, x3, x4, ek]
            simp (disch := omega) only [zn_cl, zq_in]
            rw [x7 _ hkp', ← hh, if_pos (show (0 : Int32) < nI h from nI_lt (a := 0) (by omega) (by omega))]
          · rw [zw_other (by decide)]; exact x5
          · rw [zw_same]; exact er
          · rw [zw_ne (by decide)]; exact x3
          · rw [zw_ne (by decide)]; exact x4
          · rw [zw_ne y1]; exact x8 c y1 y2 y3
          · rw [zw_other y2]; exact x9 j y1 y2
        · obtain ⟨F, rfl⟩ : ∃ F', F = F' + 1 + 1 := ⟨F - 2, by omega⟩
          rw [← hH'] at htab
          obtain ⟨M44, x1, x2, x3, x4, x5, x6, x7⟩ := mtn M hM hlaw h24 h25 htab
          rw [← hh, htH] at x1
          have hM5 : mT (zw M44 86 25 (nI (kk + 1) - nI (h - 1))) n m (tw A n a' b') := mT_eq (zw_other (by decide)) (zw_other (by decide)) (fun c a b => zw_ne (by omega)) x2
          obtain ⟨M', y1, y2, y3, y4, y5, y6⟩ := m_fin hM5 w la lb (zlp (qM_goRound_L91 (nI (sRo A n 0)) (nI (sRo A n 1))) F) (nI (1 - s)) (nI st') (nI (kk + 1))
          refine ⟨M', ?_, by rw [y4 24 (by decide) (by decide), zw_other (by decide)]; exact x4, by rw [y4 25 (by decide) (by decide), zw_same], y2, y3, fun c z1 z2 z3 => by rw [y5 c z1 z2, zw_ne z1]; exact x6 c z1 z2, y6, fun j hj => by rw [y4 j (by omega) (by omega), zw_other (by omega), x7 j (by omega) (by omega)]⟩
          rw [zlp_s, x1, if_neg n2, if_neg (nI_nn _ (by omega)), zlp_s, y1]
theorem c_fill84 : ∃ M', qJ_fill_84 M 0 = some M' ∧ (∀ p, p < 13122 → M' 84 p = 0) ∧ ∀ c, c ≠ 84 → M' c = M c := by
  unfold qJ_fill_84
  refine zlp_inv (b := qJ_fill_84_L5 0) (I := fun i v => v.1 = nI i ∧ (∀ p, p < i → v.2 84 p = 0) ∧ ∀ c, c ≠ 84 → v.2 c = M c) 13122 (E := fun o => ∃ M', o = some M' ∧ (∀ p, p < 13122 → M' 84 p = 0) ∧ ∀ c, c ≠ 84 → M' c = M c) (zfu_gt (by omega)) (fun i hi v hv => ?_) (fun v hv => ?_) (s := (0, M)) ⟨rfl, fun p h => by omega, fun _ _ => rfl⟩
  · obtain ⟨v1, M2⟩ := v
    obtain ⟨e1, e2, e3⟩ := hv
    dsimp only at e1 e2 e3
    subst e1
    refine ⟨(nI (i + 1), zw M2 84 i 0), ⟨rfl, fun p hp => ?_, fun c hc => ?_⟩, fun rc => ?_⟩
    · dsimp only
      by_cases z : p = i
      · rw [z, zw_same]
      · rw [zw_other z]; exact e2 p (by omega)
    · dsimp only
      rw [zw_ne hc]; exact e3 c hc
    · unfold qJ_fill_84_L5
      dsimp only
      rw [if_pos (show nI i < Int32.ofNat 13122 from nI_lt (b := 13122) hi (by omega)), nI_1]
      simp (disch := omega) only [zn_cl, zq_in]
  · obtain ⟨v1, M2⟩ := v
    obtain ⟨e1, e2, e3⟩ := hv
    dsimp only at e1 e2 e3
    subst e1
    refine ⟨_, ⟨M2, rfl, e2, e3⟩, fun rc => ?_⟩
    unfold qJ_fill_84_L5
    dsimp only
    rw [if_neg (show ¬ nI 13122 < Int32.ofNat 13122 from Int32.lt_irrefl)]
theorem m_fill104 {x5 x6 : Nat} (hs : s < 2) (h5 : x5 < 81) (h6 : x6 < 81) : ∃ M8, zlp (qM_goRound_L33 (nI s) (nI x5) (nI x6)) zfu (0, M) = zlp (qM_goRound_L91 (nI x5) (nI x6)) zfu (nI s, 0, 0, 1, zw (zw (zw M8 86 24 0) 86 25 0) 104 (kM x5 x6 s) 0) ∧ (∀ p, p < 13122 → M8 104 p = -6) ∧ ∀ c, c ≠ 104 → M8 c = M c := by
  refine zlp_inv (b := qM_goRound_L33 (nI s) (nI x5) (nI x6)) (I := fun i v => v.1 = nI i ∧ (∀ p, p < i → v.2 104 p = -6) ∧ ∀ c, c ≠ 104 → v.2 c = M c) 13122 (E := fun o => ∃ M8, o = zlp (qM_goRound_L91 (nI x5) (nI x6)) zfu (nI s, 0, 0, 1, zw (zw (zw M8 86 24 0) 86 25 0) 104 (kM x5 x6 s) 0) ∧ (∀ p, p < 13122 → M8 104 p = -6) ∧ ∀ c, c ≠ 104 → M8 c = M c) (zfu_gt (by omega)) (fun i hi v hv => ?_) (fun v hv => ?_) (s := (0, M)) ⟨rfl, fun p h => by omega, fun _ _ => rfl⟩
  · obtain ⟨v1, M2⟩ := v
    obtain ⟨e1, e2, e3⟩ := hv
    dsimp only at e1 e2 e3
    subst e1
    refine ⟨(nI (i + 1), zw M2 104 i (-6)), ⟨rfl, fun p hp => ?_, fun c hc => ?_⟩, fun rc => ?_⟩
    · dsimp only
      by_cases z : p = i
      · rw [z, zw_same]
      · rw [zw_other z]; exact e2 p (by omega)
    · dsimp only
      rw [zw_ne hc]; exact e3 c hc
    · unfold qM_goRound_L33
      dsimp only
      rw [if_pos (show nI i < 13122 from nI_lt (b := 13122) hi (by omega)), nI_1]
      simp (disch := omega) only [zn_cl, zq_in]
  · obtain ⟨v1, M2⟩ := v
    obtain ⟨e1, e2, e3⟩ := hv
    dsimp only at e1 e2 e3
    subst e1
    have hkm : kM x5 x6 s < 13122 := by unfold kM; omega
    refine ⟨_, ⟨M2, rfl, e2, e3⟩, fun rc => ?_⟩
    unfold qM_goRound_L33
    dsimp only
    rw [if_neg (show ¬ nI 13122 < 13122 from Int32.lt_irrefl), zb_ok (m_atk x5 x6 s), zq_in hkm (by omega), zn_cl (by omega)]
end ZRing2
