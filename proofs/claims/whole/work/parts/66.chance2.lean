section ZChance2
variable {M : zM} {n m k : Nat} {law : Int32} {A A' : zM} {q s t : Nat}
theorem k_chance (hI : zI M) (a b p : Int32) : ∃ x, qS_chance M a b p = some x ∧ qM_chance M a b p = some x := by
  obtain ⟨n, m, k, law, A, hI⟩ := hI
  have hk := hI.w.k30
  have ck : M 18 0 = nI k := hI.c.k
  have mk : M 86 29 = nI k := hI.m.k
  have hin : qM_in p.toInt64 0 1 = _ := m_in (v := p) (lo := 0) (hi := 1) (L := 0) (H := 1) rfl rfl
  unfold qS_chance qM_chance
  rw [zb_ok c_noLetter, zb_ok m_isLetter]
  by_cases c1 : sIn 0 3 a
  · rw [if_pos c1, if_pos rfl, if_pos c1, if_neg z10, zb_ok c_noLetter, zb_ok m_isLetter]
    by_cases c2 : sIn 0 3 b
    · rw [if_pos c2, if_pos rfl, if_pos c2, if_neg z10]
      by_cases c3 : a = b
      · rw [if_pos c3, if_pos c3]
        exact ⟨_, rfl, rfl⟩
      · rw [if_neg c3, if_neg c3, zb_ok c_out, zb_ok hin]
        by_cases c4 : sIn 0 1 p
        · rw [if_pos c4, if_pos rfl, if_pos c4, if_neg z10, ck, mk]
          by_cases c5 : nI k = 0
          · rw [if_pos c5, if_pos c5]
            exact ⟨_, rfl, rfl⟩
          · rw [if_neg c5, if_neg c5]
            obtain ⟨x, hx, rfl⟩ := sIn_n (h := 3) (by omega) c1
            obtain ⟨y, hy, rfl⟩ := sIn_n (h := 3) (by omega) c2
            obtain ⟨dr, d1, d2⟩ := sWb_n hI.w hx hx k
            obtain ⟨mr, m1, m2⟩ := sWb_n hI.w hy hy k
            obtain ⟨h0, t1, t2⟩ := sWb_n hI.w hx hy k
            have w1 := c_countWith hI hx hx
            rw [or_self32] at w1
            have w2 := c_countWith hI hy hy
            rw [or_self32] at w2
            have w3 := c_countWith hI hx hy
            have q1 := nAB k (by omega) dr (by omega)
            have hall : cW k dr = nA k dr := by unfold cW; rw [if_neg (by omega)]
            have f61 := fW_lt (sl := k) (mk := mr) (dr := dr) (h0 := h0) hk m1
            obtain ⟨f, hf⟩ : ∃ f, f = fW k mr dr h0 (dr + 1 - h0) := ⟨_, rfl⟩
            obtain ⟨g, hg⟩ : ∃ g, g = nA k dr := ⟨_, rfl⟩
            have hf63 : f < 2 ^ 62 := by
              have := f61 (dr + 1 - h0)
              rw [← hf] at this
              have : (dr + 1 - h0) * 72057594037927936 ≤ 31 * 72057594037927936 := Nat.mul_le_mul_right _ (by omega)
              omega
            rw [← hg] at q1
            have hg1 : 0 < Nat.gcd g f := Nat.gcd_pos_of_pos_left f (by omega)
            have hgl : Nat.gcd g f ≤ g := Nat.gcd_le_left f (by omega)
            obtain ⟨res, hres⟩ : ∃ res, res = (if p = 0 then lN f / lN (Nat.gcd g f) else lN g / lN (Nat.gcd g f)) := ⟨_, rfl⟩
            refine ⟨res, ?_, ?_⟩
            · have key : qT_odds M (1 <<< (nI x &&& 31)) (1 <<< (nI y &&& 31)) p = some res := by
                unfold qT_odds
                rw [zb_ok w1, zb_ok w2, zb_ok w3, d2, m2, t2]
                refine (zlp_run (b := qT_odds_L26 (nI dr) M p (nI mr)) (s := fun i => (lN (fW k mr dr h0 i), nI (h0 + i))) (dr + 1 - h0) (zfu_gt (by omega)) (fun i hi rc => ?_) (fun rc => ?_) : zlp (qT_odds_L26 (nI dr) M p (nI mr)) zfu (lN (fW k mr dr h0 0), nI (h0 + 0)) = some res)
                · have e1 : nI k - nI mr = nI (k - mr) := pk_sub m1
                  have e2 : nI dr - nI (h0 + i) = nI (dr - (h0 + i)) := pk_sub (by omega)
                  unfold qT_odds_L26
                  dsimp only
                  rw [if_neg (show ¬ nI dr < nI (h0 + i) from nI_nlt (by omega) (by omega)), zb_ok (c_choose (by omega) (by omega)), ck, e1, e2, zb_ok (c_choose (by omega) (by omega)), lN_mul, lN_add, nI_1]
                  rfl
                · have gc : qT_commonDivisor (lN g) (lN f) = some (lN (Nat.gcd g f)) := by
                    unfold qT_commonDivisor
                    by_cases cf : f = 0
                    · have h := c_gcd 0 g f 0 zfu (by omega) (by omega) (by omega) (by omega) (by decide)
                      exact h
                    · show zlp qT_commonDivisor_L9 (99999 + 1) (lN g, lN f, nI 0) = _
                      have hr := Nat.mod_lt g (show f > 0 by omega)
                      have hle := Nat.mod_le g f
                      have s1 : ∀ rc, qT_commonDivisor_L9 rc (lN g, lN f, nI 0) = rc (lN f, lN (g % f), nI 1) := fun rc => by
                        unfold qT_commonDivisor_L9
                        dsimp only
                        rw [if_pos (show nI 0 < 100 by decide), if_neg (fun h => cf ((lcmp0 (by omega)).mp h)), zq_pos (lN_ne (by omega) (by omega)), pk_lRem (by omega) (by omega) (by omega), nI_1]
                      rw [zlp_s, s1, c_gcd 28 f (g % f) 1 99999 (by omega) (by omega) (by omega) (by omega) (by omega), Nat.gcd_comm g f, Nat.gcd_rec f g, Nat.gcd_comm (g % f) f]
                  have hmx : (if lN (Nat.gcd g f) < 1 then 1 else lN (Nat.gcd g f)) = lN (Nat.gcd g f) := by
                    rw [if_neg]
                    rw [show (1 : Int64) = lN 1 from rfl, pk_lLT (by omega) (by decide)]
                    omega
                  have hge : dr < h0 + (dr + 1 - h0) := by omega
                  unfold qT_odds_L26
                  dsimp only
                  rw [if_pos (show nI dr < nI (h0 + (dr + 1 - h0)) from nI_lt hge (by omega)), ck, zb_ok (c_choose (by omega) (by omega)), hall, ← hg, ← hf, zb_ok gc, hmx, hres]
                  by_cases cp : p = 0
                  · rw [if_pos cp, if_pos cp, zq_pos (lN_ne hg1 (by omega))]
                  · rw [if_neg cp, if_neg cp, zq_pos (lN_ne hg1 (by omega))]
              rw [zb_ok key]
            · have v1 : qM_withBoth M (nI x) (nI x) = some (nI dr) := by rw [m_withBoth hI x x, d2]
              have v2 : qM_withBoth M (nI y) (nI y) = some (nI mr) := by rw [m_withBoth hI y y, m2]
              have v3 : qM_withBoth M (nI x) (nI y) = some (nI h0) := by rw [m_withBoth hI x y, t2]
              rw [zb_ok v1, zb_ok v2, zb_ok v3]
              refine (zlp_run (b := qM_chance_L75 (nI dr) M p (nI mr)) (s := fun i => (lN (fW k mr dr h0 i), nI (h0 + i))) (dr + 1 - h0) (zfu_gt (by omega)) (fun i hi rc => ?_) (fun rc => ?_) : zlp (qM_chance_L75 (nI dr) M p (nI mr)) zfu (lN (fW k mr dr h0 0), nI (h0 + 0)) = some res)
              · have e1 : nI k - nI mr = nI (k - mr) := pk_sub m1
                have e2 : nI dr - nI (h0 + i) = nI (dr - (h0 + i)) := pk_sub (by omega)
                unfold qM_chance_L75
                dsimp only
                rw [if_neg (show ¬ nI dr < nI (h0 + i) from nI_nlt (by omega) (by omega)), zb_ok (m_choose (by omega) (by omega)), mk, e1, e2, zb_ok (m_choose (by omega) (by omega)), lN_mul, lN_add, nI_1]
                rfl
              · have hge : dr < h0 + (dr + 1 - h0) := by omega
                unfold qM_chance_L75
                dsimp only
                rw [if_pos (show nI dr < nI (h0 + (dr + 1 - h0)) from nI_lt hge (by omega)), mk, zb_ok (m_choose (by omega) (by omega)), hall, ← hg, ← hf]
                rw [m_gcd (fun x => if p = 0 then zq (¬ lN x = 0) (some (lN f / lN x)) else zq (¬ lN x = 0) (some (lN g / lN x))) (fun x => rfl) 28 f g zfu (by omega) (by omega) (by omega) (by decide), Nat.gcd_comm f g, hres]
                by_cases cp : p = 0
                · rw [if_pos cp, if_pos cp, zq_pos (lN_ne hg1 (by omega))]
                · rw [if_neg cp, if_neg cp, zq_pos (lN_ne hg1 (by omega))]
        · rw [if_neg c4, if_neg z10, if_neg c4, if_pos rfl]
          exact ⟨_, rfl, rfl⟩
    · rw [if_neg c2, if_neg z10, if_neg c2, if_pos rfl]
      exact ⟨_, rfl, rfl⟩
  · rw [if_neg c1, if_neg z10, if_neg c1, if_pos rfl]
    exact ⟨_, rfl, rfl⟩
end ZChance2
