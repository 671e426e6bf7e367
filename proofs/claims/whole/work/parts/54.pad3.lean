section ZPad3
variable {M : zM} {n m k : Nat} {law : Int32} {A : zM} {q s t : Nat} {st w cur : Nat} {D : pDa}
/-- the pad's own reading -/
def cJ (M : zM) (st w cur : Nat) (D : pDa) : Prop := M 58 2 = nI cur ∧ M 58 1 = nI (bw_c w - (if st = 1 then 1 else 0)) ∧ (∀ t, t < 4 → M 60 t = D.1 t) ∧ (∀ t, t < 4 → M 61 t = D.2.1 t) ∧ (∀ t, t < 4 → M 62 t = D.2.2 t)
def fA (M M' : zM) : Prop := (∀ r, r ≠ 58 → ¬ (60 ≤ r ∧ r ≤ 62) → M' r = M r) ∧ M' 58 0 = M 58 0
theorem fA.rf (M : zM) : fA M M := ⟨fun _ _ _ => rfl, rfl⟩
theorem fA.tr {M1 M2 M3 : zM} (h1 : fA M1 M2) (h2 : fA M2 M3) : fA M1 M3 := ⟨fun r a b => (h2.1 r a b).trans (h1.1 r a b), h2.2.trans h1.2⟩
theorem cJ_s {st' : Nat} (h : cJ M st w cur D) (h1 : st ≠ 1) (h2 : st' ≠ 1) : cJ M st' w cur D := by
  unfold cJ at *
  rw [if_neg h1] at h
  rw [if_neg h2]
  exact h
theorem c_isDigit (c : Int32) : qA_isDigit c = some (if c < 48 ∨ 57 < c then 0 else 1) := by
  unfold qA_isDigit
  by_cases h1 : c < 48
  · rw [if_pos h1, if_pos (Or.inl h1)]
  · rw [if_neg h1]
    by_cases h2 : 57 < c
    · rw [if_pos h2, if_pos (Or.inr h2)]
    · rw [if_neg h2, if_neg (fun h => h.elim h1 h2)]
theorem c_takeMark (hw : w < 16) (h : M 58 1 = nI (bw_c w)) (g : Bool) (cur : Nat) (c : Int32) : qA_takeMark M c (if g = true then 1 else 0) = some (pO (pMk g w cur c) 9) := by
  have h5 := bw_5 w hw
  have h4 := bw_4 w hw
  have hk : (if c = 59 then (if M 58 1 < 4 then some (0 : Int32) else some 9) else some 9) = some (if c = 59 ∧ ¬ w = 15 then 0 else 9) := by
    rw [h]
    by_cases c1 : c = 59
    · rw [if_pos c1]
      by_cases c2 : w = 15
      · rw [if_neg (show ¬ nI (bw_c w) < 4 from nI_nlt (b := 4) (by
          by_cases z : bw_c w < 4
          · exact absurd c2 (h4.mp z)
          · omega) (by omega)), if_neg (fun z => z.2 c2)]
      · rw [if_pos (show nI (bw_c w) < 4 from nI_lt (b := 4) (h4.mpr c2) (by omega)), if_pos ⟨c1, c2⟩]
    · rw [if_neg c1, if_neg (fun z => c1 z.1)]
  unfold qA_takeMark pMk
  simp only [zlj_u]
  rw [hk]
  cases g with
  | false =>
    rw [if_neg (show ¬ (false = true) by decide), if_pos rfl, if_neg (show ¬ (false = true ∧ c = 126) from fun z => absurd z.1 (by decide))]
    by_cases c2 : c = 59 ∧ ¬ w = 15
    · rw [if_pos c2, if_pos c2]; rfl
    · rw [if_neg c2, if_neg c2]; rfl
  | true =>
    rw [if_pos rfl, if_neg z10]
    by_cases c1 : c = 126
    · rw [if_pos c1, if_pos ⟨rfl, c1⟩]; rfl
    · rw [if_neg c1, if_neg (show ¬ (true = true ∧ c = 126) from fun z => c1 z.2)]
      by_cases c2 : c = 59 ∧ ¬ w = 15
      · rw [if_pos c2, if_pos c2]; rfl
      · rw [if_neg c2, if_neg c2]; rfl
theorem fA_w {r j : Nat} {x : Int32} (h : (r = 58 ∧ j ≠ 0) ∨ r = 60 ∨ r = 61 ∨ r = 62) : fA M (zw M r j x) := by
  refine ⟨fun r' a b => zw_ne (by omega), ?_⟩
  rcases h with ⟨rfl, h⟩ | h
  · exact zw_other (fun e => h e.symm)
  · rw [zw_ne (by omega)]
theorem c_take (h : pI st w cur D) (hJ : cJ M st w cur D) {c : Int32} (hc : sIn 33 126 c) : ∃ M', qA_take M (nI st) c = some (pO (pNx st w cur c) 9, M') ∧ fA M M' ∧ ∀ p, pNx st w cur c = some p → cJ M' p.1 p.2.1 p.2.2 (pDt p.1 p.2.2 c D) := by
  have hI := h
  obtain ⟨a1, a2, a3, a4, a5, a6, a7, a8, a9, a10⟩ := h
  have hJ' := hJ
  obtain ⟨j1, j2, j3, j4, j5⟩ := hJ
  have same : ∀ {x : Int32} {o : Option (Nat × Nat × Nat)}, qA_take M (nI st) c = some (x, M) → x = pO o 9 → pNx st w cur c = o → (∀ p, o = some p → cJ M p.1 p.2.1 p.2.2 (pDt p.1 p.2.2 c D)) → ∃ M', qA_take M (nI st) c = some (pO (pNx st w cur c) 9, M') ∧ fA M M' ∧ ∀ p, pNx st w cur c = some p → cJ M' p.1 p.2.1 p.2.2 (pDt p.1 p.2.2 c D) := by
    intro x o h1 h2 h3 h4
    exact ⟨M, by rw [h1, h2, h3], fA.rf M, fun p hp => h4 p (h3.symm.trans hp)⟩
  have mk : ∀ g, st ≠ 1 → ∀ p, pMk g w cur c = some p → cJ M p.1 p.2.1 p.2.2 (pDt p.1 p.2.2 c D) := by
    intro g h1 p hp
    rcases pMk_inv hp with ⟨rfl, -⟩ | rfl
    · exact cJ_s hJ' h1 (by omega)
    · exact cJ_s hJ' h1 (by omega)
  rcases (show st = 0 ∨ st = 1 ∨ st = 2 ∨ st = 3 ∨ st = 4 ∨ st = 5 ∨ st = 6 ∨ st = 7 ∨ st = 8 by omega) with rfl | rfl | rfl | rfl | rfl | rfl | rfl | rfl | rfl
  · by_cases c1 : c < 97 ∨ 100 < c
    · refine same (x := 9) (o := none) ?_ rfl (by rw [pNx_0, if_pos c1]) (fun p h => by cases h)
      unfold qA_take
      rw [if_pos (show nI 0 = 0 from rfl)]
      have h0 : sIn 0 126 c := ⟨fun z => hc.1 (Int32.lt_trans z (by decide)), hc.2⟩
      obtain ⟨j, hj, rfl⟩ := sIn_n (h := 126) (by omega) h0
      have e : qA_takeLetter M (nI j) = some (9, M) := by
        unfold qA_takeLetter
        by_cases c2 : j < 97
        · rw [if_pos (show nI j - 97 < 0 from pk_sneg (b := 97) (by omega) c2)]
        · have e1 : nI j - 97 = nI (j - 97) := pk_sub (b := 97) (by omega)
          have c3 : 100 < j := by
            rcases c1 with z | z
            · exact absurd z (nI_nlt (b := 97) (by omega) (by omega))
            · exact (nI_ltI (a := 100) (by omega) (by omega)).mp z
          rw [e1, if_neg (nI_pos (by omega)), if_neg (show ¬ nI (j - 97) < 4 from nI_nlt (b := 4) (by omega) (by omega))]
      rw [zb2_ok e]
    · obtain ⟨t, ht, e1, e2, e3⟩ := let_of c1
      have hz := a5 t ht
      by_cases c2 : bw_t w t = true
      · refine same (x := 9) (o := none) ?_ rfl (by rw [pNx_0, if_neg c1, e3, if_pos c2]) (fun p h => by cases h)
        have nz : ¬ M 60 t = 0 := by
          rw [j3 t ht, hz]
          rintro (z | z)
          · rw [c2] at z; cases z
          · omega
        have e : qA_takeLetter M c = some (9, M) := by
          unfold qA_takeLetter
          rw [e2, if_neg (nI_pos (by omega)), if_pos (show nI t < 4 from nI_lt (b := 4) ht (by omega)), zq_in ht (by omega), zn_cl (by omega), if_neg nz]
        unfold qA_take
        rw [if_pos (show nI 0 = 0 from rfl), zb2_ok e]
      · have c3 : bw_t w t = false := by
          cases z : bw_t w t with
          | false => rfl
          | true => exact absurd z c2
        obtain ⟨b1, b2, b3⟩ := bw_or w a2 t ht c3
        have ep : pNx 0 w cur c = some (1, w + 2 ^ t, t) := by rw [pNx_0, if_neg c1, e3, if_neg c2]
        have nz : M 60 t = 0 := by rw [j3 t ht, hz]; exact Or.inl c3
        have e : qA_takeLetter M c = some (1, zw M 58 2 (nI t)) := by
          unfold qA_takeLetter
          rw [e2, if_neg (nI_pos (by omega)), if_pos (show nI t < 4 from nI_lt (b := 4) ht (by omega)), zq_in ht (by omega), zn_cl (by omega), if_pos nz]
        refine ⟨zw M 58 2 (nI t), ?_, fA_w (by omega), fun p hp => ?_⟩
        · rw [ep]
          unfold qA_take
          rw [if_pos (show nI 0 = 0 from rfl), zb2_ok e]
          rfl
        · rw [ep] at hp
          cases hp
          refine ⟨zw_same _ _ _ _, ?_, j3, j4, j5⟩
          rw [zw_other (by decide), j2, if_pos rfl, if_neg (by omega), b3]
          rfl
  · by_cases c1 : c < 49 ∨ 51 < c
    · refine same (x := 9) (o := none) ?_ rfl (by rw [pNx_1, if_pos c1]) (fun p h => by cases h)
      have e : qA_takeMany M c = some (9, M) := by
        unfold qA_takeMany
        rcases c1 with z | z
        · rw [if_pos z]
        · by_cases y : c < 49
          · rw [if_pos y]
          · rw [if_neg y, if_pos z]
      unfold qA_take
      rw [if_neg (show ¬ nI 1 = 0 by decide), if_pos (show nI 1 = 1 from rfl), zb2_ok e]
    · have ep : pNx 1 w cur c = some (2, w, cur) := by rw [pNx_1, if_neg c1]
      have hb := bw_pos w a2 cur a3 (a4 (by omega))
      have e58 : M 58 1 + 1 = nI (bw_c w) := by
        rw [j2, if_pos rfl, nI_1, show bw_c w - 1 + 1 = bw_c w by omega]
      have e : qA_takeMany M c = some (2, zw (zw M 60 cur (c - 48)) 58 1 (nI (bw_c w))) := by
        unfold qA_takeMany
        rw [if_neg (fun z => c1 (Or.inl z)), if_neg (fun z => c1 (Or.inr z)), j1, zq_in a3 (by omega), zn_cl (by omega), e58]
      refine ⟨_, ?_, (fA_w (M := M) (r := 60) (j := cur) (x := c - 48) (by omega)).tr (fA_w (r := 58) (j := 1) (x := nI (bw_c w)) (by omega)), fun p hp => ?_⟩
      · rw [ep]
        unfold qA_take
        rw [if_neg (show ¬ nI 1 = 0 by decide), if_pos (show nI 1 = 1 from rfl), zb2_ok e]
        rfl
      · rw [ep] at hp
        cases hp
        refine ⟨?_, ?_, fun t ht => ?_, fun t ht => ?_, fun t ht => ?_⟩
        · rw [zw_other (by decide), zw_ne (by decide)]; exact j1
        · rw [zw_same]; rfl
        · show _ = upd D.1 cur (c - 48) t
          rw [zw_ne (by decide), zw_at]
          by_cases z : t = cur
          · rw [z, pk_us, pk_us]
          · rw [pk_un z, pk_un z]; exact j3 t ht
        · rw [zw_ne (by decide), zw_ne (by decide)]; exact j4 t ht
        · rw [zw_ne (by decide), zw_ne (by decide)]; exact j5 t ht
  · by_cases c1 : c = 60
    · refine same (x := 3) (o := some (3, w, cur)) ?_ rfl (by rw [pNx_2, if_pos c1]) (fun p h => by cases h; exact cJ_s hJ' (by omega) (by omega))
      unfold qA_take
      rw [if_neg (show ¬ nI 2 = 0 by decide), if_neg (show ¬ nI 2 = 1 by decide), if_pos (show nI 2 = 2 from rfl), if_pos c1]
    · refine same (x := 9) (o := none) ?_ rfl (by rw [pNx_2, if_neg c1]) (fun p h => by cases h)
      unfold qA_take
      rw [if_neg (show ¬ nI 2 = 0 by decide), if_neg (show ¬ nI 2 = 1 by decide), if_pos (show nI 2 = 2 from rfl), if_neg c1]
  · by_cases c1 : c < 48 ∨ 57 < c
    · refine same (x := 9) (o := none) ?_ rfl (by rw [pNx_3, if_pos c1]) (fun p h => by cases h)
      unfold qA_take
      rw [if_neg (show ¬ nI 3 = 0 by decide), if_neg (show ¬ nI 3 = 1 by decide), if_neg (show ¬ nI 3 = 2 by decide), if_pos (show nI 3 = 3 from rfl), zb_ok (c_isDigit c), if_pos c1, if_pos rfl]
    · have ep : pNx 3 w cur c = some (4, w, cur) := by rw [pNx_3, if_neg c1]
      refine ⟨zw M 61 cur (0 * 10 + c - 48), ?_, fA_w (by omega), fun p hp => ?_⟩
      · rw [ep]
        unfold qA_take
        rw [if_neg (show ¬ nI 3 = 0 by decide), if_neg (show ¬ nI 3 = 1 by decide), if_neg (show ¬ nI 3 = 2 by decide), if_pos (show nI 3 = 3 from rfl), zb_ok (c_isDigit c), if_neg c1, if_neg z10]
        unfold qA_addDigit_58_61
        rw [j1, zq_in a3 (by omega), zn_cl (by omega)]
        rfl
      · rw [ep] at hp
        cases hp
        refine ⟨j1, ?_, j3, fun t ht => ?_, j5⟩
        · rw [zw_ne (by decide), j2, if_neg (by omega), if_neg (by omega)]
        · show _ = upd D.2.1 cur (0 * 10 + c - 48) t
          rw [zw_at]
          by_cases z : t = cur
          · rw [z, pk_us, pk_us]
          · rw [pk_un z, pk_un z]; exact j4 t ht
  · by_cases c1 : c < 48 ∨ 57 < c
    · have e := c_takeMark (M := M) a2 (by rw [j2, if_neg (by omega)]; rfl) true cur c
      refine same (x := pO (pMk true w cur c) 9) (o := pMk true w cur c) ?_ rfl (by rw [pNx_4, if_pos c1]) (mk true (by omega))
      unfold qA_take
      rw [if_neg (show ¬ nI 4 = 0 by decide), if_neg (show ¬ nI 4 = 1 by decide), if_neg (show ¬ nI 4 = 2 by decide), if_neg (show ¬ nI 4 = 3 by decide), if_pos (show nI 4 = 4 from rfl), zb_ok (c_isDigit c), if_pos c1, if_pos rfl]
      rw [if_pos rfl] at e
      rw [zb_ok e]
    · have ep : pNx 4 w cur c = some (5, w, cur) := by rw [pNx_4, if_neg c1]
      refine ⟨zw M 61 cur (D.2.1 cur * 10 + c - 48), ?_, fA_w (by omega), fun p hp => ?_⟩
      · rw [ep]
        unfold qA_take
        rw [if_neg (show ¬ nI 4 = 0 by decide), if_neg (show ¬ nI 4 = 1 by decide), if_neg (show ¬ nI 4 = 2 by decide), if_neg (show ¬ nI 4 = 3 by decide), if_pos (show nI 4 = 4 from rfl), zb_ok (c_isDigit c), if_neg c1, if_neg z10]
        unfold qA_addDigit_58_61
        rw [j1, zq_in a3 (by omega), zq_in a3 (by omega), zn_cl (by omega), j4 cur a3]
        rfl
      · rw [ep] at hp
        cases hp
        refine ⟨j1, ?_, j3, fun t ht => ?_, j5⟩
        · rw [zw_ne (by decide), j2, if_neg (by omega), if_neg (by omega)]
        · show _ = upd D.2.1 cur (D.2.1 cur * 10 + c - 48) t
          rw [zw_at]
          by_cases z : t = cur
          · rw [z, pk_us, pk_us]
          · rw [pk_un z, pk_un z]; exact j4 t ht
  · have e := c_takeMark (M := M) a2 (by rw [j2, if_neg (by omega)]; rfl) true cur c
    refine same (x := pO (pMk true w cur c) 9) (o := pMk true w cur c) ?_ rfl (pNx_5 w cur c) (mk true (by omega))
    unfold qA_take
    rw [if_neg (show ¬ nI 5 = 0 by decide), if_neg (show ¬ nI 5 = 1 by decide), if_neg (show ¬ nI 5 = 2 by decide), if_neg (show ¬ nI 5 = 3 by decide), if_neg (show ¬ nI 5 = 4 by decide), if_pos (show nI 5 = 5 from rfl)]
    rw [if_pos rfl] at e
    rw [zb_ok e]
  · by_cases c1 : c < 48 ∨ 57 < c
    · refine same (x := 9) (o := none) ?_ rfl (by rw [pNx_6, if_pos c1]) (fun p h => by cases h)
      unfold qA_take
      rw [if_neg (show ¬ nI 6 = 0 by decide), if_neg (show ¬ nI 6 = 1 by decide), if_neg (show ¬ nI 6 = 2 by decide), if_neg (show ¬ nI 6 = 3 by decide), if_neg (show ¬ nI 6 = 4 by decide), if_neg (show ¬ nI 6 = 5 by decide), if_pos (show nI 6 = 6 from rfl), zb_ok (c_isDigit c), if_pos c1, if_pos rfl]
    · have ep : pNx 6 w cur c = some (7, w, cur) := by rw [pNx_6, if_neg c1]
      refine ⟨zw M 62 cur (0 * 10 + c - 48), ?_, fA_w (by omega), fun p hp => ?_⟩
      · rw [ep]
        unfold qA_take
        rw [if_neg (show ¬ nI 6 = 0 by decide), if_neg (show ¬ nI 6 = 1 by decide), if_neg (show ¬ nI 6 = 2 by decide), if_neg (show ¬ nI 6 = 3 by decide), if_neg (show ¬ nI 6 = 4 by decide), if_neg (show ¬ nI 6 = 5 by decide), if_pos (show nI 6 = 6 from rfl), zb_ok (c_isDigit c), if_neg c1, if_neg z10]
        unfold qA_addDigit_58_62
        rw [j1, zq_in a3 (by omega), zn_cl (by omega)]
        rfl
      · rw [ep] at hp
        cases hp
        refine ⟨j1, ?_, j3, j4, fun t ht => ?_⟩
        · rw [zw_ne (by decide), j2, if_neg (by omega), if_neg (by omega)]
        · show _ = upd D.2.2 cur (0 * 10 + c - 48) t
          rw [zw_at]
          by_cases z : t = cur
          · rw [z, pk_us, pk_us]
          · rw [pk_un z, pk_un z]; exact j5 t ht
  · by_cases c1 : c < 48 ∨ 57 < c
    · have e := c_takeMark (M := M) a2 (by rw [j2, if_neg (by omega)]; rfl) false cur c
      refine same (x := pO (pMk false w cur c) 9) (o := pMk false w cur c) ?_ rfl (by rw [pNx_7, if_pos c1]) (mk false (by omega))
      unfold qA_take
      rw [if_neg (show ¬ nI 7 = 0 by decide), if_neg (show ¬ nI 7 = 1 by decide), if_neg (show ¬ nI 7 = 2 by decide), if_neg (show ¬ nI 7 = 3 by decide), if_neg (show ¬ nI 7 = 4 by decide), if_neg (show ¬ nI 7 = 5 by decide), if_neg (show ¬ nI 7 = 6 by decide), if_pos (show nI 7 = 7 from rfl), zb_ok (c_isDigit c), if_pos c1, if_pos rfl]
      rw [if_neg (by decide)] at e
      rw [zb_ok e]
    · have ep : pNx 7 w cur c = some (8, w, cur) := by rw [pNx_7, if_neg c1]
      refine ⟨zw M 62 cur (D.2.2 cur * 10 + c - 48), ?_, fA_w (by omega), fun p hp => ?_⟩
      · rw [ep]
        unfold qA_take
        rw [if_neg (show ¬ nI 7 = 0 by decide), if_neg (show ¬ nI 7 = 1 by decide), if_neg (show ¬ nI 7 = 2 by decide), if_neg (show ¬ nI 7 = 3 by decide), if_neg (show ¬ nI 7 = 4 by decide), if_neg (show ¬ nI 7 = 5 by decide), if_neg (show ¬ nI 7 = 6 by decide), if_pos (show nI 7 = 7 from rfl), zb_ok (c_isDigit c), if_neg c1, if_neg z10]
        unfold qA_addDigit_58_62
        rw [j1, zq_in a3 (by omega), zq_in a3 (by omega), zn_cl (by omega), j5 cur a3]
        rfl
      · rw [ep] at hp
        cases hp
        refine ⟨j1, ?_, j3, j4, fun t ht => ?_⟩
        · rw [zw_ne (by decide), j2, if_neg (by omega), if_neg (by omega)]
        · show _ = upd D.2.2 cur (D.2.2 cur * 10 + c - 48) t
          rw [zw_at]
          by_cases z : t = cur
          · rw [z, pk_us, pk_us]
          · rw [pk_un z, pk_un z]; exact j5 t ht
  · have e := c_takeMark (M := M) a2 (by rw [j2, if_neg (by omega)]; rfl) false cur c
    refine same (x := pO (pMk false w cur c) 9) (o := pMk false w cur c) ?_ rfl (pNx_8 w cur c) (mk false (by omega))
    unfold qA_take
    rw [if_neg (show ¬ nI 8 = 0 by decide), if_neg (show ¬ nI 8 = 1 by decide), if_neg (show ¬ nI 8 = 2 by decide), if_neg (show ¬ nI 8 = 3 by decide), if_neg (show ¬ nI 8 = 4 by decide), if_neg (show ¬ nI 8 = 5 by decide), if_neg (show ¬ nI 8 = 6 by decide), if_neg (show ¬ nI 8 = 7 by decide)]
    rw [if_neg (by decide)] at e
    rw [zb_ok e]
/-- the pad is read -/
theorem c_read {N : Nat} (hN : N ≤ 40) (h0 : M 58 0 = nI N) (hs : ∀ j, j < N → sIn 33 126 (M 59 j)) : ∃ x M', qA_read M = some (x, M') ∧ pF (M 59) N x ∧ fA M M' ∧ ∀ z, pRun (M 59) N = some z → cJ M' z.1 z.2.1 z.2.2.1 z.2.2.2 := by
  unfold qA_read
  refine zlp_inv (b := qA_read_L12) (I := fun i v => v.1 = nI i ∧ fA M v.2 ∧ v.2 58 1 = 0 ∧ v.2 58 2 = 0 ∧ ∀ t, t < i → v.2 60 t = 0 ∧ v.2 61 t = 0 ∧ v.2 62 t = -6) 4 (E := fun o => ∃ x M', o = some (x, M') ∧ pF (M 59) N x ∧ fA M M' ∧ ∀ z, pRun (M 59) N = some z → cJ M' z.1 z.2.1 z.2.2.1 z.2.2.2) (zfu_gt (by omega)) (fun i hi v hv => ?_) (fun v hv => ?_) (s := (0, zw (zw M 58 1 0) 58 2 0)) ⟨rfl, (fA_w (M := M) (r := 58) (j := 1) (x := 0) (by omega)).tr (fA_w (r := 58) (j := 2) (x := 0) (by omega)), (by show zw (zw M 58 1 0) 58 2 0 58 1 = 0; rw [zw_other (by decide), zw_same]), (by show zw (zw M 58 1 0) 58 2 0 58 2 = 0; rw [zw_same]), fun t h => by omega⟩
  · obtain ⟨v1, M2⟩ := v
    obtain ⟨e1, e2, e3, e4, e5⟩ := hv
    dsimp only at e1 e2 e3 e4 e5
    subst e1
    refine ⟨(nI (i + 1), zw (zw (zw M2 60 i 0) 61 i 0) 62 i (-6)), ⟨rfl, e2.tr ((fA_w (M := M2) (r := 60) (j := i) (x := 0) (by omega)).tr ((fA_w (r := 61) (j := i) (x := 0) (by omega)).tr (fA_w (r := 62) (j := i) (x := -6) (by omega)))), ?_, ?_, fun t ht => ?_⟩, fun rc => ?_⟩
    · exact e3
    · exact e4
    · show upd (M2 60) i 0 t = 0 ∧ upd (M2 61) i 0 t = 0 ∧ upd (M2 62) i (-6) t = -6
      by_cases z : t = i
      · rw [z, pk_us, pk_us, pk_us]
        exact ⟨rfl, rfl, rfl⟩
      · rw [pk_un z, pk_un z, pk_un z]
        exact e5 t (by omega)
    · unfold qA_read_L12
      simp (disch := omega) only [zn_lt4, if_pos hi, zn_cl, zq_in, nI_1]
  · obtain ⟨v1, M2⟩ := v
    obtain ⟨e1, e2, e3, e4, e5⟩ := hv
    dsimp only at e1 e2 e3 e4 e5
    subst e1
    have h59 : M2 59 = M 59 := e2.1 59 (by decide) (by omega)
    have h58 : M2 58 0 = nI N := e2.2.trans h0
    refine ⟨zlp qA_read_L49 zfu (0, 0, M2), ?_, fun rc => ?_⟩
    · refine zlp_ex (b := qA_read_L49) (I := fun i v => ∃ z, pRun (M 59) i = some z ∧ v.1 = nI z.1 ∧ v.2.1 = nI i ∧ fA M v.2.2 ∧ cJ v.2.2 z.1 z.2.1 z.2.2.1 z.2.2.2) N (E := fun o => ∃ x M', o = some (x, M') ∧ pF (M 59) N x ∧ fA M M' ∧ ∀ z, pRun (M 59) N = some z → cJ M' z.1 z.2.1 z.2.2.1 z.2.2.2) (zfu_gt (by omega)) (fun i hi v hv => ?_) (fun v hv => ?_) (s := (0, 0, M2)) ⟨_, rfl, rfl, rfl, e2, ⟨e4, e3, fun t ht => (e5 t ht).1, fun t ht => (e5 t ht).2.1, fun t ht => (e5 t ht).2.2⟩⟩
      · obtain ⟨v1, v2, M6⟩ := v
        obtain ⟨z, f1, f2, f3, f4, f5⟩ := hv
        dsimp only at f2 f3 f4 f5
        subst f2 f3
        have hI := pI_run f1
        have g59 : M6 59 = M 59 := f4.1 59 (by decide) (by omega)
        have g58 : M6 58 0 = nI N := f4.2.trans h0
        obtain ⟨M10, t1, t2, t3⟩ := c_take hI f5 (hs i hi)
        have hr := pRun_s f1
        cases hp : pNx z.1 z.2.1 z.2.2.1 (M 59 i) with
        | none =>
          have hno : pRun (M 59) (i + 1) = none := by rw [hr]; unfold pGo; rw [hp]
          rw [hp] at t1
          refine Or.inr ⟨some (nI i, M10), ⟨_, _, rfl, Or.inl ⟨i, hi, ⟨z, f1⟩, hno, rfl⟩, f4.tr t2, fun z hz => ?_⟩, fun rc => ?_⟩
          · rw [pRun_dn hno N (by omega)] at hz
            cases hz
          · unfold qA_read_L49
            simp (disch := omega) only [g58, zn_lt, if_pos hi, zn_cl, zq_in, g59]
            rw [zb2_ok t1, if_pos (show pO none 9 = 9 from rfl)]
        | some p =>
          have hp8 := pNx_le hI hp
          rw [hp] at t1
          refine Or.inl ⟨(nI p.1, nI (i + 1), M10), ⟨(p.1, p.2.1, p.2.2, pDt p.1 p.2.2 (M 59 i) z.2.2.2), by rw [hr]; unfold pGo; rw [hp], rfl, rfl, f4.tr t2, t3 p hp⟩, fun rc => ?_⟩
          unfold qA_read_L49
          simp (disch := omega) only [g58, zn_lt, if_pos hi, zn_cl, zq_in, g59, nI_1]
          rw [zb2_ok t1, if_neg (show ¬ pO (some p) 9 = 9 from fun h => absurd ((nI_eq (b := 9) (by omega) (by omega)).mp h) (by omega))]
          rfl
      · obtain ⟨v1, v2, M6⟩ := v
        obtain ⟨z, f1, f2, f3, f4, f5⟩ := hv
        dsimp only at f2 f3 f4 f5
        subst f2 f3
        have hI := pI_run f1
        have h8 := hI.1
        have g58 : M6 58 0 = nI N := f4.2.trans h0
        refine ⟨some (if z.1 = 4 ∨ z.1 = 5 ∨ z.1 = 7 ∨ z.1 = 8 then -6 else nI N, M6), ⟨_, _, rfl, Or.inr ⟨z, f1, rfl⟩, f4, fun z' hz' => ?_⟩, fun rc => ?_⟩
        · rw [f1] at hz'
          cases hz'
          exact f5
        · unfold qA_read_L49
          simp (disch := omega) only [g58, zn_lt, Nat.lt_irrefl, if_false]
          rcases (show z.1 = 0 ∨ z.1 = 1 ∨ z.1 = 2 ∨ z.1 = 3 ∨ z.1 = 4 ∨ z.1 = 5 ∨ z.1 = 6 ∨ z.1 = 7 ∨ z.1 = 8 by omega) with h | h | h | h | h | h | h | h | h
          all_goals
            rw [h]
            rfl
    · unfold qA_read_L12
      simp (disch := omega) only [zn_lt4, Nat.lt_irrefl, if_false]
theorem k_fault (hI : zI M) : ∃ x M1 M2, qS_fault M = some (x, M1) ∧ qM_fault M1 = some (x, M2) ∧ zI M2 := by
  obtain ⟨n, m, k, law, A, hI⟩ := hI
  obtain ⟨⟨N, y1, y2, y3, y4⟩, y5⟩ := hI.p
  obtain ⟨x, M1, g1, g2, g3, -⟩ := c_read y1 y2 y4
  have hI1 : zIn M1 n m k law A := zIn_pad hI (fun c hc => g3.1 c (by omega) (by omega)) (fun j hj => by rw [g3.1 86 (by decide) (by omega)]) ⟨⟨N, y1, g3.2.trans y2, by rw [g3.1 86 (by decide) (by omega)]; exact y3, by rw [g3.1 59 (by decide) (by omega)]; exact y4⟩, by rw [g3.1 59 (by decide) (by omega), g3.1 100 (by decide) (by omega)]; exact y5⟩
  obtain ⟨x', M2, f1, f2, f3, f4⟩ := m_fault (M := M1) y1 (by rw [g3.1 86 (by decide) (by omega)]; exact y3)
  rw [g3.1 100 (by decide) (by omega), y5] at f2
  have e := pF_one g2 f2
  subst e
  refine ⟨x, M1, M2, ?_, f1, (zIn_m hI1 (fun c hc => f3 c (by omega)) (fun j hj => f4 j (by omega))).z⟩
  unfold qS_fault
  rw [zb2_ok g1]
end ZPad3
