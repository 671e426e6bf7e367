section ZPad2
variable {M : zM} {n m k : Nat} {law : Int32} {A : zM} {q s t : Nat} {st w cur : Nat} {D : pDa}
def pO (o : Option (Nat × Nat × Nat)) (b : Int32) : Int32 := match o with
  | none => b
  | some p => nI p.1
/-- the reference reads a sign -/
theorem m_stepOf (hK : M 86 17 = nI w) (hw : w < 16) (hst : st ≤ 8) (cur : Nat) (c : Int32) : ∃ M', qM_stepOf M (nI st) c = some (pO (pNx st w cur c) (-1), M') ∧ (∀ r, r ≠ 86 → M' r = M r) ∧ (∀ j, j ≠ 17 → M' 86 j = M 86 j) ∧ (∀ p, pNx st w cur c = some p → M' 86 17 = nI p.2.1) := by
  have d : qM_in c.toInt64 48 57 = _ := m_in (v := c) (lo := 48) (hi := 57) (L := 48) (H := 57) rfl rfl
  have a : qM_in c.toInt64 97 100 = _ := m_in (v := c) (lo := 97) (hi := 100) (L := 97) (H := 100) rfl rfl
  have b : qM_in c.toInt64 49 51 = _ := m_in (v := c) (lo := 49) (hi := 51) (L := 49) (H := 51) rfl rfl
  have same : ∀ {x : Int32} {o : Option (Nat × Nat × Nat)}, qM_stepOf M (nI st) c = some (x, M) → x = pO o (-1) → pNx st w cur c = o → (∀ p, o = some p → p.2.1 = w) → ∃ M', qM_stepOf M (nI st) c = some (pO (pNx st w cur c) (-1), M') ∧ (∀ r, r ≠ 86 → M' r = M r) ∧ (∀ j, j ≠ 17 → M' 86 j = M 86 j) ∧ (∀ p, pNx st w cur c = some p → M' 86 17 = nI p.2.1) := by
    intro x o h1 h2 h3 h4
    refine ⟨M, by rw [h1, h2, h3], fun _ _ => rfl, fun _ _ => rfl, fun p hp => ?_⟩
    rw [h4 p (h3.symm.trans hp)]
    exact hK
  have mark : st = 4 ∨ st = 5 ∨ st = 7 ∨ st = 8 → ¬ sIn 48 57 c → pNx st w cur c = pMk (decide (st < 6)) w cur c → ∃ M', qM_stepOf M (nI st) c = some (pO (pNx st w cur c) (-1), M') ∧ (∀ r, r ≠ 86 → M' r = M r) ∧ (∀ j, j ≠ 17 → M' 86 j = M 86 j) ∧ (∀ p, pNx st w cur c = some p → M' 86 17 = nI p.2.1) := by
    intro h4 hd hp
    have hk : (if M 86 17 = 15 then some ((-1 : Int32), M) else some (0, M)) = some (if w = 15 then -1 else 0, M) := by
      rw [hK]
      by_cases z : w = 15
      · rw [if_pos (show nI w = 15 by rw [z]; rfl), if_pos z]
      · rw [if_neg (show ¬ nI w = 15 from fun h => z ((nI_eq (b := 15) (by omega) (by omega)).mp h)), if_neg z]
    have hn : ∀ j : Nat, j < 4 ∨ j = 6 → ¬ nI st = nI j := fun j hj h => by
      have := (nI_eq (by omega) (by omega)).mp h
      omega
    have head : ∀ x : Int32, (if c = 126 then (if nI st < 6 then some ((6 : Int32), M) else (if c = 59 then (if M 86 17 = 15 then some (-1, M) else some (0, M)) else some (-1, M))) else (if c = 59 then (if M 86 17 = 15 then some (-1, M) else some (0, M)) else some (-1, M))) = some (x, M) → qM_stepOf M (nI st) c = some (x, M) := fun x hx => by
      unfold qM_stepOf
      rw [zb_ok d, if_neg (show ¬ nI st = 0 from hn 0 (by omega)), if_neg (show ¬ nI st = 1 from hn 1 (by omega)), if_neg (show ¬ nI st = 2 from hn 2 (by omega)), if_neg (show ¬ nI st = 3 from hn 3 (by omega)), if_neg (show ¬ nI st = 6 from hn 6 (by omega)), if_neg hd, if_pos rfl]
      simp only [zlj_u]
      exact hx
    rw [hk] at head
    by_cases c1 : c = 126
    · have n59 : ¬ c = 59 := by rw [c1]; decide
      by_cases c2 : st < 6
      · refine same (x := 6) (o := some (6, w, cur)) (head 6 ?_) rfl (by rw [hp]; unfold pMk; rw [if_pos ⟨decide_eq_true c2, c1⟩]) (fun p h => by cases h; rfl)
        rw [if_pos c1, if_pos (show nI st < 6 from nI_lt (b := 6) c2 (by omega))]
      · refine same (x := -1) (o := none) (head (-1) ?_) rfl (by rw [hp]; unfold pMk; rw [if_neg (fun h => c2 (of_decide_eq_true h.1)), if_neg (fun h => n59 h.1)]) (fun p h => by cases h)
        rw [if_pos c1, if_neg (show ¬ nI st < 6 from nI_nlt (b := 6) (by omega) (by omega)), if_neg n59]
    · by_cases c2 : c = 59
      · by_cases c3 : w = 15
        · refine same (x := -1) (o := none) (head (-1) ?_) rfl (by rw [hp]; unfold pMk; rw [if_neg (fun h => c1 h.2), if_neg (fun h => h.2 c3)]) (fun p h => by cases h)
          rw [if_neg c1, if_pos c2, if_pos c3]
        · refine same (x := 0) (o := some (0, w, cur)) (head 0 ?_) rfl (by rw [hp]; unfold pMk; rw [if_neg (fun h => c1 h.2), if_pos ⟨c2, c3⟩]) (fun p h => by cases h; rfl)
          rw [if_neg c1, if_pos c2, if_neg c3]
      · refine same (x := -1) (o := none) (head (-1) ?_) rfl (by rw [hp]; unfold pMk; rw [if_neg (fun h => c1 h.2), if_neg (fun h => c2 h.1)]) (fun p h => by cases h)
        rw [if_neg c1, if_neg c2]
  rcases (show st = 0 ∨ st = 1 ∨ st = 2 ∨ st = 3 ∨ st = 4 ∨ st = 5 ∨ st = 6 ∨ st = 7 ∨ st = 8 by omega) with rfl | rfl | rfl | rfl | rfl | rfl | rfl | rfl | rfl
  · by_cases c1 : sIn 97 100 c
    · have c1' : ¬ (c < 97 ∨ 100 < c) := fun h => not_in.mpr h c1
      obtain ⟨t, ht, e1, e2, e3⟩ := let_of c1'
      have hb := bw_i w hw t ht
      by_cases c2 : bw_t w t = true
      · refine same (x := -1) (o := none) ?_ rfl (by rw [pNx_0, if_neg c1', e3, if_pos c2]) (fun p h => by cases h)
        unfold qM_stepOf
        rw [zb_ok d, if_pos (show nI 0 = 0 from rfl), zb_ok a, if_pos c1, if_neg z10, hK, e2, if_pos (hb.mpr c2)]
      · have c3 : bw_t w t = false := by
          cases z : bw_t w t with
          | false => rfl
          | true => exact absurd z c2
        obtain ⟨b1, b2, b3⟩ := bw_or w hw t ht c3
        have ep : pNx 0 w cur c = some (1, w + 2 ^ t, t) := by rw [pNx_0, if_neg c1', e3, if_neg c2]
        refine ⟨zw M 86 17 (nI (w + 2 ^ t)), ?_, fun r hr => zw_ne hr, fun j hj => zw_other hj, fun p hp => ?_⟩
        · rw [ep]
          unfold qM_stepOf
          rw [zb_ok d, if_pos (show nI 0 = 0 from rfl), zb_ok a, if_pos c1, if_neg z10, hK, e2, if_neg (fun h => c2 (hb.mp h)), b1]
          rfl
        · rw [ep] at hp
          cases hp
          exact zw_same _ _ _ _
    · refine same (x := -1) (o := none) ?_ rfl (by rw [pNx_0, if_pos (not_in.mp c1)]) (fun p h => by cases h)
      unfold qM_stepOf
      rw [zb_ok d, if_pos (show nI 0 = 0 from rfl), zb_ok a, if_neg c1, if_pos rfl]
  · by_cases c1 : sIn 49 51 c
    · refine same (x := 2) (o := some (2, w, cur)) ?_ rfl (by rw [pNx_1, if_neg (fun h => not_in.mpr h c1)]) (fun p h => by cases h; rfl)
      unfold qM_stepOf
      rw [zb_ok d, if_neg (show ¬ nI 1 = 0 by decide), if_pos (show nI 1 = 1 from rfl), zb_ok b, if_pos c1, if_neg z10]
    · refine same (x := -1) (o := none) ?_ rfl (by rw [pNx_1, if_pos (not_in.mp c1)]) (fun p h => by cases h)
      unfold qM_stepOf
      rw [zb_ok d, if_neg (show ¬ nI 1 = 0 by decide), if_pos (show nI 1 = 1 from rfl), zb_ok b, if_neg c1, if_pos rfl]
  · by_cases c1 : c = 60
    · refine same (x := 3) (o := some (3, w, cur)) ?_ rfl (by rw [pNx_2, if_pos c1]) (fun p h => by cases h; rfl)
      unfold qM_stepOf
      rw [zb_ok d, if_neg (show ¬ nI 2 = 0 by decide), if_neg (show ¬ nI 2 = 1 by decide), if_pos (show nI 2 = 2 from rfl), if_pos c1]
    · refine same (x := -1) (o := none) ?_ rfl (by rw [pNx_2, if_neg c1]) (fun p h => by cases h)
      unfold qM_stepOf
      rw [zb_ok d, if_neg (show ¬ nI 2 = 0 by decide), if_neg (show ¬ nI 2 = 1 by decide), if_pos (show nI 2 = 2 from rfl), if_neg c1]
  · by_cases c1 : sIn 48 57 c
    · refine same (x := 4) (o := some (4, w, cur)) ?_ rfl (by rw [pNx_3, if_neg (fun h => not_in.mpr h c1)]) (fun p h => by cases h; rfl)
      unfold qM_stepOf
      rw [zb_ok d, if_neg (show ¬ nI 3 = 0 by decide), if_neg (show ¬ nI 3 = 1 by decide), if_neg (show ¬ nI 3 = 2 by decide), if_pos (show nI 3 = 3 from rfl), if_pos c1, if_neg z10]
    · refine same (x := -1) (o := none) ?_ rfl (by rw [pNx_3, if_pos (not_in.mp c1)]) (fun p h => by cases h)
      unfold qM_stepOf
      rw [zb_ok d, if_neg (show ¬ nI 3 = 0 by decide), if_neg (show ¬ nI 3 = 1 by decide), if_neg (show ¬ nI 3 = 2 by decide), if_pos (show nI 3 = 3 from rfl), if_neg c1, if_pos rfl]
  · by_cases c1 : sIn 48 57 c
    · refine same (x := 5) (o := some (5, w, cur)) ?_ rfl (by rw [pNx_4, if_neg (fun h => not_in.mpr h c1)]) (fun p h => by cases h; rfl)
      unfold qM_stepOf
      rw [zb_ok d, if_neg (show ¬ nI 4 = 0 by decide), if_neg (show ¬ nI 4 = 1 by decide), if_neg (show ¬ nI 4 = 2 by decide), if_neg (show ¬ nI 4 = 3 by decide), if_neg (show ¬ nI 4 = 6 by decide), if_pos c1, if_neg z10, if_pos (show nI 4 = 4 from rfl)]
      rfl
    · exact mark (by omega) c1 (by rw [pNx_4, if_pos (not_in.mp c1)]; rfl)
  · by_cases c1 : sIn 48 57 c
    · have n1 : ¬ c = 126 := fun h => by rw [h] at c1; exact c1.2 (by decide)
      have n2 : ¬ c = 59 := fun h => by rw [h] at c1; exact c1.2 (by decide)
      refine same (x := -1) (o := none) ?_ rfl (by rw [pNx_5]; unfold pMk; rw [if_neg (fun h => n1 h.2), if_neg (fun h => n2 h.1)]) (fun p h => by cases h)
      unfold qM_stepOf
      rw [zb_ok d, if_neg (show ¬ nI 5 = 0 by decide), if_neg (show ¬ nI 5 = 1 by decide), if_neg (show ¬ nI 5 = 2 by decide), if_neg (show ¬ nI 5 = 3 by decide), if_neg (show ¬ nI 5 = 6 by decide), if_pos c1, if_neg z10, if_neg (show ¬ nI 5 = 4 by decide), if_neg (show ¬ nI 5 = 7 by decide)]
    · exact mark (by omega) c1 rfl
  · by_cases c1 : sIn 48 57 c
    · refine same (x := 7) (o := some (7, w, cur)) ?_ rfl (by rw [pNx_6, if_neg (fun h => not_in.mpr h c1)]) (fun p h => by cases h; rfl)
      unfold qM_stepOf
      rw [zb_ok d, if_neg (show ¬ nI 6 = 0 by decide), if_neg (show ¬ nI 6 = 1 by decide), if_neg (show ¬ nI 6 = 2 by decide), if_neg (show ¬ nI 6 = 3 by decide), if_pos (show nI 6 = 6 from rfl), if_pos c1, if_neg z10]
    · refine same (x := -1) (o := none) ?_ rfl (by rw [pNx_6, if_pos (not_in.mp c1)]) (fun p h => by cases h)
      unfold qM_stepOf
      rw [zb_ok d, if_neg (show ¬ nI 6 = 0 by decide), if_neg (show ¬ nI 6 = 1 by decide), if_neg (show ¬ nI 6 = 2 by decide), if_neg (show ¬ nI 6 = 3 by decide), if_pos (show nI 6 = 6 from rfl), if_neg c1, if_pos rfl]
  · by_cases c1 : sIn 48 57 c
    · refine same (x := 8) (o := some (8, w, cur)) ?_ rfl (by rw [pNx_7, if_neg (fun h => not_in.mpr h c1)]) (fun p h => by cases h; rfl)
      unfold qM_stepOf
      rw [zb_ok d, if_neg (show ¬ nI 7 = 0 by decide), if_neg (show ¬ nI 7 = 1 by decide), if_neg (show ¬ nI 7 = 2 by decide), if_neg (show ¬ nI 7 = 3 by decide), if_neg (show ¬ nI 7 = 6 by decide), if_pos c1, if_neg z10, if_neg (show ¬ nI 7 = 4 by decide), if_pos (show nI 7 = 7 from rfl)]
      rfl
    · exact mark (by omega) c1 (by rw [pNx_7, if_pos (not_in.mp c1)]; rfl)
  · by_cases c1 : sIn 48 57 c
    · have n1 : ¬ c = 126 := fun h => by rw [h] at c1; exact c1.2 (by decide)
      have n2 : ¬ c = 59 := fun h => by rw [h] at c1; exact c1.2 (by decide)
      refine same (x := -1) (o := none) ?_ rfl (by rw [pNx_8]; unfold pMk; rw [if_neg (fun h => n1 h.2), if_neg (fun h => n2 h.1)]) (fun p h => by cases h)
      unfold qM_stepOf
      rw [zb_ok d, if_neg (show ¬ nI 8 = 0 by decide), if_neg (show ¬ nI 8 = 1 by decide), if_neg (show ¬ nI 8 = 2 by decide), if_neg (show ¬ nI 8 = 3 by decide), if_neg (show ¬ nI 8 = 6 by decide), if_pos c1, if_neg z10, if_neg (show ¬ nI 8 = 4 by decide), if_neg (show ¬ nI 8 = 7 by decide)]
    · exact mark (by omega) c1 rfl
theorem pNx_le {c : Int32} {p : Nat × Nat × Nat} (h : pI st w cur D) (hp : pNx st w cur c = some p) : p.1 ≤ 8 := (pI_go h hp).1
/-- the reference's fault -/
theorem m_fault {N : Nat} (hN : N ≤ 40) (h16 : M 86 16 = nI N) : ∃ x M', qM_fault M = some (x, M') ∧ pF (M 100) N x ∧ (∀ r, r ≠ 86 → M' r = M r) ∧ (∀ j, j ≠ 17 → M' 86 j = M 86 j) := by
  unfold qM_fault
  refine zlp_ex (b := qM_fault_L9) (I := fun i v => ∃ z, pRun (M 100) i = some z ∧ v.1 = nI z.1 ∧ v.2.1 = nI i ∧ v.2.2 86 17 = nI z.2.1 ∧ (∀ r, r ≠ 86 → v.2.2 r = M r) ∧ (∀ j, j ≠ 17 → v.2.2 86 j = M 86 j)) N (E := fun o => ∃ x M', o = some (x, M') ∧ pF (M 100) N x ∧ (∀ r, r ≠ 86 → M' r = M r) ∧ (∀ j, j ≠ 17 → M' 86 j = M 86 j)) (zfu_gt (by omega)) (fun i hi v hv => ?_) (fun v hv => ?_) (s := (0, 0, zw M 86 17 0)) ⟨_, rfl, rfl, rfl, (zw_same M 86 17 0 : zw M 86 17 0 86 17 = 0), fun r hr => (zw_ne hr : zw M 86 17 0 r = M r), fun j hj => (zw_other hj : zw M 86 17 0 86 j = M 86 j)⟩
  · obtain ⟨v1, v2, M3⟩ := v
    obtain ⟨z, e1, e2, e3, e4, e5, e6⟩ := hv
    dsimp only at e2 e3 e4 e5 e6
    subst e2 e3
    have hI := pI_run e1
    obtain ⟨M6, g1, g2, g3, g4⟩ := m_stepOf e4 hI.2.1 hI.1 z.2.2.1 (M 100 i)
    have hs := pRun_s e1
    have c16 : M3 86 16 = nI N := by rw [e6 16 (by decide)]; exact h16
    have c100 : M3 100 = M 100 := e5 100 (by decide)
    cases hp : pNx z.1 z.2.1 z.2.2.1 (M 100 i) with
    | none =>
      rw [hp] at g1
      refine Or.inr ⟨some (nI i, M6), ⟨_, _, rfl, Or.inl ⟨i, hi, ⟨z, e1⟩, by rw [hs]; unfold pGo; rw [hp], rfl⟩, fun r hr => (g2 r hr).trans (e5 r hr), fun j hj => (g3 j hj).trans (e6 j hj)⟩, fun rc => ?_⟩
      unfold qM_fault_L9
      simp (disch := omega) only [c16, zn_lt, if_pos hi, zn_cl, zq_in, c100]
      rw [zb2_ok g1, if_pos (show pO none (-1) < 0 by decide)]
    | some p =>
      rw [hp] at g1
      have hp8 := pNx_le hI hp
      refine Or.inl ⟨(nI p.1, nI (i + 1), M6), ⟨(p.1, p.2.1, p.2.2, pDt p.1 p.2.2 (M 100 i) z.2.2.2), by rw [hs]; unfold pGo; rw [hp], rfl, rfl, g4 p hp, fun r hr => (g2 r hr).trans (e5 r hr), fun j hj => (g3 j hj).trans (e6 j hj)⟩, fun rc => ?_⟩
      unfold qM_fault_L9
      simp (disch := omega) only [c16, zn_lt, if_pos hi, zn_cl, zq_in, c100, nI_1]
      rw [zb2_ok g1, if_neg (show ¬ pO (some p) (-1) < 0 from nI_nn p.1 (by omega))]
      rfl
  · obtain ⟨v1, v2, M3⟩ := v
    obtain ⟨z, e1, e2, e3, e4, e5, e6⟩ := hv
    dsimp only at e2 e3 e4 e5 e6
    subst e2 e3
    have hI := pI_run e1
    have h8 := hI.1
    have c16 : M3 86 16 = nI N := by rw [e6 16 (by decide)]; exact h16
    refine ⟨some (if z.1 = 4 ∨ z.1 = 5 ∨ z.1 = 7 ∨ z.1 = 8 then -6 else nI N, M3), ⟨_, _, rfl, Or.inr ⟨z, e1, rfl⟩, e5, e6⟩, fun rc => ?_⟩
    unfold qM_fault_L9
    simp (disch := omega) only [c16, zn_lt, Nat.lt_irrefl, if_false]
    rcases (show z.1 = 0 ∨ z.1 = 1 ∨ z.1 = 2 ∨ z.1 = 3 ∨ z.1 = 4 ∨ z.1 = 5 ∨ z.1 = 6 ∨ z.1 = 7 ∨ z.1 = 8 by omega) with h | h | h | h | h | h | h | h | h
    all_goals
      rw [h]
      rfl
end ZPad2
