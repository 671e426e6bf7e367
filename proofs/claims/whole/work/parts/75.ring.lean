section ZRing
variable {M : zM} {n m k : Nat} {law : Int32} {A A' : zM} {q s t a b : Nat}
/-- the shop would go: by the best row c -/
def tG (law : Int32) (A : zM) (n m s own oth c : Nat) : Prop := ¬ sO law A n s own ∨ LB A n m s own oth < LB A n m s c oth
def oW (s a b : Nat) : Nat := if s = 0 then a else b
def oT (s a b : Nat) : Nat := if s = 0 then b else a
theorem pT_of {M' : zM} (h5 : M' 78 5 = M 78 5) (h6 : M' 78 6 = M 78 6) (h : ∀ c, 80 ≤ c ∧ c ≤ 83 → M' c = M c) (hp : pT M law n m A) : pT M' law n m A := by
  obtain ⟨p1, p2, p3, p4, p5⟩ := hp
  refine ⟨h5.trans p1, h6.trans p2, dT_eq (h 80 (by omega)) (h 81 (by omega)) p3, ?_, ?_⟩
  · rw [h 82 (by omega)]; exact p4
  · rw [h 83 (by omega)]; exact p5
theorem c_turn (hp : pT M law n m A) (w : wF n m k law A) (hs : s < 2) {own oth : Nat} (ho : own < sRc (sK A) n) (ht : oth < sRc (sK A) n) (h1 : M 79 s = nI own) (h2 : M 79 (1 - s) = nI oth) : ∃ c, gBs law A n m s oth = some (c, LB A n m s c oth) ∧ c < sRc (sK A) n ∧ sO law A n s c ∧ (tG law A n m s own oth c → qD_takesTurn M (nI s) = some (1, zw (zw M 79 s (nI c)) 78 0 (M 78 0 + 1))) ∧ (¬ tG law A n m s own oth c → qD_takesTurn M (nI s) = some (0, M)) := by
  have hr := wf_rows w.wf
  obtain ⟨c, c1, c2, c3, c4⟩ := hp.2.2.2.2 s oth hs ht
  have l1 := hp.2.2.2.1 s own hs ho
  obtain ⟨P, x1, -, x3⟩ := c_could hp w hs ho ht
  have hP := x3 c _ c3
  have e1 : (1 : Int32) - nI s = nI (1 - s) := pk_sub (a := 1) (by omega)
  refine ⟨c, c3, c1, c2, fun hg => ?_, fun hg => ?_⟩
  · unfold qD_takesTurn
    rw [e1]
    simp (disch := omega) only [zn_cl, zq_in, h1, h2, zc_m81, nI_add, l1, c4, zlj_u]
    by_cases z : sO law A n s own
    · rw [pB_t z, if_neg z10, zb_ok x1, pB_t (hP.mpr (hg.resolve_left (fun h => h z))), if_neg z10]
    · rw [pB_f z, if_pos rfl]
  · unfold qD_takesTurn
    rw [e1]
    simp (disch := omega) only [zn_cl, zq_in, h1, h2, zc_m81, nI_add, l1, c4, zlj_u]
    have z : sO law A n s own := Classical.byContradiction fun h => hg (Or.inl h)
    rw [pB_t z, if_neg z10, zb_ok x1, pB_f (fun h => hg (Or.inr (hP.mp h))), if_pos rfl]
theorem ro_tw (w : wF n m k law A) (ha : a < sRc (sK A) n) (hb : b < sRc (sK A) n) (hs : s < 2) : sRw (sK (tw A n a b)) (sAt (tw A n a b) s) n = oW s a b := by
  rcases (show s = 0 ∨ s = 1 by omega) with rfl | rfl
  · exact tw_r0 w ha b
  · exact tw_r1 w a hb
theorem lf_tw (hs : s < 2) : sLf (tw A n a b) n m s = LB A n m s (oW s a b) (oT s a b) := by
  rcases (show s = 0 ∨ s = 1 by omega) with rfl | rfl <;> rfl
/-- the rows after a turn -/
def nA0 (s a b c : Nat) (g : Prop) [Decidable g] : Nat := if g then (if s = 0 then c else a) else a
def nB0 (s a b c : Nat) (g : Prop) [Decidable g] : Nat := if g then (if s = 0 then b else c) else b
/-- one turn of the reference -/
theorem m_turn (hM : mT M n m (tw A n a b)) (w : wF n m k law A) (hlaw : M 86 18 = law) (hs : s < 2) (ha : a < sRc (sK A) n) (hb : b < sRc (sK A) n) {c : Nat} (hc : c < sRc (sK A) n) (ho : sO law A n s c) (hg : gBs law A n m s (oT s a b) = some (c, LB A n m s c (oT s a b))) : ∃ M22 M44, qM_bestOf M (nI s) = some (nI c, M22) ∧ qM_rowOf M22 (nI s) = some (nI (oW s a b)) ∧ (zlj (fun (_ : Unit) => some (0 : Int32)) fun k38 => if nI c = nI (oW s a b) then k38 () else (zb (qM_leftOf M22 (nI s)) fun x39 => zlj (fun (_ : Unit) => some 1) fun k41 => if x39 < M22 86 19 then k41 () else (zb (qM_isAllowed M22 (nI s)) fun x42 => if x42 = 0 then k41 () else k38 ()))) = some (pB (tG law A n m s (oW s a b) (oT s a b) c)) ∧ (if pB (tG law A n m s (oW s a b) (oT s a b) c) = 0 then some M22 else (zb (qM_lay M22 (nI s) (nI c)) fun M45 => some (zw M45 86 24 (M45 86 24 + 1)))) = some M44 ∧ mT M44 n m (tw A n (@nA0 s a b c (tG law A n m s (oW s a b) (oT s a b) c) (Classical.propDecidable _)) (@nB0 s a b c (tG law A n m s (oW s a b) (oT s a b) c) (Classical.propDecidable _))) ∧ (∀ r, r ≠ 86 → r ≠ 89 → M44 r = M r) ∧ (∀ j, j ≠ 19 → j ≠ 24 → M44 86 j = M 86 j) ∧ M44 86 24 = @ite _ (tG law A n m s (oW s a b) (oT s a b) c) (Classical.propDecidable _) (M 86 24 + 1) (M 86 24) := by
  have hn := w.wf.1
  have hr := wf_rows w.wf
  have h01 := w.law01
  have w2 := tw_wf w a b
  have hbest : sBest law (tw A n a b) n m s = some (c, LB A n m s c (oT s a b)) := by rw [best_tw w h01 hs]; exact hg
  obtain ⟨M22, g1, g2, g3⟩ := m_bestOf hM w2.wf hs hlaw h01
  rw [hbest] at g1
  have g1' : qM_bestOf M (nI s) = some (nI c, M22) := g1
  have h19 := g3 _ _ hbest
  have hM22 : mT M22 n m (tw A n a b) := mT_eM g2 (by decide) (by decide) hM
  have hrow : qM_rowOf M22 (nI s) = some (nI (oW s a b)) := by rw [m_rowOf hM22 w2.wf hs, ro_tw w ha hb hs]
  have hleft : qM_leftOf M22 (nI s) = some (LB A n m s (oW s a b) (oT s a b)) := by rw [m_leftOf hM22 w2.wf hs, lf_tw hs]
  have hown : oW s a b < sRc (sK A) n := by unfold oW; split <;> assumption
  have hall : qM_isAllowed M22 (nI s) = some (pB (sO law A n s (oW s a b))) := by
    rw [m_isAllowed hM22 w2.wf hs (by rw [g2.2 18 (by decide)]; exact hlaw) h01]
    rcases (show s = 0 ∨ s = 1 by omega) with rfl | rfl
    · rw [(ok_tw w h01 a b).1]; rfl
    · rw [(ok_tw w h01 a b).2]; rfl
  have hflag : (zlj (fun (_ : Unit) => some (0 : Int32)) fun k38 => if nI c = nI (oW s a b) then k38 () else (zb (qM_leftOf M22 (nI s)) fun x39 => zlj (fun (_ : Unit) => some 1) fun k41 => if x39 < M22 86 19 then k41 () else (zb (qM_isAllowed M22 (nI s)) fun x42 => if x42 = 0 then k41 () else k38 ()))) = some (pB (tG law A n m s (oW s a b) (oT s a b) c)) := by
    simp only [zlj_u]
    rw [zb_ok hleft, zb_ok hall, h19]
    by_cases e : c = oW s a b
    · rw [if_pos (show nI c = nI (oW s a b) by rw [e]), pB_f]
      rintro (z | z)
      · rw [← e] at z; exact z ho
      · rw [← e] at z; exact Int32.lt_irrefl z
    · rw [if_neg (show ¬ nI c = nI (oW s a b) from fun h => e ((nI_eq (by omega) (by omega)).mp h))]
      by_cases z : LB A n m s (oW s a b) (oT s a b) < LB A n m s c (oT s a b)
      · rw [if_pos z, pB_t (show tG law A n m s (oW s a b) (oT s a b) c from Or.inr z)]
      · rw [if_neg z]
        by_cases o : sO law A n s (oW s a b)
        · rw [pB_t o, if_neg z10, pB_f (fun h => h.elim (fun h => h o) z)]
        · rw [pB_f o, if_pos rfl, pB_t (show tG law A n m s (oW s a b) (oT s a b) c from Or.inl o)]
  by_cases g : tG law A n m s (oW s a b) (oT s a b) c
  · have hlay : ∃ M45, qM_lay M22 (nI s) (nI c) = some M45 ∧ mT M45 n m (tw A n (if s = 0 then c else a) (if s = 0 then b else c)) ∧ ∀ r, r ≠ 89 → M45 r = M22 r := by
      obtain ⟨y0, y1⟩ := m_tw hM22 w c (by omega)
      rcases (show s = 0 ∨ s = 1 by omega) with rfl | rfl
      · exact y0
      · exact y1
    obtain ⟨M45, l1, l2, l3⟩ := hlay
    refine ⟨M22, zw M45 86 24 (M45 86 24 + 1), g1', hrow, hflag, ?_, ?_, fun r h1 h2 => ?_, fun j h1 h2 => ?_, ?_⟩
    · rw [pB_t g, if_neg z10, zb_ok l1]
    · unfold nA0 nB0
      rw [if_pos g, if_pos g]
      exact mT_eq (zw_other (by decide)) (zw_other (by decide)) (fun c a b => zw_ne (by omega)) l2
    · rw [zw_ne h1, l3 r h2, g2.1 r h1]
    · rw [zw_other h2, l3 86 (by decide), g2.2 j h1]
    · rw [zw_same, if_pos g, l3 86 (by decide), g2.2 24 (by decide)]
  · refine ⟨M22, M22, g1', hrow, hflag, by rw [pB_f g, if_pos rfl], ?_, fun r h1 h2 => g2.1 r h1, fun j h1 h2 => g2.2 j h1, ?_⟩
    · unfold nA0 nB0
      rw [if_neg g, if_neg g]
      exact hM22
    · rw [if_neg g, g2.2 24 (by decide)]
/-- the reference's end -/
theorem m_fin (hM : mT M n m (tw A n a b)) (w : wF n m k law A) (ha : a < sRc (sK A) n) (hb : b < sRc (sK A) n) (rc : (Int32 × Int32 × Int32 × Int32 × zM) → Option (Int32 × zM)) (v4 v5 v6 : Int32) : ∃ M', qM_goRound_L91 (nI (sRo A n 0)) (nI (sRo A n 1)) rc (v4, v5, v6, 0, M) = some (1, M') ∧ M' 86 26 = nI a ∧ M' 86 27 = nI b ∧ (∀ j, j ≠ 26 → j ≠ 27 → M' 86 j = M 86 j) ∧ (∀ c, c ≠ 86 → c ≠ 89 → M' c = M c) ∧ M' 89 = A 4 := by
  have hr := wf_rows w.wf
  have w2 := tw_wf w a b
  have q0 := sRo_lt (s := 0) w.wf (by omega)
  have q1 := sRo_lt (s := 1) w.wf (by omega)
  have r0 : qM_rowOf M 0 = some (nI a) := by
    have := m_rowOf (s := 0) hM w2.wf (by omega)
    rw [tw_r0 w ha b] at this
    exact this
  have hM1 : mT (zw M 86 26 (nI a)) n m (tw A n a b) := mT_eq (zw_other (by decide)) (zw_other (by decide)) (fun c a b => zw_ne (by omega)) hM
  have r1 : qM_rowOf (zw M 86 26 (nI a)) 1 = some (nI b) := by
    have := m_rowOf (s := 1) hM1 w2.wf (by omega)
    rw [tw_r1 w a hb] at this
    exact this
  have hM2 : mT (zw (zw M 86 26 (nI a)) 86 27 (nI b)) n m (tw A n a b) := mT_eq (zw_other (by decide)) (zw_other (by decide)) (fun c a b => zw_ne (by omega)) hM1
  obtain ⟨⟨M19, l1, l2, l3⟩, -⟩ := m_tw hM2 w (sRo A n 0) (by omega)
  obtain ⟨-, M20, l4, l5, l6⟩ := m_tw l2 w (sRo A n 1) (by omega)
  rw [tw_id w] at l5
  refine ⟨M20, ?_, ?_, ?_, fun j h1 h2 => ?_, fun c h1 h2 => ?_, l5.2.2.2.2.2.2.1⟩
  · unfold qM_goRound_L91
    dsimp only
    rw [if_pos rfl, zb_ok r0, zb_ok r1, zb_ok l1, zb_ok l4]
  · rw [l6 86 (by decide), l3 86 (by decide), zw_other (by decide), zw_same]
  · rw [l6 86 (by decide), l3 86 (by decide), zw_same]
  · rw [l6 86 (by decide), l3 86 (by decide), zw_other h2, zw_other h1]
  · rw [l6 c h2, l3 c h2, zw_ne h1, zw_ne h1]
/-! how many are unseen -/
def upN (H : Nat → Nat) (p v : Nat) : Nat → Nat := fun q => if q = p then v else H q
def cn0 (H : Nat → Nat) : Nat → Nat
  | 0 => 0
  | p + 1 => cn0 H p + (if H p = 0 then 1 else 0)
theorem cn0_s (H : Nat → Nat) (p : Nat) : cn0 H (p + 1) = cn0 H p + (if H p = 0 then 1 else 0) := rfl
theorem cn0_pos {H : Nat → Nat} : ∀ {N p : Nat}, p < N → H p = 0 → 1 ≤ cn0 H N
  | 0, p, h, _ => by omega
  | N + 1, p, h, h0 => by
    rw [cn0_s]
    by_cases e : p = N
    · subst e; rw [if_pos h0]; omega
    · have := cn0_pos (N := N) (p := p) (by omega) h0
      omega
theorem cn0_le (H : Nat → Nat) : ∀ N, cn0 H N ≤ N
  | 0 => Nat.le_refl _
  | N + 1 => by
    have := cn0_le H N
    rw [cn0_s]
    split <;> omega
theorem cn0_ge {H : Nat → Nat} {p v : Nat} : ∀ {N : Nat}, N ≤ p → cn0 (upN H p v) N = cn0 H N
  | 0, _ => rfl
  | N + 1, h => by
    rw [cn0_s, cn0_s, cn0_ge (N := N) (by omega)]
    have : upN H p v N = H N := by unfold upN; rw [if_neg (by omega)]
    rw [this]
theorem cn0_up {H : Nat → Nat} {p v : Nat} (hv : v ≠ 0) (h0 : H p = 0) : ∀ {N : Nat}, p < N → cn0 (upN H p v) N + 1 = cn0 H N
  | 0, h => by omega
  | N + 1, h => by
    rw [cn0_s, cn0_s]
    by_cases e : p = N
    · subst e
      have h1 : upN H p v p = v := by unfold upN; rw [if_pos rfl]
      rw [h1, if_neg hv, if_pos h0, cn0_ge (Nat.le_refl _)]
    · have ih := cn0_up hv h0 (N := N) (by omega)
      have : upN H p v N = H N := by unfold upN; rw [if_neg (fun h => e h.symm)]
      rw [this]
      omega
def kP (a b s : Nat) : Nat := 2 * (81 * a + b) + s
def kM (a b s : Nat) : Nat := 6561 * s + 81 * a + b
/-- what the reference's table holds -/
def tH (v : Nat) : Int32 := if v = 0 then -6 else nI (v - 1)
theorem m_atk (a b s : Nat) : qM_at (nI s) (nI a) (nI b) = some (nI (kM a b s)) := by
  unfold qM_at
  rw [show (6561 : Int32) * nI s = nI (6561 * s) from pk_mul 6561 s, show (81 : Int32) * nI a = nI (81 * a) from pk_mul 81 a, nI_add, nI_add]
  rfl
end ZRing
