section ZDuel
variable {M : zM} {n m k : Nat} {law : Int32} {A A' : zM} {q s t a b : Nat}
/-! both rows laid -/
def twF (A : zM) (n a b : Nat) : Nat → Int32 := fun j => if j < n then nI (sDg (sK A) n a j) else if 4 ≤ j ∧ j < 4 + n then nI (sDg (sK A) n b (j - 4)) else A 4 j
def tw (A : zM) (n a b : Nat) : zM := zA A 4 (twF A n a b)
theorem sK_zA (f : Nat → Int32) : sK (zA A 4 f) = sK A := rfl
theorem tw_two (hn : n ≤ 4) (a b : Nat) : sTwo A n a b = tw A n a b := by
  unfold sTwo tw
  rw [zA_zA]
  congr 1
  funext j
  unfold sLay twF
  rw [sK_zA]
  by_cases c : 4 * 1 ≤ j ∧ j < 4 * 1 + n
  · rw [if_pos c, if_neg (by omega), if_pos (by omega)]
  · rw [if_neg c, zA_self]
    by_cases c2 : j < n
    · rw [if_pos c2]
      show (if 4 * 0 ≤ j ∧ j < 4 * 0 + n then nI (sDg (sK A) n a (j - 4 * 0)) else A 4 j) = _
      rw [if_pos (by omega), show j - 4 * 0 = j by omega]
    · rw [if_neg c2, if_neg (by omega), if_neg (by omega)]
theorem tw_l0 (hn : n ≤ 4) (a b c : Nat) : sLay (tw A n a b) n 0 c = twF A n c b := by
  funext j
  unfold sLay tw
  rw [sK_zA, zA_self]
  unfold twF
  by_cases d : j < n
  · rw [if_pos (by omega), if_pos d, show j - 4 * 0 = j by omega]
  · rw [if_neg (by omega), if_neg d, if_neg d]
theorem tw_l1 (hn : n ≤ 4) (a b c : Nat) : sLay (tw A n a b) n 1 c = twF A n a c := by
  funext j
  unfold sLay tw
  rw [sK_zA, zA_self]
  unfold twF
  by_cases d : 4 ≤ j ∧ j < 4 + n
  · rw [if_pos (by omega), if_neg (by omega), if_pos d]
  · rw [if_neg (by omega)]
    by_cases e : j < n
    · rw [if_pos e, if_pos e]
    · rw [if_neg e, if_neg d, if_neg e, if_neg d]
theorem tw_0 (hn : n ≤ 4) (a b c : Nat) : zA (tw A n a b) 4 (sLay (tw A n a b) n 0 c) = tw A n c b := by
  rw [tw_l0 hn]
  unfold tw
  rw [zA_zA]
theorem tw_1 (hn : n ≤ 4) (a b c : Nat) : zA (tw A n a b) 4 (sLay (tw A n a b) n 1 c) = tw A n a c := by
  rw [tw_l1 hn]
  unfold tw
  rw [zA_zA]
theorem tw_wf (w : wF n m k law A) (a b : Nat) : wF n m k law (tw A n a b) := by
  rw [← tw_two w.wf.1]
  exact wF_lay (wF_lay w (by omega) a) (by omega) b
theorem tw_r0 (w : wF n m k law A) (ha : a < sRc (sK A) n) (b : Nat) : sRw (sK (tw A n a b)) (sAt (tw A n a b) 0) n = a := by
  have hK : ∀ t, t < n → 1 ≤ sK A t := fun t ht => (wf_K w.wf ht).2.1
  have h3 : ∀ t, t < n → sK A t ≤ 3 := fun t ht => (wf_K w.wf ht).2.2
  show sRw (sK A) (sAt (tw A n a b) 0) n = a
  rw [sRw_congr (d' := sDg (sK A) n a) (fun t ht => ?_)]
  · exact sRw_Dg hK ha
  · unfold sAt tw
    rw [zA_self]
    unfold twF
    have := sDg_lt (k := sK A) (r := a) ht hK
    have := h3 t ht
    rw [if_pos (by omega), show 4 * 0 + t = t by omega, zn_cl (by omega)]
theorem tw_r1 (w : wF n m k law A) (a : Nat) (hb : b < sRc (sK A) n) : sRw (sK (tw A n a b)) (sAt (tw A n a b) 1) n = b := by
  have hn := w.wf.1
  have hK : ∀ t, t < n → 1 ≤ sK A t := fun t ht => (wf_K w.wf ht).2.1
  have h3 : ∀ t, t < n → sK A t ≤ 3 := fun t ht => (wf_K w.wf ht).2.2
  show sRw (sK A) (sAt (tw A n a b) 1) n = b
  rw [sRw_congr (d' := sDg (sK A) n b) (fun t ht => ?_)]
  · exact sRw_Dg hK hb
  · unfold sAt tw
    rw [zA_self]
    unfold twF
    have := sDg_lt (k := sK A) (r := b) ht hK
    have := h3 t ht
    rw [if_neg (by omega), if_pos (by omega), show 4 * 1 + t - 4 = t by omega, zn_cl (by omega)]
theorem tw_id (w : wF n m k law A) : tw A n (sRo A n 0) (sRo A n 1) = A := by
  have hn := w.wf.1
  unfold tw
  apply zA_id
  funext j
  unfold twF
  by_cases c : j < n
  · rw [if_pos c, show sRo A n 0 = sRw (sK A) (sAt A 0) n from rfl, sDg_Rw (fun t ht => (wf_A w.wf (by omega) ht).2) j c]
    have := (wf_A w.wf (s := 0) (by omega) c).1
    rw [← this]
    congr 1
    omega
  · rw [if_neg c]
    by_cases d : 4 ≤ j ∧ j < 4 + n
    · rw [if_pos d, show sRo A n 1 = sRw (sK A) (sAt A 1) n from rfl, sDg_Rw (fun t ht => (wf_A w.wf (by omega) ht).2) (j - 4) (by omega)]
      have := (wf_A w.wf (s := 1) (t := j - 4) (by omega) (by omega)).1
      rw [← this]
      congr 1
      omega
    · rw [if_neg d]
theorem az_tw (h : az A) (hn : n ≤ 4) (a b : Nat) : az (tw A n a b) := by
  rw [← tw_two hn]
  exact az_lay (az_lay h hn (by omega) a) hn (by omega) b
/-- LEFT of a shop by both rows, its own first -/
noncomputable def LB (A : zM) (n m s own oth : Nat) : Int32 := if s = 0 then sLf (tw A n own oth) n m 0 else sLf (tw A n oth own) n m 1
theorem ok_dep (w : wF n m k law A) {law' : Int32} (h01 : law' = 0 ∨ law' = 1) (f : Nat → Int32) (hW : sWF n m (zA A 4 f)) (r : Nat) : sO law' (zA A 4 f) n s r ↔ sO law' A n s r := by
  rcases h01 with rfl | rfl
  · exact ⟨fun _ => Or.inl rfl, fun _ => Or.inl rfl⟩
  · rw [sO_1 w.wf.1 hW, sO_1 w.wf.1 w.wf]
    exact Iff.rfl
/-- the best of a shop against the other one's row -/
noncomputable def gBs (law : Int32) (A : zM) (n m s oth : Nat) : Option (Nat × Int32) := sBs (sO law A n s) (fun own => LB A n m s own oth) (sRc (sK A) n)
theorem sBs_cg {ok ok' : Nat → Prop} {L L' : Nat → Int32} (h1 : ∀ r, ok r ↔ ok' r) (h2 : ∀ r, L r = L' r) (r : Nat) : sBs ok L r = sBs ok' L' r := by
  have e1 : ok = ok' := funext fun r => propext (h1 r)
  have e2 : L = L' := funext h2
  rw [e1, e2]
theorem best_tw (w : wF n m k law A) {law' : Int32} (h01 : law' = 0 ∨ law' = 1) (hs : s < 2) (a b : Nat) : sBest law' (tw A n a b) n m s = gBs law' A n m s (if s = 0 then b else a) := by
  have hn := w.wf.1
  have w2 := tw_wf w a b
  unfold sBest gBs
  show sBs (sO law' (tw A n a b) n s) (sL (tw A n a b) n m s) (sRc (sK A) n) = _
  refine sBs_cg (fun r => ok_dep w h01 _ w2.wf r) (fun r => ?_) _
  rcases (show s = 0 ∨ s = 1 by omega) with rfl | rfl
  · unfold sL LB
    rw [if_pos rfl, if_pos rfl, tw_0 hn]
  · unfold sL LB
    rw [if_neg (by omega), if_neg (by omega), tw_1 hn]
theorem sBs_max {ok : Nat → Prop} {L : Nat → Int32} : ∀ {R c : Nat} {x : Int32}, sBs ok L R = some (c, x) → ∀ r, r < R → ok r → ¬ x < L r
  | 0, _, _, h => by cases h
  | R + 1, c, x, h => by
    intro r hr ho
    have stp : sBs ok L (R + 1) = match sBs ok L R with
      | none => @ite _ (ok R) (Classical.propDecidable _) (some (R, L R)) none
      | some (b, x) => @ite _ (ok R ∧ x < L R) (Classical.propDecidable _) (some (R, L R)) (some (b, x)) := rfl
    rw [stp] at h
    cases hb : sBs ok L R with
    | none =>
      rw [hb] at h
      dsimp only at h
      have hno := sBs_none.mp hb
      by_cases z : r = R
      · subst z
        rw [if_pos ho] at h
        cases h
        exact Int32.lt_irrefl
      · exact absurd ho (hno r (by omega))
    | some p =>
      obtain ⟨b', x'⟩ := p
      rw [hb] at h
      dsimp only at h
      have ih := sBs_max hb
      by_cases z : ok R ∧ x' < L R
      · rw [if_pos z] at h
        cases h
        by_cases y : r = R
        · subst y; exact Int32.lt_irrefl
        · exact fun q => ih r (by omega) ho (Int32.lt_trans z.2 q)
      · rw [if_neg z] at h
        cases h
        by_cases y : r = R
        · subst y; exact fun q => z ⟨ho, q⟩
        · exact ih r (by omega) ho
theorem gBs_some (w : wF n m k law A) {law' : Int32} (h01 : law' = 0 ∨ law' = 1) (h : ¬ sBest law' A n m s = none) (oth : Nat) : ∃ c, gBs law' A n m s oth = some (c, LB A n m s c oth) ∧ c < sRc (sK A) n ∧ sO law' A n s c := by
  cases hb : gBs law' A n m s oth with
  | none =>
    exfalso
    apply h
    unfold sBest
    rw [sBs_none]
    exact sBs_none.mp hb
  | some p =>
    obtain ⟨c, x⟩ := p
    obtain ⟨h1, h2, h3⟩ := sBs_lt hb
    exact ⟨c, by rw [h3], h1, h2⟩
/-! the class's tables -/
def dF (M M' : zM) : Prop := ∀ c, c ≠ 68 → c ≠ 73 → c ≠ 74 → c ≠ 75 → M' c = M c
theorem dF.rf (M : zM) : dF M M := fun _ _ _ _ _ => rfl
theorem dF.tr {M1 M2 M3 : zM} (h1 : dF M1 M2) (h2 : dF M2 M3) : dF M1 M3 := fun c a b d e => (h2 c a b d e).trans (h1 c a b d e)
theorem c_tw (hM : cT M n m (tw A n a b)) (hL : lT M n m A) (w : wF n m k law A) (c : Nat) (hc : c < 2147483648) : (∃ M', qG_putRow M 0 (nI c) = some M' ∧ cT M' n m (tw A n c b) ∧ lT M' n m A ∧ ∀ r, r ≠ 68 → M' r = M r) ∧ (∃ M', qG_putRow M 1 (nI c) = some M' ∧ cT M' n m (tw A n a c) ∧ lT M' n m A ∧ ∀ r, r ≠ 68 → M' r = M r) := by
  have hn := w.wf.1
  have w2 := tw_wf w a b
  constructor
  · obtain ⟨M', g1, g2, g3⟩ := c_putRow (s := 0) hM w2.wf (by omega) c hc
    refine ⟨M', g1, ?_, lT_of (g2 71 (by decide)) (g2 72 (by decide)) hL, g2⟩
    have := cT_lay g2 g3 hM
    rw [tw_0 hn] at this
    exact this
  · obtain ⟨M', g1, g2, g3⟩ := c_putRow (s := 1) hM w2.wf (by omega) c hc
    refine ⟨M', g1, ?_, lT_of (g2 71 (by decide)) (g2 72 (by decide)) hL, g2⟩
    have := cT_lay g2 g3 hM
    rw [tw_1 hn] at this
    exact this
theorem lT_tw (hL : lT M n m A) (a b : Nat) : lT M n m (tw A n a b) := lT_lay (M := M) (f := twF A n a b) (fun _ _ => rfl) hL
theorem c_tally (hM : cT M n m A) (hL : lT M n m A) (hW : sWF n m A) : ∃ M', qW_tally M = some M' ∧ M' 75 0 = sLf A n m 0 ∧ M' 75 1 = sLf A n m 1 ∧ ∀ c, c ≠ 73 → c ≠ 74 → c ≠ 75 → M' c = M c := by
  have hm := hW.2.1
  have hfill : qJ_fill_75 M 0 = some (zw (zw M 75 0 0) 75 1 0) := by
    unfold qJ_fill_75
    refine zlp_2 (s1 := (1, zw M 75 0 0)) (s2 := (2, zw (zw M 75 0 0) 75 1 0)) (fun rc => ?_) (fun rc => ?_) (fun rc => ?_)
    · unfold qJ_fill_75_L5
      dsimp only
      rw [if_pos (show (0 : Int32) < Int32.ofNat 2 by decide), show (0 : Int32) = nI 0 from rfl, zq_in (by omega) (by omega), zn_cl (by omega)]
      rfl
    · unfold qJ_fill_75_L5
      dsimp only
      rw [if_pos (show (1 : Int32) < Int32.ofNat 2 by decide), show (1 : Int32) = nI 1 from rfl, zq_in (by omega) (by omega), zn_cl (by omega)]
      rfl
    · unfold qJ_fill_75_L5
      dsimp only
      rw [if_neg (show ¬ (2 : Int32) < Int32.ofNat 2 by decide)]
  unfold qW_tally
  rw [zb_ok hfill]
  refine zlp_inv (b := qW_tally_L10) (I := fun i v => v.1 = nI i ∧ v.2 75 0 = sSum (fun q => sBr A n q 0) i ∧ v.2 75 1 = sSum (fun q => sBr A n q 1) i ∧ ∀ c, c ≠ 73 → c ≠ 74 → c ≠ 75 → v.2 c = M c) m (E := fun o => ∃ M', o = some M' ∧ M' 75 0 = sLf A n m 0 ∧ M' 75 1 = sLf A n m 1 ∧ ∀ c, c ≠ 73 → c ≠ 74 → c ≠ 75 → M' c = M c) (zfu_gt (by omega)) (fun i hi v hv => ?_) (fun v hv => ?_) (s := (0, zw (zw M 75 0 0) 75 1 0)) ⟨rfl, (by show zw (zw M 75 0 0) 75 1 0 75 0 = 0; rw [zw_other (by decide), zw_same]), (by show zw (zw M 75 0 0) 75 1 0 75 1 = 0; rw [zw_same]), fun c _ _ d => by show zw (zw M 75 0 0) 75 1 0 c = _; rw [zw_ne d, zw_ne d]⟩
  · obtain ⟨v1, M3⟩ := v
    obtain ⟨e1, e2, e3, e4⟩ := hv
    dsimp only at e1 e2 e3 e4
    subst e1
    have hM3 : cT M3 n m A := cT_of (fun c hc => e4 c (by omega) (by omega) (by omega)) hM
    have hL3 : lT M3 n m A := lT_of (e4 71 (by decide) (by decide) (by decide)) (e4 72 (by decide) (by decide) (by decide)) hL
    obtain ⟨M6, g1, g2, g3⟩ := c_send hM3 hL3 hW hi
    have hM6 := cT_wk g2 hM3
    have f0 : M6 75 0 = sSum (fun q => sBr A n q 0) i := by rw [g2 75 (by decide) (by decide)]; exact e2
    have f1 : M6 75 1 = sSum (fun q => sBr A n q 1) i := by rw [g2 75 (by decide) (by decide)]; exact e3
    have fr : ∀ c, c ≠ 73 → c ≠ 74 → c ≠ 75 → M6 c = M c := fun c a b d => (g2 c a b).trans (e4 c a b d)
    by_cases z : sGo A n i = 0
    · have v0 : sBr A n i 0 = 0 := sBr_0 (by rw [z]; unfold sVs; decide)
      have v1' : sBr A n i 1 = 0 := sBr_0 (by rw [z]; unfold sVs; decide)
      refine ⟨(nI (i + 1), M6), ⟨rfl, ?_, ?_, fr⟩, fun rc => ?_⟩
      · show M6 75 0 = sSum (fun q => sBr A n q 0) i + sBr A n i 0
        rw [v0, Int32.add_zero]; exact f0
      · show M6 75 1 = sSum (fun q => sBr A n q 1) i + sBr A n i 1
        rw [v1', Int32.add_zero]; exact f1
      · unfold qW_tally_L10
        simp (disch := omega) only [hM3.2.1, zn_lt, if_pos hi, nI_1]
        rw [zb2_ok g1, if_pos z]
    · have b0 : qW_brought M6 (nI i) 0 = some (sBr A n i 0) := c_brought (s := 0) hM6 hW g3 hi (by omega)
      have hM7 : cT (zw M6 75 0 (sSum (fun q => sBr A n q 0) i + sBr A n i 0)) n m A := cT_of (fun c hc => zw_ne (by omega)) hM6
      have b1 : qW_brought (zw M6 75 0 (sSum (fun q => sBr A n q 0) i + sBr A n i 0)) (nI i) 1 = some (sBr A n i 1) := c_brought (s := 1) hM7 hW (fun s t hs ht => by rw [zw_ne (by decide)]; exact g3 s t hs ht) hi (by omega)
      refine ⟨(nI (i + 1), zw (zw M6 75 0 (sSum (fun q => sBr A n q 0) i + sBr A n i 0)) 75 1 (sSum (fun q => sBr A n q 1) i + sBr A n i 1)), ⟨rfl, ?_, ?_, fun c a b d => ?_⟩, fun rc => ?_⟩
      · dsimp only
        rw [zw_other (by decide), zw_same]
        rfl
      · dsimp only
        rw [zw_same]
        rfl
      · dsimp only
        rw [zw_ne d, zw_ne d]; exact fr c a b d
      · unfold qW_tally_L10
        simp (disch := omega) only [hM3.2.1, zn_lt, if_pos hi, nI_1, zn_cl0, zn_cl1]
        rw [zb2_ok g1, if_neg z, zb_ok b0, f0, zb_ok b1, zw_other (show 1 ≠ 0 by decide), f1]
  · obtain ⟨v1, M3⟩ := v
    obtain ⟨e1, e2, e3, e4⟩ := hv
    dsimp only at e1 e2 e3 e4
    subst e1
    have h10 : M3 10 0 = nI m := by rw [e4 10 (by decide) (by decide) (by decide)]; exact hM.2.1
    refine ⟨_, ⟨M3, rfl, e2, e3, e4⟩, fun rc => ?_⟩
    unfold qW_tally_L10
    simp (disch := omega) only [h10, zn_lt, Nat.lt_irrefl, if_false]
theorem zc_m81 (a : Nat) : nI a * 81 = nI (81 * a) := by rw [show nI a * 81 = nI (a * 81) from pk_mul a 81, Nat.mul_comm]
theorem c_fill (hM : cT M n m (tw A n a b)) (hL : lT M n m A) (w : wF n m k law A) (hR : M 78 5 = nI (sRc (sK A) n)) : ∃ M', qD_fillTables M = some M' ∧ (∀ c, c ≠ 68 → c ≠ 73 → c ≠ 74 → c ≠ 75 → c ≠ 80 → c ≠ 81 → M' c = M c) ∧ lT M' n m A ∧ (∃ a b, cT M' n m (tw A n a b)) ∧ dT M' n m A := by
  have hn := w.wf.1
  have hr := wf_rows w.wf
  obtain ⟨R, hRe⟩ : ∃ R, R = sRc (sK A) n := ⟨_, rfl⟩
  rw [← hRe] at hR hr
  unfold qD_fillTables
  refine zlp_inv (b := qD_fillTables_L2) (I := fun i v => v.1 = nI i ∧ (∀ c, c ≠ 68 → c ≠ 73 → c ≠ 74 → c ≠ 75 → c ≠ 80 → c ≠ 81 → v.2 c = M c) ∧ lT v.2 n m A ∧ (∃ a b, cT v.2 n m (tw A n a b)) ∧ ∀ x y, x < i → y < R → v.2 80 (81 * x + y) = sLf (tw A n x y) n m 0 ∧ v.2 81 (81 * x + y) = sLf (tw A n x y) n m 1) R (E := fun o => ∃ M', o = some M' ∧ (∀ c, c ≠ 68 → c ≠ 73 → c ≠ 74 → c ≠ 75 → c ≠ 80 → c ≠ 81 → M' c = M c) ∧ lT M' n m A ∧ (∃ a b, cT M' n m (tw A n a b)) ∧ dT M' n m A) (zfu_gt (by omega)) (fun i hi v hv => ?_) (fun v hv => ?_) (s := (0, M)) ⟨rfl, fun _ _ _ _ _ _ _ => rfl, hL, ⟨a, b, hM⟩, fun x y h => by omega⟩
  · obtain ⟨v1, M2⟩ := v
    obtain ⟨e1, e2, e3, ⟨a1, b1, e4⟩, e5⟩ := hv
    dsimp only at e1 e2 e3 e4 e5
    subst e1
    obtain ⟨⟨M4, p1, p2, p3, p4⟩, -⟩ := c_tw e4 e3 w i (by omega)
    have inner := zlp_fam (b := fun rc => qD_fillTables_L21 (nI i) rc) (I := fun j v => v.1 = nI j ∧ (∀ c, c ≠ 68 → c ≠ 73 → c ≠ 74 → c ≠ 75 → c ≠ 80 → c ≠ 81 → v.2 c = M c) ∧ lT v.2 n m A ∧ (∃ b, cT v.2 n m (tw A n i b)) ∧ (∀ x y, x < i → y < R → v.2 80 (81 * x + y) = sLf (tw A n x y) n m 0 ∧ v.2 81 (81 * x + y) = sLf (tw A n x y) n m 1) ∧ (∀ y, y < j → v.2 80 (81 * i + y) = sLf (tw A n i y) n m 0 ∧ v.2 81 (81 * i + y) = sLf (tw A n i y) n m 1)) R (F := zfu) (zfu_gt (by omega)) (e := fun rc M3 => rc (nI (i + 1), M3)) (P := fun M3 => (∀ c, c ≠ 68 → c ≠ 73 → c ≠ 74 → c ≠ 75 → c ≠ 80 → c ≠ 81 → M3 c = M c) ∧ lT M3 n m A ∧ (∃ a b, cT M3 n m (tw A n a b)) ∧ ∀ x y, x < i + 1 → y < R → M3 80 (81 * x + y) = sLf (tw A n x y) n m 0 ∧ M3 81 (81 * x + y) = sLf (tw A n x y) n m 1) (fun j hj v hv => ?_) (fun v hv => ?_) (s := (0, M4)) ⟨rfl, fun c h1 h2 h3 h4 h5 h6 => (p4 c h1).trans (e2 c h1 h2 h3 h4 h5 h6), p3, ⟨b1, p2⟩, (fun x y hx hy => by show M4 80 _ = _ ∧ M4 81 _ = _; rw [p4 80 (by decide), p4 81 (by decide)]; exact e5 x y hx hy), fun y h => by omega⟩
    · obtain ⟨M3, ⟨f1, f2, f3, f4⟩, f5⟩ := inner
      refine ⟨(nI (i + 1), M3), ⟨rfl, f1, f2, f3, f4⟩, fun rc => ?_⟩
      have h78 : M2 78 5 = nI R := by rw [e2 78 (by decide) (by decide) (by decide) (by decide) (by decide) (by decide)]; exact hR
      unfold qD_fillTables_L2
      simp (disch := omega) only [h78, zn_lt, if_pos hi]
      rw [zb_ok p1]
      exact f5 rc
    · obtain ⟨v2, M6⟩ := v
      obtain ⟨d1, d2, d3, ⟨b2, d4⟩, d5, d6⟩ := hv
      dsimp only at d1 d2 d3 d4 d5 d6
      subst d1
      obtain ⟨-, M8, q1, q2, q3, q4⟩ := c_tw d4 d3 w j (by omega)
      have w8 := tw_wf w i j
      obtain ⟨M9, t1, t2, t3, t4⟩ := c_tally q2 (lT_tw q3 i j) w8.wf
      have f9 : ∀ c, c ≠ 68 → c ≠ 73 → c ≠ 74 → c ≠ 75 → M9 c = M6 c := fun c h1 h2 h3 h4 => (t4 c h2 h3 h4).trans (q4 c h1)
      have hx : 81 * i + j < 6561 := by omega
      refine ⟨(nI (j + 1), zw (zw M9 80 (81 * i + j) (sLf (tw A n i j) n m 0)) 81 (81 * i + j) (sLf (tw A n i j) n m 1)), ⟨rfl, fun c h1 h2 h3 h4 h5 h6 => ?_, ?_, ⟨j, ?_⟩, fun x y h1 h2 => ?_, fun y hy => ?_⟩, fun g rc => ?_⟩
      · dsimp only
        rw [zw_ne h6, zw_ne h5, f9 c h1 h2 h3 h4]; exact d2 c h1 h2 h3 h4 h5 h6
      · show lT (zw (zw M9 80 (81 * i + j) (sLf (tw A n i j) n m 0)) 81 (81 * i + j) (sLf (tw A n i j) n m 1)) n m A
        exact lT_of (by rw [zw_ne (by decide), zw_ne (by decide), f9 71 (by decide) (by decide) (by decide) (by decide)]) (by rw [zw_ne (by decide), zw_ne (by decide), f9 72 (by decide) (by decide) (by decide) (by decide)]) d3
      · show cT (zw (zw M9 80 (81 * i + j) (sLf (tw A n i j) n m 0)) 81 (81 * i + j) (sLf (tw A n i j) n m 1)) n m (tw A n i j)
        exact cT_of (fun c hc => by rw [zw_ne (by omega), zw_ne (by omega)]; exact t4 c (by omega) (by omega) (by omega)) q2
      · dsimp only
        rw [zw_ne (by decide), zw_other (by omega), zw_other (by omega), zw_ne (by decide), f9 80 (by decide) (by decide) (by decide) (by decide), f9 81 (by decide) (by decide) (by decide) (by decide)]
        exact d5 x y h1 h2
      · dsimp only
        by_cases z : y = j
        · subst z
          rw [zw_ne (by decide), zw_same, zw_same]
          exact ⟨rfl, rfl⟩
        · rw [zw_ne (by decide), zw_other (by omega), zw_other (by omega), zw_ne (by decide), f9 80 (by decide) (by decide) (by decide) (by decide), f9 81 (by decide) (by decide) (by decide) (by decide)]
          exact d6 y (by omega)
      · have h78 : M6 78 5 = nI R := by rw [d2 78 (by decide) (by decide) (by decide) (by decide) (by decide) (by decide)]; exact hR
        unfold qD_fillTables_L21
        simp (disch := omega) only [h78, zn_lt, if_pos hj, zc_m81, nI_add, nI_1, zn_cl, zq_in, zn_cl0, zn_cl1]
        rw [zb_ok q1, zb_ok t1, t2, t3]
    · obtain ⟨v2, M6⟩ := v
      obtain ⟨d1, d2, d3, ⟨b2, d4⟩, d5, d6⟩ := hv
      dsimp only at d1 d2 d3 d4 d5 d6
      subst d1
      refine ⟨M6, ⟨d2, d3, ⟨i, b2, d4⟩, fun x y hx hy => ?_⟩, fun g rc => ?_⟩
      · by_cases z : x = i
        · subst z; exact d6 y hy
        · exact d5 x y (by omega) hy
      · have h78 : M6 78 5 = nI R := by rw [d2 78 (by decide) (by decide) (by decide) (by decide) (by decide) (by decide)]; exact hR
        unfold qD_fillTables_L21
        simp (disch := omega) only [h78, zn_lt, Nat.lt_irrefl, if_false, nI_1]
  · obtain ⟨v1, M2⟩ := v
    obtain ⟨e1, e2, e3, e4, e5⟩ := hv
    dsimp only at e1 e2 e3 e4 e5
    subst e1
    have h78 : M2 78 5 = nI R := by rw [e2 78 (by decide) (by decide) (by decide) (by decide) (by decide) (by decide)]; exact hR
    refine ⟨_, ⟨M2, rfl, e2, e3, e4, fun x y hx hy => ?_⟩, fun rc => ?_⟩
    · rw [tw_two hn]
      exact e5 x y (by omega) (by omega)
    · unfold qD_fillTables_L2
      simp (disch := omega) only [h78, zn_lt, Nat.lt_irrefl, if_false]
end ZDuel
