section ZCalls
variable {p : Program} {l : Launch} {e : Env} {R : Room} {s : State} {m : MethodId} {args : Array Value} {below : List Frame} {meth : Method} {c : Code} {H : Heap} {locs : List Loc} {cells slots : Nat} {Q : State → Prop}
variable {S : zSc} {G : zG} {y : Nat} {ls : Array Slot} {pc pc' len a b k : Nat} {v : Value} {ts : List Nat} {lv lv' : zL} {st st' : List Value} {sh sh' : List zS} {M M' : zM} {ps : List Prop} {ins : Instr}
set_option maxHeartbeats 4000000 in
theorem zbr_ins {P : Prop} {tg : Nat} {t : zC} (hs : zstep S (pc, ins, len, v, a, b, k, [], ts) lv st sh M = some (ps, .inr (.inl (P, tg, t)))) : (∃ cd n, ins = .ifCond cd n) ∨ (∃ cd n, ins = .if_icmp cd n) := by
  unfold zstep at hs
  dsimp only at hs
  split at hs
  all_goals first
    | exact Or.inl ⟨_, _, rfl⟩
    | exact Or.inr ⟨_, _, rfl⟩
    | (cases hs; done)
    | (exfalso; unfold zld at hs; (repeat' split at hs) <;> (cases hs; done))
    | (exfalso; unfold zgf at hs; (repeat' split at hs) <;> (cases hs; done))
    | (exfalso; unfold zpf at hs; (repeat' split at hs) <;> (cases hs; done))
    | (exfalso; (repeat' split at hs) <;> first | (cases hs; done) | (unfold zcall at hs; (repeat' split at hs) <;> (cases hs; done)) | (unfold zcpy at hs; (repeat' split at hs) <;> (cases hs; done)) | (unfold zmath at hs; (repeat' split at hs) <;> (cases hs; done)))
theorem zbr_sh {P : Prop} {tg : Nat} (hs : zstep S (pc, ins, len, v, a, b, k, [], ts) lv st sh M = some (ps, .inr (.inl (P, tg, (pc', lv', st', sh', M'))))) : sh' = sh ∧ True := by
  rcases zbr_ins hs with ⟨cd, n, rfl⟩ | ⟨cd, n, rfl⟩
  · unfold zstep at hs
    dsimp only at hs
    split at hs <;> first | (cases hs; exact ⟨rfl, trivial⟩) | (cases hs; done) | simp_all
  · unfold zstep at hs
    dsimp only at hs
    split at hs <;> first | (cases hs; exact ⟨rfl, trivial⟩) | (cases hs; done) | simp_all
/-- what a call's step says -/
theorem zcall_inv {n : Nat} {as0 rest : List Value} {y' : Nat} {as : List Value} {a0 pc0 : Nat} (h : zcall a0 n as0 rest pc0 lv sh M = some (ps, .inr (.inr (.inl (y', as, (pc', lv', st', sh', M')))))) : y' = a0 ∧ as = as0 ∧ pc' = pc0 ∧ lv' = lv ∧ st' = rest ∧ sh' = sh ∧ M' = M ∧ zcats rest ≤ 8 ∧ zcats as0 ≤ zmx a0 := by
  unfold zcall at h
  split at h
  · rename_i h1 h2
    cases h
    exact ⟨rfl, rfl, rfl, rfl, rfl, rfl, rfl, zble.mp h1, zble.mp h2⟩
  · cases h
theorem zmap_call (G : zG) (st : List Value) (b : Nat) : st.map (ztr G) = (((st.take b).reverse).map (ztr G)).reverse ++ (st.drop b).map (ztr G) := by
  rw [← List.map_reverse, List.reverse_reverse, ← List.map_append, List.take_append_drop]
theorem zpar_ok {x : MethodName} {n : Nat} (h : zpar x n = true) : x.cls ≠ "java/lang/invoke/MethodHandle" ∧ x.cls ≠ "java/lang/invoke/VarHandle" ∧ (parseMethodDescriptor x.desc).map (fun d => d.parameters.length) = some n := by
  unfold zpar at h
  simp only [Bool.and_eq_true, decide_eq_true_eq] at h
  exact ⟨h.1.1, h.1.2, h.2⟩
theorem zroom_ok {a0 : Nat} (h : zroom y a0 = true) (h1 : zfr y ≤ R.frames) (h2 : zlo y ≤ R.locals) : zfr a0 + 1 ≤ R.frames ∧ 8 + (zmx a0 + 11) + zlo a0 ≤ R.locals := by
  unfold zroom at h
  simp only [Bool.and_eq_true, zble] at h
  exact ⟨by omega, by omega⟩
theorem zM_mem {i kd a0 b0 c0 : Nat} (h : zhasM y i kd a0 b0 c0 = true) : ∃ p1 p2 p3 p4 : Nat, (zmo y, i, kd, a0, b0, c0, p1, p2, p3, p4) ∈ zML := by
  obtain ⟨⟨o, i', k', a', b', c', p1, p2, p3, p4⟩, hq, hb⟩ := List.any_eq_true.mp h
  simp only [Bool.and_eq_true, zbeq] at hb
  obtain ⟨⟨⟨⟨⟨h1, h2⟩, h3⟩, h4⟩, h5⟩, h6⟩ := hb
  subst h1; subst h2; subst h3; subst h4; subst h5; subst h6
  exact ⟨p1, p2, p3, p4, hq⟩
def znb (q : Nat × Nat × Nat × Nat × Nat × Nat × Nat × Nat × Nat × Nat) : Bool := match q with
  | (o, i, 2, a, _, 2, _, _, _, _) => decide (Cond.methodLinkNest (zown o) i (zmn a) "SugarBelow" ∈ znest)
  | _ => true
set_option maxRecDepth 100000 in
theorem znb_ok : zML.all znb = true := by decide +kernel
/-- what a callee's frame begins with -/
theorem zpre (F : zFr p R s m args meth c S G y) {as : List Value} (hH : zH G sh M H) (hS : va_S (fun q => G.2.1 ≤ q) s.heap H locs) : ∀ U : State, U.heap = H → s.WarmedH U.vm → va_Pc (as.map (ztr G)) (fun U => zH G sh M U.heap ∧ zK G U ∧ va_X G.1 S.1 S.2 U U.heap ∧ G.1 < G.2.1) (as.map (ztr G)).toArray U := by
  obtain ⟨hx, hb, hml, hown, hts, hK, hX, hbb, hbs, hini, hfr, hlo⟩ := F
  intro U hU hW
  refine ⟨rfl, by rw [hU]; exact hH, hK.warm hW, ?_, hbb⟩
  rw [hU]
  exact (hX.kept (hS.2.1 G.1 (by omega) (by show ¬ _ ≤ _; omega))).moved hW.alike
abbrev zRun (p : Program) (l : Launch) (e : Env) (R : Room) (s : State) (m : MethodId) (args : Array Value) (below : List Frame) (meth : Method) (c : Code) (H : Heap) (locs : List Loc) (cells slots : Nat) (S : zSc) (G : zG) (y pc : Nat) (ls : Array Slot) (lv : zL) (st : List Value) (sh : List zS) (M : zM) (y' : Nat) (as rest : List Value) : Prop :=
  ∀ {Qa : Option Value → List zS → zM → Prop}, zMt l S G y' as sh M Qa → zH G sh M H → va_S (fun q => G.2.1 ≤ q) s.heap H locs → lv_has ls (zmx y) (zlm G lv) → cells + zmc y' ≤ R.cells → slots + zms y' ≤ R.slots →
    va_Run p l e R s m args below meth c H locs cells slots (zmc y') (zms y') (F0 m pc ls (st.map (ztr G))) (rest.map (ztr G)) (fun st oc t => (∃ (r : Option Value) (sh' : List zS) (M' : zM), oc = .returned (r.map (ztr G)) ∧ Qa r sh' M' ∧ zH G sh' M' t.heap) ∧ va_F (fun q => G.2.1 ≤ q) st t) (fun q => G.2.1 ≤ q)
set_option maxHeartbeats 4000000 in
theorem zcall_run {y' : Nat} {as : List Value} (F : zFr p R s m args meth c S G y) (hd : decode (zmb y) pc = .ok (ins, len)) (hlen : zlen ins len = true) (hsp : zspec y (pc, ins, len, v, a, b, k, [], ts) = true) (hs : zstep S (pc, ins, len, v, a, b, k, [], ts) lv st sh M = some (ps, .inr (.inr (.inl (y', as, (pc', lv', st', sh', M')))))) : pc' = pc + 3 ∧ lv' = lv ∧ sh' = sh ∧ M' = M ∧ y' < 212 ∧ zcats as ≤ zmx y' ∧ zRun p l e R s m args below meth c H locs cells slots S G y pc ls lv st sh M y' as st' := by
  have F0 := F
  obtain ⟨hx, hb, hml, hown, hts, hK, hX, hbb, hbs, hini, hfr, hlo⟩ := F
  have hins : (∃ n, ins = .invokevirtual n) ∨ (∃ n, ins = .invokestatic n) ∨ (∃ n, ins = .invokespecial n) := by
    have hs2 := hs
    unfold zstep at hs2
    dsimp only at hs2
    split at hs2
    all_goals first
      | exact Or.inl ⟨_, rfl⟩
      | exact Or.inr (Or.inl ⟨_, rfl⟩)
      | exact Or.inr (Or.inr ⟨_, rfl⟩)
      | (cases hs2; done)
      | (exfalso; unfold zld at hs2; (repeat' split at hs2) <;> (cases hs2; done))
      | (exfalso; unfold zgf at hs2; (repeat' split at hs2) <;> (cases hs2; done))
      | (exfalso; unfold zpf at hs2; (repeat' split at hs2) <;> (cases hs2; done))
      | (exfalso; (repeat' split at hs2) <;> (cases hs2; done))
  rcases hins with ⟨n, rfl⟩ | ⟨n, rfl⟩ | ⟨n, rfl⟩
  · have hlen : len = 3 := zbeq.mp hlen
    subst hlen
    simp only [zspec, Bool.and_eq_true] at hsp
    obtain ⟨hm, hroom⟩ := hsp
    obtain ⟨p1, p2, p3, p4, hm⟩ := zM_of hm
    simp only [zmlb, Bool.and_eq_true, zblt] at hm
    obtain ⟨⟨⟨⟨⟨⟨hlt, w1⟩, w2⟩, w3⟩, w4⟩, hpar⟩, hcl⟩ := hm
    change (match st.drop b with
      | .ref (k0 + 1) :: rest => match zkind sh k0 with
        | some kd => match Nat.beq kd (k + 3) with
          | true => zcall a b (.ref (k0 + 1) :: (st.take b).reverse) rest (pc + 3) lv sh M
          | false => none
        | none => none
      | _ => none) = _ at hs
    split at hs
    · rename_i k0 rest hdrop
      split at hs
      · rename_i kd hkd
        split at hs
        · rename_i hb3
          have hb3 := zbeq.mp hb3
          subst hb3
          obtain ⟨rfl, rfl, rfl, rfl, rfl, rfl, rfl, h8, hmx⟩ := zcall_inv hs
          obtain ⟨N, fs, hsk⟩ : ∃ N fs, sh'[k0]? = some (k + 3, N, fs) := by
            unfold zkind at hkd
            cases hs2 : sh'[k0]? with
            | none => rw [hs2] at hkd; cases hkd
            | some s2 =>
              rw [hs2] at hkd
              obtain ⟨a2, b2, c2⟩ := s2
              cases hkd
              exact ⟨_, _, rfl⟩
          cases hck : zcl[k]? with
          | none => rw [hck] at hcl; cases hcl
          | some r0 =>
            rw [hck] at hcl
            have hcl := of_decide_eq_true hcl
            refine ⟨rfl, rfl, rfl, rfl, hlt, hmx, fun {Qa} hM hH hS hl hc1 hc2 => ?_⟩
            have hrecv := va_recv hK.1 hH.2 hck (zws_get hsk)
            rw [hcl] at hrecv
            have hlenst : b ≤ st.length := by
              rcases Nat.lt_or_ge st.length b with h | h
              · rw [List.drop_eq_nil_of_le (Nat.le_of_lt h)] at hdrop; cases hdrop
              · exact h
            refine va_runV (As := ((st.take b).reverse).map (ztr G)) (b := zad G (k0 + 1)) ⟨hx, hb, hml, hown, hts⟩ hM ⟨callB_of b hts (zGood y' hlt) rfl rfl rfl (hts _ (zg (zat_mem w4) rfl)) (hts _ (zg (zat_mem w1) rfl)) (zpar_ok hpar) (zroom_ok hroom hfr hlo), hts _ (zg (zat_mem w2) rfl), hts _ (zg (zat_mem w3) rfl)⟩ ⟨zMt_blind, hrecv, zpre F0 hH hS⟩ rfl (by simp; omega) hl.1 ?_ (lv_room (by rw [zcats_map]; exact h8)) hd ⟨hc1, hc2⟩
            show st.map (ztr G) = _
            rw [zmap_call G st b, hdrop]
            rfl
        · cases hs
      · cases hs
    · cases hs
  · have hlen : len = 3 := zbeq.mp hlen
    subst hlen
    rcases k with _ | _ | k
    · change (zhasM y n 1 a b 0 && zroom y a) = true at hsp
      simp only [Bool.and_eq_true] at hsp
      obtain ⟨hm, hroom⟩ := hsp
      obtain ⟨p1, p2, p3, p4, hm⟩ := zM_of hm
      simp only [zmlb, Bool.and_eq_true, zblt] at hm
      obtain ⟨⟨⟨⟨hlt, w1⟩, w2⟩, w4⟩, hpar⟩ := hm
      change (match Nat.ble b st.length with
        | true => zcall a b (st.take b).reverse (st.drop b) (pc + 3) lv sh M
        | false => none) = _ at hs
      split at hs
      · rename_i hbl
        have hbl := zble.mp hbl
        obtain ⟨rfl, rfl, rfl, rfl, rfl, rfl, rfl, h8, hmx⟩ := zcall_inv hs
        refine ⟨rfl, rfl, rfl, rfl, hlt, hmx, fun {Qa} hM hH hS hl hc1 hc2 => ?_⟩
        refine va_runS (As := ((st.take b).reverse).map (ztr G)) ⟨hx, hb, hml, hown, hts⟩ hM ⟨callB_of b hts (zGood y' hlt) rfl rfl rfl (hts _ (zg (zat_mem w4) rfl)) (hts _ (zg (zat_mem w1) rfl)) (zpar_ok hpar) (zroom_ok hroom hfr hlo), hts _ (zg (zat_mem w2) rfl)⟩ ⟨zMt_blind, zpre F0 hH hS⟩ rfl (by simp; omega) hl.1 (zmap_call G st b) (lv_room (by rw [zcats_map]; exact h8)) hd ⟨hc1, hc2⟩
      · cases hs
    · exfalso
      change zcpy (st.take 5).reverse (st.drop 5) (pc + 3) lv sh M = _ at hs
      unfold zcpy at hs
      (repeat' split at hs) <;> (cases hs; done)
    · exfalso
      change zmath k st (pc + 3) lv sh M = _ at hs
      unfold zmath at hs
      (repeat' split at hs) <;> (cases hs; done)
  · have hlen : len = 3 := zbeq.mp hlen
    subst hlen
    rcases k with _ | k
    · exfalso
      change (match st with
        | .ref _ :: rest => match Nat.ble (zcats rest) 8 with
          | true => znx (pc + 3) lv rest sh M
          | false => none
        | _ => none) = _ at hs
      (repeat' split at hs) <;> (cases hs; done)
    · change (zhasM y n 2 a b (k + 1) && zroom y a) = true at hsp
      simp only [Bool.and_eq_true] at hsp
      obtain ⟨hm, hroom⟩ := hsp
      obtain ⟨q1, q2, q3, q4, hmem⟩ := zM_mem hm
      have hnb := List.all_eq_true.mp znb_ok _ hmem
      have hm := List.all_eq_true.mp zML_ok _ hmem
      change (match st.drop b with
        | .ref (k0 + 1) :: rest => zcall a b (.ref (k0 + 1) :: (st.take b).reverse) rest (pc + 3) lv sh M
        | _ => none) = _ at hs
      split at hs
      · rename_i k0 rest hdrop
        obtain ⟨rfl, rfl, rfl, rfl, rfl, rfl, rfl, h8, hmx⟩ := zcall_inv hs
        have hlenst : b ≤ st.length := by
          rcases Nat.lt_or_ge st.length b with h | h
          · rw [List.drop_eq_nil_of_le (Nat.le_of_lt h)] at hdrop; cases hdrop
          · exact h
        have hstk : st.map (ztr G) = ((((st.take b).reverse).map (ztr G)).reverse) ++ .ref (zad G (k0 + 1)) :: st'.map (ztr G) := by
          rw [zmap_call G st b, hdrop]
          rfl
        rcases k with _ | _ | k
        · simp only [zmlb, Bool.and_eq_true, zblt, decide_eq_true_eq] at hm
          obtain ⟨⟨⟨⟨⟨⟨hlt, w1⟩, w2⟩, w4⟩, hpar⟩, hin⟩, hret⟩ := hm
          refine ⟨rfl, rfl, rfl, rfl, hlt, hmx, fun {Qa} hM hH hS hl hc1 hc2 => ?_⟩
          unfold zMt at hM
          rw [hret] at hM
          have hGd := zGood y' hlt
          rw [hret] at hGd
          exact va_runI (As := ((st.take b).reverse).map (ztr G)) (b := zad G (k0 + 1)) ⟨hx, hb, hml, hown, hts⟩ hM ⟨callB_of b hts hGd rfl rfl rfl (hts _ (zg (zat_mem w4) rfl)) (hts _ (zg (zat_mem w1) rfl)) (zpar_ok hpar) (zroom_ok hroom hfr hlo), beq_iff_eq.mp hin, hts _ (zg (zat_mem w2) rfl)⟩ ⟨zMt_blind, zpre F0 hH hS⟩ rfl (by simp; omega) hl.1 hstk (lv_room (by rw [zcats_map]; exact h8)) hd ⟨hc1, hc2⟩
        · simp only [zmlb, Bool.and_eq_true, zblt, decide_eq_true_eq] at hm
          obtain ⟨⟨⟨⟨⟨⟨hlt, w1⟩, w2⟩, w4⟩, hpar⟩, hin⟩, hret⟩ := hm
          have hnest := hK.2.1 _ (of_decide_eq_true hnb)
          refine ⟨rfl, rfl, rfl, rfl, hlt, hmx, fun {Qa} hM hH hS hl hc1 hc2 => ?_⟩
          unfold zMt at hM
          rw [hret] at hM
          have hGd := zGood y' hlt
          rw [hret] at hGd
          exact va_runIN (As := ((st.take b).reverse).map (ztr G)) (b := zad G (k0 + 1)) ⟨hx, hb, hml, hown, hts⟩ hM ⟨va_cnB b hts hGd rfl rfl rfl hnest (hts _ (zg (zat_mem w4) rfl)) (zpar_ok hpar) (zroom_ok hroom hfr hlo), beq_iff_eq.mp hin, hts _ (zg (zat_mem w2) rfl)⟩ ⟨zMt_blind, zpre F0 hH hS⟩ rfl (by simp; omega) hl.1 hstk (lv_room (by rw [zcats_map]; exact h8)) hd ⟨hc1, hc2⟩
        · exact absurd (show false = true from hm) nofun
      · cases hs
end ZCalls
