section ZThree
variable {p : Program} {l : Launch} {e : Env} {R : Room} {s : State} {m : MethodId} {args : Array Value} {below : List Frame} {meth : Method} {c : Code} {H : Heap} {locs : List Loc} {cells slots : Nat} {Q : State → Prop}
variable {S : zSc} {G : zG} {y : Nat} {ls : Array Slot} {pc pc' len a b k : Nat} {v : Value} {ts : List Nat} {lv lv' : zL} {st st' : List Value} {sh sh' : List zS} {M M' : zM} {ps : List Prop}

theorem zsl_set {sh : List zS} {r a a' n : Nat} {fs fs' : List Value} (hz : sh[r]? = some (a, n, fs)) : zsl (sh.set r (a', n, fs')) = zsl sh := by
  rw [zsl, zsl, List.map_set]
  have e3 : (sh.map fun s : zS => s.2.1).set r n = sh.map fun s : zS => s.2.1 := by
    apply List.ext_getElem?
    intro j
    have hr : r < sh.length := (List.getElem?_eq_some_iff.mp hz).1
    by_cases hj : r = j
    · subst hj
      rw [List.getElem?_set_self (by simpa using hr), List.getElem?_map, hz]
      rfl
    · rw [List.getElem?_set_ne hj]
  show ((sh.map fun s : zS => s.2.1).set r n).sum = _
  rw [e3]
theorem zfs_int {G : zG} {fs : List Value} {f : Nat → Int32} {b : Nat} {q x : Int32} (hf : fs[b]? = some (.int q)) : (fs.mapIdx (fun j v => zfv G (f j) v)).set b (.int x) = fs.mapIdx (fun j v => zfv G (upd f b x j) v) := by
  apply List.ext_getElem?
  intro j
  have hb : b < fs.length := (List.getElem?_eq_some_iff.mp hf).1
  by_cases hj : b = j
  · subst hj
    rw [List.getElem?_set_self (by simpa using hb), List.getElem?_mapIdx, hf]
    simp [zfv, upd]
  · rw [List.getElem?_set_ne hj, List.getElem?_mapIdx, List.getElem?_mapIdx]
    simp [upd, Ne.symm hj]
theorem zfs_ref {G : zG} {fs : List Value} {f : Nat → Int32} {b q : Nat} {v0 : Value} (hf : fs[b]? = some v0) : (fs.mapIdx (fun j v => zfv G (f j) v)).set b (.ref (zad G q)) = (fs.set b (.ref q)).mapIdx (fun j v => zfv G (f j) v) := by
  apply List.ext_getElem?
  intro j
  have hb : b < fs.length := (List.getElem?_eq_some_iff.mp hf).1
  by_cases hj : b = j
  · subst hj
    rw [List.getElem?_set_self (by simpa using hb), List.getElem?_mapIdx, List.getElem?_set_self hb]
    rfl
  · rw [List.getElem?_set_ne hj, List.getElem?_mapIdx, List.getElem?_mapIdx, List.getElem?_set_ne hj]
set_option maxHeartbeats 2000000 in
theorem zo_putfield {n : Nat} (F : zFr p R s m args meth c S G y) (hd : decode (zmb y) pc = .ok (.putfield n, len)) (hlen : zlen (.putfield n) len = true) (hsp : zspec y (pc, .putfield n, len, v, a, b, k, [], ts) = true) (hs : zstep S (pc, .putfield n, len, v, a, b, k, [], ts) lv st sh M = some (ps, .inl (pc', lv', st', sh', M'))) (hps : zall ps) (hH : zH G sh M H) (hS : va_S (fun q => G.2.1 ≤ q) s.heap H locs) (hl : lv_has ls (zmx y) (zlm G lv)) (hcap : cells + sh'.length ≤ R.cells + sh.length) (hcap2 : slots + zsl sh' ≤ R.slots + zsl sh) (K : zKk p l e R s m args below meth c cells slots Q G y sh (pc', lv', st', sh', M')) : W p l e R s m args below meth c H locs cells slots Q (F0 m pc ls (st.map (ztr G))) := by
  obtain ⟨hx, hb, hml, hown, hts, hK, hX, hbb, hbs, hini, hfr, hlo⟩ := F
  have hlen : len = 3 := zbeq.mp hlen
  subst hlen
  simp only [zspec, Bool.and_eq_true] at hsp
  obtain ⟨hF, hT⟩ := hsp
  obtain ⟨r0, hc0, hb0, hlk, hdecl⟩ := zF_of hF
  simp only [hc0, Bool.and_eq_true] at hT
  obtain ⟨h1, h2⟩ := hT
  have hfin : (r0.2.1 b).2.2.2 = false ∨ (meth.name = "<init>" ∧ (r0.2.1 b).1 = zown (zmo y)) := by
    cases hf : (r0.2.1 b).2.2.2 with
    | false => exact Or.inl rfl
    | true =>
      simp only [hf, Bool.not_true, Bool.false_or, Bool.and_eq_true, decide_eq_true_eq] at h1
      exact Or.inr ⟨hini h1.1, hdecl.trans h1.2⟩
  rcases st with _ | ⟨x0, _ | ⟨_ | _ | _ | _ | _ | (_ | r) | _, st⟩⟩
  all_goals first | exact absurd (show (none : zRr) = some _ from hs) nofun | skip
  change zpf a b k x0 (r + 1) (pc + 3) lv st sh M = _ at hs
  unfold zpf at hs
  rcases hz : sh[r]? with _ | ⟨kd, N, fs⟩
  · simp [hz] at hs
  simp only [hz] at hs
  cases hkd : Nat.beq kd (a + 3) with
  | false => simp [hkd] at hs
  | true =>
  have hk2 := zbeq.mp hkd
  subst hk2
  simp only [hkd] at hs
  have he := zws_get (G := G) (M := M) hz
  split at hs
  · cases hs
    rename_i hf
    rename_i q x
    have hlb : b < fs.length := (List.getElem?_eq_some_iff.mp hf).1
    have ht : zty r0 b = .int := by
      cases hq : zty r0 b <;> simp only [hq] at h2 <;> first | rfl | exact absurd h2 (by simp)
    refine zr_put hx hb hts hown hK.1 hH.2 (zws_D G sh M) hS he hc0 hb0 (hts _ (zg hlk rfl)) hfin (v := .int x) (by rw [ht]; rfl) (by rw [ht]; rfl) (by simpa using hlb) hd fun H1 locs1 hP1 z1 hS1 => ?_
    refine K H1 locs1 ls cells slots rfl rfl ⟨z1.trans hH.1, ?_⟩ hS1 hl
    rw [zfs_int hf] at hP1
    rw [zw, ← zws_write _ hz]
    exact hP1
  · cases hs
    rename_i hf
    rename_i q x
    have hlb : b < fs.length := (List.getElem?_eq_some_iff.mp hf).1
    have ht : zty r0 b = .boolean := by
      cases hq : zty r0 b <;> simp only [hq] at h2 <;> first | rfl | exact absurd h2 (by simp)
    refine zr_put hx hb hts hown hK.1 hH.2 (zws_D G sh M) hS he hc0 hb0 (hts _ (zg hlk rfl)) hfin (v := .int x) (by rw [ht]; rcases hps.1 with h | h <;> subst h <;> decide) (by rw [ht]; rcases hps.1 with h | h <;> subst h <;> decide) (by simpa using hlb) hd fun H1 locs1 hP1 z1 hS1 => ?_
    refine K H1 locs1 ls cells slots rfl rfl ⟨z1.trans hH.1, ?_⟩ hS1 hl
    rw [zfs_int hf] at hP1
    rw [zw, ← zws_write _ hz]
    exact hP1
  · cases hs
    rename_i hf
    have hlb : b < fs.length := (List.getElem?_eq_some_iff.mp hf).1
    rename_i q
    have ht : (∃ C, zty r0 b = .object C) ∨ ∃ t, zty r0 b = .array t := by
      cases hq : zty r0 b <;> simp only [hq] at h2 <;> first | exact Or.inl ⟨_, rfl⟩ | exact Or.inr ⟨_, rfl⟩ | exact absurd h2 (by simp)
    refine zr_put hx hb hts hown hK.1 hH.2 (zws_D G sh M) hS he hc0 hb0 (hts _ (zg hlk rfl)) hfin (v := .ref (zad G q)) (by rcases ht with ⟨C, ht⟩ | ⟨C, ht⟩ <;> rw [ht] <;> rfl) (by rcases ht with ⟨C, ht⟩ | ⟨C, ht⟩ <;> rw [ht] <;> rfl) (by simpa using hlb) hd fun H1 locs1 hP1 z1 hS1 => ?_
    refine K H1 locs1 ls cells slots (by simp) (by rw [zsl_set hz]) ⟨by simp; exact z1.trans hH.1, ?_⟩ hS1 hl
    rw [zfs_ref hf] at hP1
    rw [← zws_set (M := M) hz (fun _ _ => rfl)]
    exact hP1
  · exact absurd hs nofun
theorem zcall_next {y n pc : Nat} {as rest : List Value} {lv : zL} {sh : List zS} {M : zM} {ps : List Prop} {t : zC} (h : zcall y n as rest pc lv sh M = some (ps, .inl t)) : False := by
  unfold zcall at h
  split at h
  · cases h
  · cases h
set_option maxHeartbeats 2000000 in
theorem zo_invokespecial {n : Nat} (F : zFr p R s m args meth c S G y) (hd : decode (zmb y) pc = .ok (.invokespecial n, len)) (hlen : zlen (.invokespecial n) len = true) (hsp : zspec y (pc, .invokespecial n, len, v, a, b, k, [], ts) = true) (hs : zstep S (pc, .invokespecial n, len, v, a, b, k, [], ts) lv st sh M = some (ps, .inl (pc', lv', st', sh', M'))) (hps : zall ps) (hH : zH G sh M H) (hS : va_S (fun q => G.2.1 ≤ q) s.heap H locs) (hl : lv_has ls (zmx y) (zlm G lv)) (hcap : cells + sh'.length ≤ R.cells + sh.length) (hcap2 : slots + zsl sh' ≤ R.slots + zsl sh) (K : zKk p l e R s m args below meth c cells slots Q G y sh (pc', lv', st', sh', M')) : W p l e R s m args below meth c H locs cells slots Q (F0 m pc ls (st.map (ztr G))) := by
  obtain ⟨hx, hb, hml, hown, hts, hK, hX, hbb, hbs, hini, hfr, hlo⟩ := F
  have hlen : len = 3 := zbeq.mp hlen
  subst hlen
  rcases k with _ | k
  · simp only [zspec, Bool.and_eq_true, zble] at hsp
    obtain ⟨⟨hm, h1⟩, h2⟩ := hsp
    obtain ⟨p1, p2, p3, p4, hm⟩ := zM_of hm
    simp only [zmlb, Bool.and_eq_true] at hm
    rcases st with _ | ⟨q | q | q | q | _ | q | q, st⟩
    all_goals first | exact absurd (show (none : zRr) = some _ from hs) nofun | skip
    change (match Nat.ble (zcats st) 8 with
      | true => znx (pc + 3) lv st sh M
      | false => none) = _ at hs
    cases hb8 : Nat.ble (zcats st) 8 with
    | false => rw [hb8] at hs; exact absurd (show (none : zRr) = some _ from hs) nofun
    | true =>
      rw [hb8] at hs
      have h8 := zble.mp hb8
      have e8 := zcats_map G st
      change some (([] : List Prop), (Sum.inl (pc + 3, lv, st, sh, M) : zO)) = _ at hs
      cases hs
      refine W.objInit hx hb hown (hts _ (zg (zat_mem hm.1.1) rfl)) (hts _ (zg (zat_mem hm.1.2) rfl)) (hts _ (zg (zat_mem hm.2) rfl)) rfl (by rw [hml]; exact hl.1) rfl hd (by omega) ?_ (K H locs ls cells slots rfl rfl hH hS hl)
      show 2 * 0 + _ + 12 ≤ _
      omega
  · exfalso
    change (match st.drop b with
      | .ref (k0 + 1) :: rest => zcall a b (.ref (k0 + 1) :: (st.take b).reverse) rest (pc + 3) lv sh M
      | _ => none) = _ at hs
    split at hs
    · exact zcall_next hs
    · cases hs
set_option maxHeartbeats 2000000 in
theorem zo_invokevirtual {n : Nat} (F : zFr p R s m args meth c S G y) (hd : decode (zmb y) pc = .ok (.invokevirtual n, len)) (hlen : zlen (.invokevirtual n) len = true) (hsp : zspec y (pc, .invokevirtual n, len, v, a, b, k, [], ts) = true) (hs : zstep S (pc, .invokevirtual n, len, v, a, b, k, [], ts) lv st sh M = some (ps, .inl (pc', lv', st', sh', M'))) (hps : zall ps) (hH : zH G sh M H) (hS : va_S (fun q => G.2.1 ≤ q) s.heap H locs) (hl : lv_has ls (zmx y) (zlm G lv)) (hcap : cells + sh'.length ≤ R.cells + sh.length) (hcap2 : slots + zsl sh' ≤ R.slots + zsl sh) (K : zKk p l e R s m args below meth c cells slots Q G y sh (pc', lv', st', sh', M')) : W p l e R s m args below meth c H locs cells slots Q (F0 m pc ls (st.map (ztr G))) := by
  obtain ⟨hx, hb, hml, hown, hts, hK, hX, hbb, hbs, hini, hfr, hlo⟩ := F
  exfalso
  change (match st.drop b with
    | .ref (k0 + 1) :: rest => match zkind sh k0 with
      | some kd => match Nat.beq kd (k + 3) with
        | true => zcall a b (.ref (k0 + 1) :: (st.take b).reverse) rest (pc + len) lv sh M
        | false => none
      | none => none
    | _ => none) = _ at hs
  split at hs
  · split at hs
    · split at hs
      · exact zcall_next hs
      · cases hs
    · cases hs
  · cases hs
set_option maxHeartbeats 2000000 in
theorem zo_invokestatic {n : Nat} (F : zFr p R s m args meth c S G y) (hd : decode (zmb y) pc = .ok (.invokestatic n, len)) (hlen : zlen (.invokestatic n) len = true) (hsp : zspec y (pc, .invokestatic n, len, v, a, b, k, [], ts) = true) (hs : zstep S (pc, .invokestatic n, len, v, a, b, k, [], ts) lv st sh M = some (ps, .inl (pc', lv', st', sh', M'))) (hps : zall ps) (hH : zH G sh M H) (hS : va_S (fun q => G.2.1 ≤ q) s.heap H locs) (hl : lv_has ls (zmx y) (zlm G lv)) (hcap : cells + sh'.length ≤ R.cells + sh.length) (hcap2 : slots + zsl sh' ≤ R.slots + zsl sh) (K : zKk p l e R s m args below meth c cells slots Q G y sh (pc', lv', st', sh', M')) : W p l e R s m args below meth c H locs cells slots Q (F0 m pc ls (st.map (ztr G))) := by
  obtain ⟨hx, hb, hml, hown, hts, hK, hX, hbb, hbs, hini, hfr, hlo⟩ := F
  have hlen : len = 3 := zbeq.mp hlen
  subst hlen
  rcases k with _ | _ | k
  · change (match Nat.ble b st.length with
      | true => zcall a b (st.take b).reverse (st.drop b) (pc + 3) lv sh M
      | false => none) = _ at hs
    exfalso
    split at hs
    · exact zcall_next hs
    · cases hs
  · simp only [zspec, Bool.and_eq_true, zble] at hsp
    obtain ⟨⟨hm, h1⟩, h2⟩ := hsp
    obtain ⟨p1, p2, p3, p4, hm⟩ := zM_of hm
    simp only [zmlb, Bool.and_eq_true] at hm
    change zcpy (st.take 5).reverse (st.drop 5) (pc + 3) lv sh M = _ at hs
    unfold zcpy at hs
    split at hs
    · rename_i r0 sp r1 dp nn has
      split at hs
      · rename_i k0 k1
        split at hs
        · rename_i s0 s1 hs0 hs1
          obtain ⟨kd0, n0, fs0⟩ := s0
          obtain ⟨kd1, n1, fs1⟩ := s1
          split at hs
          · rename_i e0 e1 e8
            dsimp only at e0 e1
            subst e0
            subst e1
            cases hs
            obtain ⟨g1, g2, g3, g4, g5, -⟩ := hps
            have hst : st = .int nn :: .int dp :: .ref (k1 + 1) :: .int sp :: .ref (k0 + 1) :: st.drop 5 := by
              have h3 := congrArg List.reverse has
              rw [List.reverse_reverse] at h3
              conv => lhs; rw [← List.take_append_drop 5 st, h3]
              rfl
            generalize st.drop 5 = rest at hst K e8
            subst hst
            have h8 := zble.mp e8
            have e9 := zcats_map G rest
            refine zr_copy hx hb (by rw [hml]; exact hl.1.symm) hown (hts _ (zg (zat_mem hm.1.1.1) rfl)) (hts _ (zg (zat_mem hm.1.1.2) rfl)) (hts _ (zg (zat_mem hm.1.2) rfl)) (hts _ (zg (zat_mem hm.2) rfl)) hK.1 hH.2 (zws_D G sh M) hS 0 (zws_get hs0) (zws_get hs1) rfl g1 g2 g3 g4 g5 (by omega) (by omega) hd fun H1 locs1 hP1 z1 hS1 => ?_
            refine K H1 locs1 ls cells slots rfl rfl ⟨z1.trans hH.1, ?_⟩ hS1 hl
            rw [← zws_write _ hs1]
            exact hP1
          · cases hs
        · cases hs
      · cases hs
    · cases hs
  · simp only [zspec, Bool.and_eq_true, zble] at hsp
    obtain ⟨⟨hm, h1⟩, h2⟩ := hsp
    obtain ⟨p1, p2, p3, p4, hm⟩ := zM_of hm
    change zmath k st (pc + 3) lv sh M = _ at hs
    unfold zmath at hs
    split at hs
    · cases hs
    · rename_i h8
      have h8 := zble.mp h8
      split at hs
      · cases hs
        rename_i w x rest hold hold2
        simp only [zmlb, Bool.and_eq_true] at hm
        have e9 := zcats_map G rest
        change zcats rest ≤ 8 at h8
        exact va_mmax hx hb (by rw [hml]; exact hl.1.symm) hown (hts _ (zg (zat_mem hm.1.1.1) rfl)) (hts _ (zg (zat_mem hm.1.1.2) rfl)) (hts _ (zg (zat_mem hm.2) rfl)) (hts _ (zg (zat_mem hm.1.2) rfl)) (by omega) (by omega) (by omega) (by omega) hd (K H locs ls cells slots rfl rfl hH hS hl)
      · cases hs
        rename_i w x rest hold hold2
        simp only [zmlb, Bool.and_eq_true] at hm
        have e9 := zcats_map G rest
        change zcats rest ≤ 8 at h8
        exact va_mmax_long hx hb (by rw [hml]; exact hl.1.symm) hown (hts _ (zg (zat_mem hm.1.1.1) rfl)) (hts _ (zg (zat_mem hm.1.1.2) rfl)) (hts _ (zg (zat_mem hm.2) rfl)) (hts _ (zg (zat_mem hm.1.2) rfl)) (by omega) (by omega) (by omega) (by omega) hd (K H locs ls cells slots rfl rfl hH hS hl)
      · cases hs
        rename_i w x rest hold hold2
        simp only [zmlb, Bool.and_eq_true] at hm
        have e9 := zcats_map G rest
        change zcats rest ≤ 8 at h8
        exact va_mmin hx hb (by rw [hml]; exact hl.1.symm) hown (hts _ (zg (zat_mem hm.1.1.1) rfl)) (hts _ (zg (zat_mem hm.1.1.2) rfl)) (hts _ (zg (zat_mem hm.2) rfl)) (hts _ (zg (zat_mem hm.1.2) rfl)) (by omega) (by omega) (by omega) (by omega) hd (K H locs ls cells slots rfl rfl hH hS hl)
      · cases hs
set_option maxHeartbeats 2000000 in
theorem zo_ifCond {cd : ClassFile.Cond} {n : Int} {P : Prop} {t : Nat} (F : zFr p R s m args meth c S G y) (hd : decode (zmb y) pc = .ok (.ifCond cd n, len)) (hlen : zlen (.ifCond cd n) len = true) (hsp : zspec y (pc, .ifCond cd n, len, v, a, b, k, [], ts) = true) (hs : zstep S (pc, .ifCond cd n, len, v, a, b, k, [], ts) lv st sh M = some (ps, .inr (.inl (P, t, (pc', lv', st', sh', M'))))) (hH : zH G sh M H) (hS : va_S (fun q => G.2.1 ≤ q) s.heap H locs) (hl : lv_has ls (zmx y) (zlm G lv)) (K1 : P → zKk p l e R s m args below meth c cells slots Q G y sh (t, lv', st', sh', M')) (K2 : ¬ P → zKk p l e R s m args below meth c cells slots Q G y sh (pc', lv', st', sh', M')) : W p l e R s m args below meth c H locs cells slots Q (F0 m pc ls (st.map (ztr G))) := by
  obtain ⟨hx, hb, hml, hown, hts, hK, hX, hbb, hbs, hini, hfr, hlo⟩ := F
  have hlen : len = 3 := zbeq.mp hlen
  subst hlen
  rcases st with _ | ⟨x | x | x | x | _ | x | x, st⟩
  all_goals first | exact absurd (show (none : zRr) = some _ from hs) nofun | skip
  cases cd

  · change some (([] : List Prop), (Sum.inr (Sum.inl (_, a, (pc + 3, lv, st, sh, M))) : zO)) = _ at hs
    cases hs
    exact lv_if_eq hx hb hd (of_decide_eq_true hsp) (fun h => K1 h H locs ls cells slots rfl rfl hH hS hl) (fun h => K2 h H locs ls cells slots rfl rfl hH hS hl)
  · change some (([] : List Prop), (Sum.inr (Sum.inl (_, a, (pc + 3, lv, st, sh, M))) : zO)) = _ at hs
    cases hs
    exact lv_if_ne hx hb hd (of_decide_eq_true hsp) (fun h => K1 h H locs ls cells slots rfl rfl hH hS hl) (fun h => K2 (not_not_intro h) H locs ls cells slots rfl rfl hH hS hl)
  · change some (([] : List Prop), (Sum.inr (Sum.inl (_, a, (pc + 3, lv, st, sh, M))) : zO)) = _ at hs
    cases hs
    exact lv_if_lt hx hb hd (of_decide_eq_true hsp) (fun h => K1 h H locs ls cells slots rfl rfl hH hS hl) (fun h => K2 h H locs ls cells slots rfl rfl hH hS hl)
  · change some (([] : List Prop), (Sum.inr (Sum.inl (_, a, (pc + 3, lv, st, sh, M))) : zO)) = _ at hs
    cases hs
    exact lv_if_ge hx hb hd (of_decide_eq_true hsp) (fun h => K1 h H locs ls cells slots rfl rfl hH hS hl) (fun h => K2 h H locs ls cells slots rfl rfl hH hS hl)
  · change some (([] : List Prop), (Sum.inr (Sum.inl (_, a, (pc + 3, lv, st, sh, M))) : zO)) = _ at hs
    cases hs
    exact lv_if_gt hx hb hd (of_decide_eq_true hsp) (fun h => K1 h H locs ls cells slots rfl rfl hH hS hl) (fun h => K2 h H locs ls cells slots rfl rfl hH hS hl)
  · change some (([] : List Prop), (Sum.inr (Sum.inl (_, a, (pc + 3, lv, st, sh, M))) : zO)) = _ at hs
    cases hs
    exact lv_if_le hx hb hd (of_decide_eq_true hsp) (fun h => K1 h H locs ls cells slots rfl rfl hH hS hl) (fun h => K2 h H locs ls cells slots rfl rfl hH hS hl)
set_option maxHeartbeats 2000000 in
theorem zo_if_icmp {cd : ClassFile.Cond} {n : Int} {P : Prop} {t : Nat} (F : zFr p R s m args meth c S G y) (hd : decode (zmb y) pc = .ok (.if_icmp cd n, len)) (hlen : zlen (.if_icmp cd n) len = true) (hsp : zspec y (pc, .if_icmp cd n, len, v, a, b, k, [], ts) = true) (hs : zstep S (pc, .if_icmp cd n, len, v, a, b, k, [], ts) lv st sh M = some (ps, .inr (.inl (P, t, (pc', lv', st', sh', M'))))) (hH : zH G sh M H) (hS : va_S (fun q => G.2.1 ≤ q) s.heap H locs) (hl : lv_has ls (zmx y) (zlm G lv)) (K1 : P → zKk p l e R s m args below meth c cells slots Q G y sh (t, lv', st', sh', M')) (K2 : ¬ P → zKk p l e R s m args below meth c cells slots Q G y sh (pc', lv', st', sh', M')) : W p l e R s m args below meth c H locs cells slots Q (F0 m pc ls (st.map (ztr G))) := by
  obtain ⟨hx, hb, hml, hown, hts, hK, hX, hbb, hbs, hini, hfr, hlo⟩ := F
  have hlen : len = 3 := zbeq.mp hlen
  subst hlen
  rcases st with _ | ⟨w | w | w | w | _ | w | w, _ | ⟨x | x | x | x | _ | x | x, st⟩⟩
  all_goals first | exact absurd (show (none : zRr) = some _ from hs) nofun | skip
  cases cd

  · change some (([] : List Prop), (Sum.inr (Sum.inl (_, a, (pc + 3, lv, st, sh, M))) : zO)) = _ at hs
    cases hs
    exact lv_icmp_eq hx hb hd (of_decide_eq_true hsp) (fun h => K1 h H locs ls cells slots rfl rfl hH hS hl) (fun h => K2 h H locs ls cells slots rfl rfl hH hS hl)
  · change some (([] : List Prop), (Sum.inr (Sum.inl (_, a, (pc + 3, lv, st, sh, M))) : zO)) = _ at hs
    cases hs
    exact lv_icmp_ne hx hb hd (of_decide_eq_true hsp) (fun h => K1 h H locs ls cells slots rfl rfl hH hS hl) (fun h => K2 (not_not_intro h) H locs ls cells slots rfl rfl hH hS hl)
  · change some (([] : List Prop), (Sum.inr (Sum.inl (_, a, (pc + 3, lv, st, sh, M))) : zO)) = _ at hs
    cases hs
    exact lv_icmp_lt hx hb hd (of_decide_eq_true hsp) (fun h => K1 h H locs ls cells slots rfl rfl hH hS hl) (fun h => K2 h H locs ls cells slots rfl rfl hH hS hl)
  · change some (([] : List Prop), (Sum.inr (Sum.inl (_, a, (pc + 3, lv, st, sh, M))) : zO)) = _ at hs
    cases hs
    exact lv_icmp_ge hx hb hd (of_decide_eq_true hsp) (fun h => K1 h H locs ls cells slots rfl rfl hH hS hl) (fun h => K2 h H locs ls cells slots rfl rfl hH hS hl)
  · change some (([] : List Prop), (Sum.inr (Sum.inl (_, a, (pc + 3, lv, st, sh, M))) : zO)) = _ at hs
    cases hs
    exact lv_icmp_gt hx hb hd (of_decide_eq_true hsp) (fun h => K1 h H locs ls cells slots rfl rfl hH hS hl) (fun h => K2 h H locs ls cells slots rfl rfl hH hS hl)
  · change some (([] : List Prop), (Sum.inr (Sum.inl (_, a, (pc + 3, lv, st, sh, M))) : zO)) = _ at hs
    cases hs
    exact lv_icmp_le hx hb hd (of_decide_eq_true hsp) (fun h => K1 h H locs ls cells slots rfl rfl hH hS hl) (fun h => K2 h H locs ls cells slots rfl rfl hH hS hl)
end ZThree
