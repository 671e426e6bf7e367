section ZTwo
variable {p : Program} {l : Launch} {e : Env} {R : Room} {s : State} {m : MethodId} {args : Array Value} {below : List Frame} {meth : Method} {c : Code} {H : Heap} {locs : List Loc} {cells slots : Nat} {Q : State → Prop}
variable {S : zSc} {G : zG} {y : Nat} {ls : Array Slot} {pc pc' len a b k : Nat} {v : Value} {ts : List Nat} {lv lv' : zL} {st st' : List Value} {sh sh' : List zS} {M M' : zM} {ps : List Prop}

theorem zdf_v {a j : Nat} {v : Value} (h : (zdf a)[j]? = some v) : v = .int 0 ∨ v = .null := by
  have hk : zdfs.all (fun l => l.all (fun v => decide (v = .int 0 ∨ v = .null))) = true := by decide +kernel
  have hm := List.mem_of_getElem? h
  unfold zdf at hm
  rw [List.getD_eq_getElem?_getD] at hm
  cases hz : zdfs[a]? with
  | none => rw [hz] at hm; simp at hm
  | some l =>
    rw [hz] at hm
    exact of_decide_eq_true (List.all_eq_true.mp (List.all_eq_true.mp hk l (List.mem_of_getElem? hz)) v hm)
theorem zar_some {sh : List zS} {k kd n : Nat} (h : zar sh k = some (kd, n)) : ∃ fs, sh[k]? = some (kd, n, fs) := by
  unfold zar at h
  cases hs : sh[k]? with
  | none => rw [hs] at h; cases h
  | some s =>
    rw [hs] at h
    obtain ⟨a, b, fs⟩ := s
    cases h
    exact ⟨fs, rfl⟩
set_option maxHeartbeats 2000000 in
theorem zo_iaload (F : zFr p R s m args meth c S G y) (hd : decode (zmb y) pc = .ok (.iaload, len)) (hlen : zlen (.iaload) len = true) (hsp : zspec y (pc, .iaload, len, v, a, b, k, [], ts) = true) (hs : zstep S (pc, .iaload, len, v, a, b, k, [], ts) lv st sh M = some (ps, .inl (pc', lv', st', sh', M'))) (hps : zall ps) (hH : zH G sh M H) (hS : va_S (fun q => G.2.1 ≤ q) s.heap H locs) (hl : lv_has ls (zmx y) (zlm G lv)) (hcap : cells + sh'.length ≤ R.cells + sh.length) (hcap2 : slots + zsl sh' ≤ R.slots + zsl sh) (K : zKk p l e R s m args below meth c cells slots Q G y sh (pc', lv', st', sh', M')) : W p l e R s m args below meth c H locs cells slots Q (F0 m pc ls (st.map (ztr G))) := by
  obtain ⟨hx, hb, hml, hown, hts, hK, hX, hbb, hbs, hini, hfr, hlo⟩ := F
  have hlen : len = 1 := zbeq.mp hlen
  subst hlen
  rcases st with _ | ⟨i | i | i | i | _ | i | i, _ | ⟨r | r | r | r | _ | r | r, st⟩⟩
  all_goals first | exact absurd (show (none : zRr) = some _ from hs) nofun | skip
  rcases r with _ | r
  · change some (([vp_in i S.1] : List Prop), (Sum.inl (pc + 1, lv, .int (S.2 i.toNatClampNeg) :: st, sh, M) : zO)) = _ at hs
    cases hs
    exact va_sld hx hb hX (Nat.lt_of_lt_of_le hbb hbs) (Nat.not_le.mpr hbb) hS hps.1 hd (K H locs ls cells slots rfl rfl hH hS hl)
  · change (match zar sh r with
      | some (0, n) => znp [vp_in i n] (pc + 1) lv (.int (M (r + 1) i.toNatClampNeg) :: st) sh M
      | _ => none) = _ at hs
    rcases hz : zar sh r with _ | ⟨_ | kd, n⟩
    · rw [hz] at hs; exact absurd (show (none : zRr) = some _ from hs) nofun
    · rw [hz] at hs
      change some (([vp_in i n] : List Prop), (Sum.inl (pc + 1, lv, .int (M (r + 1) i.toNatClampNeg) :: st, sh, M) : zO)) = _ at hs
      cases hs
      obtain ⟨fs, hf⟩ := zar_some hz
      exact va_iald hx hb hK.1 hH.2 r 0 (zws_get hf) rfl hps.1 hd (K H locs ls cells slots rfl rfl hH hS hl)
    · rw [hz] at hs; exact absurd (show (none : zRr) = some _ from hs) nofun
set_option maxHeartbeats 2000000 in
theorem zo_baload (F : zFr p R s m args meth c S G y) (hd : decode (zmb y) pc = .ok (.baload, len)) (hlen : zlen (.baload) len = true) (hsp : zspec y (pc, .baload, len, v, a, b, k, [], ts) = true) (hs : zstep S (pc, .baload, len, v, a, b, k, [], ts) lv st sh M = some (ps, .inl (pc', lv', st', sh', M'))) (hps : zall ps) (hH : zH G sh M H) (hS : va_S (fun q => G.2.1 ≤ q) s.heap H locs) (hl : lv_has ls (zmx y) (zlm G lv)) (hcap : cells + sh'.length ≤ R.cells + sh.length) (hcap2 : slots + zsl sh' ≤ R.slots + zsl sh) (K : zKk p l e R s m args below meth c cells slots Q G y sh (pc', lv', st', sh', M')) : W p l e R s m args below meth c H locs cells slots Q (F0 m pc ls (st.map (ztr G))) := by
  obtain ⟨hx, hb, hml, hown, hts, hK, hX, hbb, hbs, hini, hfr, hlo⟩ := F
  have hlen : len = 1 := zbeq.mp hlen
  subst hlen
  rcases st with _ | ⟨i | i | i | i | _ | i | i, _ | ⟨_ | _ | _ | _ | _ | (_ | r) | _, st⟩⟩
  all_goals first | exact absurd (show (none : zRr) = some _ from hs) nofun | skip
  change (match zar sh r with
    | some (1, n) => znp [vp_in i n] (pc + 1) lv (.int (M (r + 1) i.toNatClampNeg) :: st) sh M
    | _ => none) = _ at hs
  rcases hz : zar sh r with _ | ⟨_ | _ | kd, n⟩
  · rw [hz] at hs; exact absurd (show (none : zRr) = some _ from hs) nofun
  · rw [hz] at hs; exact absurd (show (none : zRr) = some _ from hs) nofun
  · rw [hz] at hs
    change some (([vp_in i n] : List Prop), (Sum.inl (pc + 1, lv, .int (M (r + 1) i.toNatClampNeg) :: st, sh, M) : zO)) = _ at hs
    cases hs
    obtain ⟨fs, hf⟩ := zar_some hz
    exact va_zald hx hb hK.1 hH.2 r 1 (zws_get hf) rfl hps.1 hd (K H locs ls cells slots rfl rfl hH hS hl)
  · rw [hz] at hs; exact absurd (show (none : zRr) = some _ from hs) nofun
set_option maxHeartbeats 2000000 in
theorem zo_iastore (F : zFr p R s m args meth c S G y) (hd : decode (zmb y) pc = .ok (.iastore, len)) (hlen : zlen (.iastore) len = true) (hsp : zspec y (pc, .iastore, len, v, a, b, k, [], ts) = true) (hs : zstep S (pc, .iastore, len, v, a, b, k, [], ts) lv st sh M = some (ps, .inl (pc', lv', st', sh', M'))) (hps : zall ps) (hH : zH G sh M H) (hS : va_S (fun q => G.2.1 ≤ q) s.heap H locs) (hl : lv_has ls (zmx y) (zlm G lv)) (hcap : cells + sh'.length ≤ R.cells + sh.length) (hcap2 : slots + zsl sh' ≤ R.slots + zsl sh) (K : zKk p l e R s m args below meth c cells slots Q G y sh (pc', lv', st', sh', M')) : W p l e R s m args below meth c H locs cells slots Q (F0 m pc ls (st.map (ztr G))) := by
  obtain ⟨hx, hb, hml, hown, hts, hK, hX, hbb, hbs, hini, hfr, hlo⟩ := F
  have hlen : len = 1 := zbeq.mp hlen
  subst hlen
  rcases st with _ | ⟨x | x | x | x | _ | x | x, _ | ⟨i | i | i | i | _ | i | i, _ | ⟨_ | _ | _ | _ | _ | (_ | r) | _, st⟩⟩⟩
  all_goals first | exact absurd (show (none : zRr) = some _ from hs) nofun | skip
  change (match zar sh r with
    | some (0, n) => znp [vp_in i n] (pc + 1) lv st sh (zw M (r + 1) i.toNatClampNeg x)
    | _ => none) = _ at hs
  rcases hz : zar sh r with _ | ⟨_ | kd, n⟩
  · rw [hz] at hs; exact absurd (show (none : zRr) = some _ from hs) nofun
  · rw [hz] at hs
    change some (([vp_in i n] : List Prop), (Sum.inl (pc + 1, lv, st, sh, zw M (r + 1) i.toNatClampNeg x) : zO)) = _ at hs
    cases hs
    obtain ⟨fs, hf⟩ := zar_some hz
    refine zr_iast hx hb hK.1 hH.2 (zws_D G sh M) hS 0 (zws_get hf) rfl hps.1 hd fun H1 locs1 hP1 z1 hS1 => ?_
    refine K H1 locs1 ls cells slots rfl rfl ⟨z1.trans hH.1, ?_⟩ hS1 hl
    rw [zw, ← zws_write _ hf]
    exact hP1
  · rw [hz] at hs; exact absurd (show (none : zRr) = some _ from hs) nofun
set_option maxHeartbeats 2000000 in
theorem zo_bastore (F : zFr p R s m args meth c S G y) (hd : decode (zmb y) pc = .ok (.bastore, len)) (hlen : zlen (.bastore) len = true) (hsp : zspec y (pc, .bastore, len, v, a, b, k, [], ts) = true) (hs : zstep S (pc, .bastore, len, v, a, b, k, [], ts) lv st sh M = some (ps, .inl (pc', lv', st', sh', M'))) (hps : zall ps) (hH : zH G sh M H) (hS : va_S (fun q => G.2.1 ≤ q) s.heap H locs) (hl : lv_has ls (zmx y) (zlm G lv)) (hcap : cells + sh'.length ≤ R.cells + sh.length) (hcap2 : slots + zsl sh' ≤ R.slots + zsl sh) (K : zKk p l e R s m args below meth c cells slots Q G y sh (pc', lv', st', sh', M')) : W p l e R s m args below meth c H locs cells slots Q (F0 m pc ls (st.map (ztr G))) := by
  obtain ⟨hx, hb, hml, hown, hts, hK, hX, hbb, hbs, hini, hfr, hlo⟩ := F
  have hlen : len = 1 := zbeq.mp hlen
  subst hlen
  rcases st with _ | ⟨x | x | x | x | _ | x | x, _ | ⟨i | i | i | i | _ | i | i, _ | ⟨_ | _ | _ | _ | _ | (_ | r) | _, st⟩⟩⟩
  all_goals first | exact absurd (show (none : zRr) = some _ from hs) nofun | skip
  change (match zar sh r with
    | some (1, n) => znp [vp_in i n, x = 0 ∨ x = 1] (pc + 1) lv st sh (zw M (r + 1) i.toNatClampNeg x)
    | _ => none) = _ at hs
  rcases hz : zar sh r with _ | ⟨_ | _ | kd, n⟩
  · rw [hz] at hs; exact absurd (show (none : zRr) = some _ from hs) nofun
  · rw [hz] at hs; exact absurd (show (none : zRr) = some _ from hs) nofun
  · rw [hz] at hs
    change some (([vp_in i n, x = 0 ∨ x = 1] : List Prop), (Sum.inl (pc + 1, lv, st, sh, zw M (r + 1) i.toNatClampNeg x) : zO)) = _ at hs
    cases hs
    obtain ⟨fs, hf⟩ := zar_some hz
    refine zr_zast hx hb hK.1 hH.2 (zws_D G sh M) hS 1 (zws_get hf) rfl hps.1 hps.2.1 hd fun H1 locs1 hP1 z1 hS1 => ?_
    refine K H1 locs1 ls cells slots rfl rfl ⟨z1.trans hH.1, ?_⟩ hS1 hl
    rw [zw, ← zws_write _ hf]
    exact hP1
  · rw [hz] at hs; exact absurd (show (none : zRr) = some _ from hs) nofun
set_option maxHeartbeats 2000000 in
theorem zo_arraylength (F : zFr p R s m args meth c S G y) (hd : decode (zmb y) pc = .ok (.arraylength, len)) (hlen : zlen (.arraylength) len = true) (hsp : zspec y (pc, .arraylength, len, v, a, b, k, [], ts) = true) (hs : zstep S (pc, .arraylength, len, v, a, b, k, [], ts) lv st sh M = some (ps, .inl (pc', lv', st', sh', M'))) (hps : zall ps) (hH : zH G sh M H) (hS : va_S (fun q => G.2.1 ≤ q) s.heap H locs) (hl : lv_has ls (zmx y) (zlm G lv)) (hcap : cells + sh'.length ≤ R.cells + sh.length) (hcap2 : slots + zsl sh' ≤ R.slots + zsl sh) (K : zKk p l e R s m args below meth c cells slots Q G y sh (pc', lv', st', sh', M')) : W p l e R s m args below meth c H locs cells slots Q (F0 m pc ls (st.map (ztr G))) := by
  obtain ⟨hx, hb, hml, hown, hts, hK, hX, hbb, hbs, hini, hfr, hlo⟩ := F
  have hlen : len = 1 := zbeq.mp hlen
  subst hlen
  rcases st with _ | ⟨_ | _ | _ | _ | _ | (_ | r) | _, st⟩
  all_goals first | exact absurd (show (none : zRr) = some _ from hs) nofun | skip
  · change some (([] : List Prop), (Sum.inl (pc + 1, lv, .int (Int32.ofNat S.1) :: st, sh, M) : zO)) = _ at hs
    cases hs
    exact va_slen hx hb hX (Nat.lt_of_lt_of_le hbb hbs) (Nat.not_le.mpr hbb) hS hd (K H locs ls cells slots rfl rfl hH hS hl)
  · change (match zar sh r with
      | some (0, n) => znx (pc + 1) lv (.int (Int32.ofNat n) :: st) sh M
      | some (1, n) => znx (pc + 1) lv (.int (Int32.ofNat n) :: st) sh M
      | _ => none) = _ at hs
    rcases hz : zar sh r with _ | ⟨_ | _ | kd, n⟩
    · rw [hz] at hs; exact absurd (show (none : zRr) = some _ from hs) nofun
    · rw [hz] at hs
      change some (([] : List Prop), (Sum.inl (pc + 1, lv, .int (Int32.ofNat n) :: st, sh, M) : zO)) = _ at hs
      cases hs
      obtain ⟨fs, hf⟩ := zar_some hz
      exact va_alen hx hb hK.1 hH.2 r 0 (zws_get hf) rfl rfl hd (K H locs ls cells slots rfl rfl hH hS hl)
    · rw [hz] at hs
      change some (([] : List Prop), (Sum.inl (pc + 1, lv, .int (Int32.ofNat n) :: st, sh, M) : zO)) = _ at hs
      cases hs
      obtain ⟨fs, hf⟩ := zar_some hz
      exact va_alen hx hb hK.1 hH.2 r 1 (zws_get hf) rfl rfl hd (K H locs ls cells slots rfl rfl hH hS hl)
    · rw [hz] at hs; exact absurd (show (none : zRr) = some _ from hs) nofun
set_option maxHeartbeats 2000000 in
theorem zo_aaload (F : zFr p R s m args meth c S G y) (hd : decode (zmb y) pc = .ok (.aaload, len)) (hlen : zlen (.aaload) len = true) (hsp : zspec y (pc, .aaload, len, v, a, b, k, [], ts) = true) (hs : zstep S (pc, .aaload, len, v, a, b, k, [], ts) lv st sh M = some (ps, .inl (pc', lv', st', sh', M'))) (hps : zall ps) (hH : zH G sh M H) (hS : va_S (fun q => G.2.1 ≤ q) s.heap H locs) (hl : lv_has ls (zmx y) (zlm G lv)) (hcap : cells + sh'.length ≤ R.cells + sh.length) (hcap2 : slots + zsl sh' ≤ R.slots + zsl sh) (K : zKk p l e R s m args below meth c cells slots Q G y sh (pc', lv', st', sh', M')) : W p l e R s m args below meth c H locs cells slots Q (F0 m pc ls (st.map (ztr G))) := by
  obtain ⟨hx, hb, hml, hown, hts, hK, hX, hbb, hbs, hini, hfr, hlo⟩ := F
  have hlen : len = 1 := zbeq.mp hlen
  subst hlen
  rcases st with _ | ⟨i | i | i | i | _ | i | i, _ | ⟨_ | _ | _ | _ | _ | (_ | r) | _, st⟩⟩
  all_goals first | exact absurd (show (none : zRr) = some _ from hs) nofun | skip
  change (match sh[r]? with
    | some (2, n, fs) => match fs.getD i.toNatClampNeg .null with
      | .ref q => znp [vp_in i n] (pc + 1) lv (.ref q :: st) sh M
      | _ => none
    | _ => none) = _ at hs
  rcases hz : sh[r]? with _ | ⟨_ | _ | _ | kd, n, fs⟩
  · rw [hz] at hs; exact absurd (show (none : zRr) = some _ from hs) nofun
  · rw [hz] at hs; exact absurd (show (none : zRr) = some _ from hs) nofun
  · rw [hz] at hs; exact absurd (show (none : zRr) = some _ from hs) nofun
  · rw [hz] at hs
    change (match fs.getD i.toNatClampNeg .null with
      | .ref q => znp [vp_in i n] (pc + 1) lv (.ref q :: st) sh M
      | _ => none) = _ at hs
    rcases hq : fs.getD i.toNatClampNeg .null with q | q | q | q | _ | q | q
    all_goals rw [hq] at hs
    all_goals first | exact absurd (show (none : zRr) = some _ from hs) nofun | skip
    change some (([vp_in i n] : List Prop), (Sum.inl (pc + 1, lv, .ref q :: st, sh, M) : zO)) = _ at hs
    cases hs
    refine va_aldq hx hb hK.1 hH.2 r 2 (zws_get hz) rfl hps.1 hd ?_
    have e1 : va_rf (zrf G (fs.getD i.toNatClampNeg .null)) = ztr G (.ref q) := by rw [hq]; rfl
    rw [e1]
    exact K H locs ls cells slots rfl rfl hH hS hl
  · rw [hz] at hs; exact absurd (show (none : zRr) = some _ from hs) nofun
set_option maxHeartbeats 2000000 in
theorem zo_aastore (F : zFr p R s m args meth c S G y) (hd : decode (zmb y) pc = .ok (.aastore, len)) (hlen : zlen (.aastore) len = true) (hsp : zspec y (pc, .aastore, len, v, a, b, k, [], ts) = true) (hs : zstep S (pc, .aastore, len, v, a, b, k, [], ts) lv st sh M = some (ps, .inl (pc', lv', st', sh', M'))) (hps : zall ps) (hH : zH G sh M H) (hS : va_S (fun q => G.2.1 ≤ q) s.heap H locs) (hl : lv_has ls (zmx y) (zlm G lv)) (hcap : cells + sh'.length ≤ R.cells + sh.length) (hcap2 : slots + zsl sh' ≤ R.slots + zsl sh) (K : zKk p l e R s m args below meth c cells slots Q G y sh (pc', lv', st', sh', M')) : W p l e R s m args below meth c H locs cells slots Q (F0 m pc ls (st.map (ztr G))) := by
  obtain ⟨hx, hb, hml, hown, hts, hK, hX, hbb, hbs, hini, hfr, hlo⟩ := F
  have hlen : len = 1 := zbeq.mp hlen
  subst hlen
  rcases st with _ | ⟨_ | _ | _ | _ | _ | (_ | q) | _, _ | ⟨i | i | i | i | _ | i | i, _ | ⟨_ | _ | _ | _ | _ | (_ | r) | _, st⟩⟩⟩
  all_goals first | exact absurd (show (none : zRr) = some _ from hs) nofun | skip
  change (match sh[r]?, zkind sh q with
    | some (2, n, fs), some 9 => znp [vp_in i n, i.toNatClampNeg < fs.length] (pc + 1) lv st (sh.set r (2, n, fs.set i.toNatClampNeg (.ref (q + 1)))) M
    | _, _ => none) = _ at hs
  rcases hz : sh[r]? with _ | ⟨_ | _ | _ | kd, n, fs⟩
  · rw [hz] at hs; exact absurd (show (none : zRr) = some _ from hs) nofun
  · rw [hz] at hs; exact absurd (show (none : zRr) = some _ from hs) nofun
  · rw [hz] at hs; exact absurd (show (none : zRr) = some _ from hs) nofun
  · rw [hz] at hs
    rcases hkd : zkind sh q with _ | kd
    · rw [hkd] at hs; exact absurd (show (none : zRr) = some _ from hs) nofun
    · rw [hkd] at hs
      by_cases h9 : kd = 9
      · subst h9
        change some (([vp_in i n, i.toNatClampNeg < fs.length] : List Prop), (Sum.inl (pc + 1, lv, st, sh.set r (2, n, fs.set i.toNatClampNeg (.ref (q + 1))), M) : zO)) = _ at hs
        cases hs
        obtain ⟨n2, fs2, hq2⟩ : ∃ n2 fs2, sh[q]? = some (9, n2, fs2) := by
          unfold zkind at hkd
          cases hs2 : sh[q]? with
          | none => rw [hs2] at hkd; cases hkd
          | some s2 =>
            rw [hs2] at hkd
            obtain ⟨a2, b2, c2⟩ := s2
            cases hkd
            exact ⟨_, _, rfl⟩
        refine zr_aast hx hb hK.1 hH.2 (zws_D G sh M) hS (q0 := r) (t0 := 2) (qk := q) (ci := 6) (r := (zR6, zT6, 4)) (zws_get hz) rfl (zws_get hq2) rfl hps.1 hd fun H1 locs1 hP1 z1 hS1 => ?_
        refine K H1 locs1 ls cells slots (by simp) ?_ ⟨by simp; exact z1.trans hH.1, ?_⟩ hS1 hl
        · congr 1
          rw [zsl, zsl, List.map_set]
          have e3 : (sh.map fun s : zS => s.2.1).set r n = sh.map fun s : zS => s.2.1 := by
            apply List.ext_getElem?
            intro j
            have hr : r < sh.length := (List.getElem?_eq_some_iff.mp hz).1
            by_cases hj : r = j
            · subst hj
              rw [List.getElem?_set_self (by simpa using hr), List.getElem?_map, hz]
              rfl
            · rw [List.getElem?_set_ne hj]
          rw [e3]
        · rw [← zws_set (M := M) hz (fun _ _ => rfl)]
          have e2 : (fun j => zrf G ((fs.set i.toNatClampNeg (.ref (q + 1))).getD j .null)) = va_up (fun j => zrf G (fs.getD j .null)) i.toNatClampNeg (some (G.2.1 + q)) := by
            funext j
            have hlt : i.toNatClampNeg < fs.length := hps.2.1
            by_cases hj : i.toNatClampNeg = j
            · subst hj
              rw [List.getD_eq_getElem?_getD, List.getElem?_set_self hlt]
              simp [va_up, zrf, zad]
            · rw [List.getD_eq_getElem?_getD, List.getElem?_set_ne hj]
              simp [va_up, Ne.symm hj]
          show va_P _ _ ((zws G sh M).set r (G.2.1 + r, .inl (G.2.2.2.2.2, n, .inr (.inr (.inr (.inr (fun j => zrf G ((fs.set i.toNatClampNeg (.ref (q + 1))).getD j .null)))))))) H1
          rw [e2]
          exact hP1
      · exfalso
        revert hs
        show ¬ ((match (some (2, n, fs) : Option zS), (some kd : Option Nat) with
          | some (2, n, fs), some 9 => znp [vp_in i n, i.toNatClampNeg < fs.length] (pc + 1) lv st (sh.set r (2, n, fs.set i.toNatClampNeg (.ref (q + 1)))) M
          | _, _ => none) = _)
        split
        · rename_i h1 h2
          exact absurd (Option.some.inj h2) h9
        · intro h; cases h
  · rw [hz] at hs; exact absurd (show (none : zRr) = some _ from hs) nofun
set_option maxHeartbeats 2000000 in
theorem zo_getfield {n : Nat} (F : zFr p R s m args meth c S G y) (hd : decode (zmb y) pc = .ok (.getfield n, len)) (hlen : zlen (.getfield n) len = true) (hsp : zspec y (pc, .getfield n, len, v, a, b, k, [], ts) = true) (hs : zstep S (pc, .getfield n, len, v, a, b, k, [], ts) lv st sh M = some (ps, .inl (pc', lv', st', sh', M'))) (hps : zall ps) (hH : zH G sh M H) (hS : va_S (fun q => G.2.1 ≤ q) s.heap H locs) (hl : lv_has ls (zmx y) (zlm G lv)) (hcap : cells + sh'.length ≤ R.cells + sh.length) (hcap2 : slots + zsl sh' ≤ R.slots + zsl sh) (K : zKk p l e R s m args below meth c cells slots Q G y sh (pc', lv', st', sh', M')) : W p l e R s m args below meth c H locs cells slots Q (F0 m pc ls (st.map (ztr G))) := by
  obtain ⟨hx, hb, hml, hown, hts, hK, hX, hbb, hbs, hini, hfr, hlo⟩ := F
  have hlen : len = 3 := zbeq.mp hlen
  subst hlen
  obtain ⟨r0, hc0, hb0, hlk, hdecl⟩ := zF_of hsp
  obtain ⟨hin, hty, hnm, hinst, hini0, hfs, hlen0⟩ := zcls_of hc0
  rcases st with _ | ⟨_ | _ | _ | _ | _ | (_ | r) | _, st⟩
  all_goals first | exact absurd (show (none : zRr) = some _ from hs) nofun | skip
  change zgf a b (r + 1) (pc + 3) lv st sh M = _ at hs
  unfold zgf at hs
  rcases hz : sh[r]? with _ | ⟨kd, N, fs⟩
  · simp [hz] at hs
  · simp only [hz] at hs
    cases hkd : Nat.beq kd (a + 3) with
    | false => simp [hkd] at hs
    | true =>
      have hk2 := zbeq.mp hkd
      subst hk2
      simp only [hkd] at hs
      have he := zws_get (G := G) (M := M) hz
      rcases hf : fs[b]? with _ | (q | q | q | q | _ | q | q)
      all_goals simp only [hf] at hs
      all_goals first | exact absurd (show (none : zRr) = some _ from hs) nofun | skip
      · cases hs
        exact va_get hx hb hts hin hown hK.1 hH.2 r he hc0 b hb0 (hts _ (zg hlk rfl)) (fun _ h => h) (v := .int (M (r + 1) b)) (by rw [List.getElem?_mapIdx, hf]; rfl) hd (K H locs ls cells slots rfl rfl hH hS hl)
      · cases hs
        exact va_get hx hb hts hin hown hK.1 hH.2 r he hc0 b hb0 (hts _ (zg hlk rfl)) (fun _ h => h) (v := .ref (zad G q)) (by rw [List.getElem?_mapIdx, hf]; rfl) hd (K H locs ls cells slots rfl rfl hH hS hl)
set_option maxHeartbeats 2000000 in
theorem zo_new {n : Nat} (F : zFr p R s m args meth c S G y) (hd : decode (zmb y) pc = .ok (.new n, len)) (hlen : zlen (.new n) len = true) (hsp : zspec y (pc, .new n, len, v, a, b, k, [], ts) = true) (hs : zstep S (pc, .new n, len, v, a, b, k, [], ts) lv st sh M = some (ps, .inl (pc', lv', st', sh', M'))) (hps : zall ps) (hH : zH G sh M H) (hS : va_S (fun q => G.2.1 ≤ q) s.heap H locs) (hl : lv_has ls (zmx y) (zlm G lv)) (hcap : cells + sh'.length ≤ R.cells + sh.length) (hcap2 : slots + zsl sh' ≤ R.slots + zsl sh) (K : zKk p l e R s m args below meth c cells slots Q G y sh (pc', lv', st', sh', M')) : W p l e R s m args below meth c H locs cells slots Q (F0 m pc ls (st.map (ztr G))) := by
  obtain ⟨hx, hb, hml, hown, hts, hK, hX, hbb, hbs, hini, hfr, hlo⟩ := F
  have hlen : len = 3 := zbeq.mp hlen
  subst hlen
  simp only [zspec, Bool.and_eq_true] at hsp
  obtain ⟨hc, hN⟩ := hsp
  obtain ⟨r0, hc0, hlk⟩ := zC_of hc
  rw [hc0] at hN
  have hN := zbeq.mp hN
  subst hN
  change some (([∀ j, M (sh.length + 1) j = 0] : List Prop), (Sum.inl (pc + 3, lv, .ref (sh.length + 1) :: st, sh ++ [(a + 3, r0.2.2, zdf a)], M) : zO)) = _ at hs
  cases hs
  have hz : zsl (sh ++ [(a + 3, r0.2.2, zdf a)]) = zsl sh + r0.2.2 := by simp [zsl]
  have hz2 : (sh ++ [(a + 3, r0.2.2, zdf a)]).length = sh.length + 1 := by simp
  refine zr_new hx hb hts hown (hts _ (zg hlk rfl)) hK.1 hH.2 hS hc0 (by rw [hz2] at hcap; omega) (by rw [hz] at hcap2; omega) hH.1 hd fun H1 hP1 z1 hS1 => ?_
  refine K H1 locs ls (cells + 1) (slots + r0.2.2) (by rw [hz2]; omega) (by rw [hz]; omega) ⟨by rw [hz2, z1]; omega, ?_⟩ hS1 hl
  rw [zws_push]
  have e1 : zcell G sh.length (a + 3, r0.2.2, zdf a) (M (sh.length + 1)) = .inr (a, zdf a) := by
    show Sum.inr (a, (zdf a).mapIdx (fun j v => zfv G (M (sh.length + 1) j) v)) = _
    congr 2
    have h0 := hps.1
    apply List.ext_getElem?
    intro j
    rw [List.getElem?_mapIdx]
    cases hj : (zdf a)[j]? with
    | none => rfl
    | some v =>
      have hv : v = .int 0 ∨ v = .null := zdf_v hj
      rcases hv with rfl | rfl
      · show some (Value.int (M (sh.length + 1) j)) = _
        rw [h0 j]
      · rfl
  rw [e1]
  exact hP1
set_option maxHeartbeats 2000000 in
theorem zo_newarray {n : ArrayType} (F : zFr p R s m args meth c S G y) (hd : decode (zmb y) pc = .ok (.newarray n, len)) (hlen : zlen (.newarray n) len = true) (hsp : zspec y (pc, .newarray n, len, v, a, b, k, [], ts) = true) (hs : zstep S (pc, .newarray n, len, v, a, b, k, [], ts) lv st sh M = some (ps, .inl (pc', lv', st', sh', M'))) (hps : zall ps) (hH : zH G sh M H) (hS : va_S (fun q => G.2.1 ≤ q) s.heap H locs) (hl : lv_has ls (zmx y) (zlm G lv)) (hcap : cells + sh'.length ≤ R.cells + sh.length) (hcap2 : slots + zsl sh' ≤ R.slots + zsl sh) (K : zKk p l e R s m args below meth c cells slots Q G y sh (pc', lv', st', sh', M')) : W p l e R s m args below meth c H locs cells slots Q (F0 m pc ls (st.map (ztr G))) := by
  obtain ⟨hx, hb, hml, hown, hts, hK, hX, hbb, hbs, hini, hfr, hlo⟩ := F
  have hlen : len = 2 := zbeq.mp hlen
  subst hlen
  rcases st with _ | ⟨x | x | x | x | _ | x | x, st⟩
  all_goals first | exact absurd (show (none : zRr) = some _ from hs) nofun | skip
  change some (([¬ x < 0, x.toNatClampNeg ≤ 100000, ∀ j, M (sh.length + 1) j = 0] : List Prop), (Sum.inl (pc + 2, lv, .ref (sh.length + 1) :: st, sh ++ [(a, x.toNatClampNeg, [])], M) : zO)) = _ at hs
  cases hs
  have hz : zsl (sh ++ [(a, x.toNatClampNeg, [])]) = zsl sh + x.toNatClampNeg := by simp [zsl]
  have hz2 : (sh ++ [(a, x.toNatClampNeg, ([] : List Value))]).length = sh.length + 1 := by simp
  have h0 : M (sh.length + 1) = fun _ => 0 := funext hps.2.2.1
  rcases n with _ | _ | _ | _ | _ | _ | _ | _ <;> rcases a with _ | _ | a
  all_goals first | exact absurd (show false = true from hsp) nofun | skip
  · refine zr_newa hx hb (ty := .boolean) rfl (hts _ (zg zarrZ rfl)) (hK.1.2 1 _ rfl).2 rfl (by decide) hH.2 hS hps.1 hps.2.1 (by rw [hz2] at hcap; omega) (by rw [hz] at hcap2; omega) hH.1 hd fun H1 hP1 z1 hS1 => ?_
    refine K H1 locs ls (cells + 1) (slots + x.toNatClampNeg) (by rw [hz2]; omega) (by rw [hz]; omega) ⟨by rw [hz2, z1]; omega, ?_⟩ hS1 hl
    rw [zws_push, h0]
    exact hP1
  · refine zr_newa hx hb (ty := .int) rfl (hts _ (zg zarrI rfl)) (hK.1.2 0 _ rfl).2 rfl (by decide) hH.2 hS hps.1 hps.2.1 (by rw [hz2] at hcap; omega) (by rw [hz] at hcap2; omega) hH.1 hd fun H1 hP1 z1 hS1 => ?_
    refine K H1 locs ls (cells + 1) (slots + x.toNatClampNeg) (by rw [hz2]; omega) (by rw [hz]; omega) ⟨by rw [hz2, z1]; omega, ?_⟩ hS1 hl
    rw [zws_push, h0]
    exact hP1
set_option maxHeartbeats 2000000 in
theorem zo_anewarray {n : Nat} (F : zFr p R s m args meth c S G y) (hd : decode (zmb y) pc = .ok (.anewarray n, len)) (hlen : zlen (.anewarray n) len = true) (hsp : zspec y (pc, .anewarray n, len, v, a, b, k, [], ts) = true) (hs : zstep S (pc, .anewarray n, len, v, a, b, k, [], ts) lv st sh M = some (ps, .inl (pc', lv', st', sh', M'))) (hps : zall ps) (hH : zH G sh M H) (hS : va_S (fun q => G.2.1 ≤ q) s.heap H locs) (hl : lv_has ls (zmx y) (zlm G lv)) (hcap : cells + sh'.length ≤ R.cells + sh.length) (hcap2 : slots + zsl sh' ≤ R.slots + zsl sh) (K : zKk p l e R s m args below meth c cells slots Q G y sh (pc', lv', st', sh', M')) : W p l e R s m args below meth c H locs cells slots Q (F0 m pc ls (st.map (ztr G))) := by
  obtain ⟨hx, hb, hml, hown, hts, hK, hX, hbb, hbs, hini, hfr, hlo⟩ := F
  have hlen : len = 3 := zbeq.mp hlen
  subst hlen
  simp only [zspec, Bool.and_eq_true] at hsp
  obtain ⟨hc, hN⟩ := hsp
  have hN := zbeq.mp hN
  subst hN
  obtain ⟨r0, hc0, hlk⟩ := zC_of hc
  have : r0 = (zR6, zT6, 4) := (Option.some.inj hc0).symm
  subst this
  rcases st with _ | ⟨x | x | x | x | _ | x | x, st⟩
  all_goals first | exact absurd (show (none : zRr) = some _ from hs) nofun | skip
  change some (([¬ x < 0, x.toNatClampNeg ≤ 100000] : List Prop), (Sum.inl (pc + 3, lv, .ref (sh.length + 1) :: st, sh ++ [(2, x.toNatClampNeg, List.replicate x.toNatClampNeg .null)], M) : zO)) = _ at hs
  cases hs
  have hz : zsl (sh ++ [(2, x.toNatClampNeg, List.replicate x.toNatClampNeg .null)]) = zsl sh + x.toNatClampNeg := by simp [zsl]
  have hz2 : (sh ++ [(2, x.toNatClampNeg, List.replicate x.toNatClampNeg Value.null)]).length = sh.length + 1 := by simp
  obtain ⟨kA, comp, k1, k2, k3, k4⟩ := (hK.1.2 2 _ rfl).2
  refine zr_anew hx hb hown (hts _ (zg hlk rfl)) hK.2.2 k4 hH.2 hS hps.1 hps.2.1 (by rw [hz2] at hcap; omega) (by rw [hz] at hcap2; omega) hH.1 hd fun H1 hP1 z1 hS1 => ?_
  refine K H1 locs ls (cells + 1) (slots + x.toNatClampNeg) (by rw [hz2]; omega) (by rw [hz]; omega) ⟨by rw [hz2, z1]; omega, ?_⟩ hS1 hl
  rw [zws_push]
  have e1 : (fun j => zrf G ((List.replicate x.toNatClampNeg Value.null).getD j .null)) = fun _ => none := by
    funext j
    have : (List.replicate x.toNatClampNeg Value.null).getD j .null = .null := by
      rw [List.getD_eq_getElem?_getD, List.getElem?_replicate]
      split <;> rfl
    rw [this]
    rfl
  show va_P _ _ (zws G sh M ++ [(G.2.1 + sh.length, .inl (G.2.2.2.2.2, x.toNatClampNeg, .inr (.inr (.inr (.inr (fun j => zrf G ((List.replicate x.toNatClampNeg Value.null).getD j .null)))))))]) H1
  rw [e1]
  exact hP1
end ZTwo
