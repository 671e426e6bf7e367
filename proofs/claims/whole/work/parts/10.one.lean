/-- what a frame of method y stands on -/
def zFr (p : Program) (R : Room) (s : State) (m : MethodId) (args : Array Value) (meth : Method) (c : Code) (S : zSc) (G : zG) (y : Nat) : Prop :=
  p.tables.exec = Jvm.exec ∧ c.code = zmb y ∧ c.maxLocals = zmx y ∧ s.vm.findClass (zown (zmo y)) = some m.cls ∧ (∀ w ∈ lw_g, w.before args s = true) ∧ zK G s ∧ va_X G.1 S.1 S.2 s s.heap ∧ G.1 < G.2.1 ∧ G.2.1 ≤ s.heap.size ∧ (zini y = true → meth.name = "<init>") ∧ zfr y ≤ R.frames ∧ zlo y ≤ R.locals
/-- a continuation behind a step -/
def zKk (p : Program) (l : Launch) (e : Env) (R : Room) (s : State) (m : MethodId) (args : Array Value) (below : List Frame) (meth : Method) (c : Code) (cells slots : Nat) (Q : State → Prop) (G : zG) (y : Nat) (sh : List zS) (t : zC) : Prop := match t with
  | (pc', lv', st', sh', M') => ∀ (H' : Heap) (locs' : List Loc) (ls' : Array Slot) (cells' slots' : Nat), cells' + sh.length = cells + sh'.length → slots' + zsl sh = slots + zsl sh' → zH G sh' M' H' → va_S (fun q => G.2.1 ≤ q) s.heap H' locs' → lv_has ls' (zmx y) (zlm G lv') → W p l e R s m args below meth c H' locs' cells' slots' Q (F0 m pc' ls' (st'.map (ztr G)))

section ZOne
variable {p : Program} {l : Launch} {e : Env} {R : Room} {s : State} {m : MethodId} {args : Array Value} {below : List Frame} {meth : Method} {c : Code} {H : Heap} {locs : List Loc} {cells slots : Nat} {Q : State → Prop}
variable {S : zSc} {G : zG} {y : Nat} {ls : Array Slot} {pc pc' len a b k : Nat} {v : Value} {ts : List Nat} {lv lv' : zL} {st st' : List Value} {sh sh' : List zS} {M M' : zM} {ps : List Prop}

set_option maxHeartbeats 2000000 in
theorem zo_iconst {n : Int} (F : zFr p R s m args meth c S G y) (hd : decode (zmb y) pc = .ok (.iconst n, len)) (hlen : zlen (.iconst n) len = true) (hsp : zspec y (pc, .iconst n, len, v, a, b, k, [], ts) = true) (hs : zstep S (pc, .iconst n, len, v, a, b, k, [], ts) lv st sh M = some (ps, .inl (pc', lv', st', sh', M'))) (hps : zall ps) (hH : zH G sh M H) (hS : va_S (fun q => G.2.1 ≤ q) s.heap H locs) (hl : lv_has ls (zmx y) (zlm G lv)) (hcap : cells + sh'.length ≤ R.cells + sh.length) (hcap2 : slots + zsl sh' ≤ R.slots + zsl sh) (K : zKk p l e R s m args below meth c cells slots Q G y sh (pc', lv', st', sh', M')) : W p l e R s m args below meth c H locs cells slots Q (F0 m pc ls (st.map (ztr G))) := by
  obtain ⟨hx, hb, hml, hown, hts, hK, hX, hbb, hbs, hini, hfr, hlo⟩ := F
  have hlen : len = 1 := zbeq.mp hlen
  subst hlen
  have hv := of_decide_eq_true hsp
  subst hv
  change some (([] : List Prop), (Sum.inl (pc + 1, lv, _ :: st, sh, M) : zO)) = _ at hs
  cases hs
  exact lv_iconst hx hb hd rfl (K H locs ls cells slots rfl rfl hH hS hl)
set_option maxHeartbeats 2000000 in
theorem zo_bipush {n : Int} (F : zFr p R s m args meth c S G y) (hd : decode (zmb y) pc = .ok (.bipush n, len)) (hlen : zlen (.bipush n) len = true) (hsp : zspec y (pc, .bipush n, len, v, a, b, k, [], ts) = true) (hs : zstep S (pc, .bipush n, len, v, a, b, k, [], ts) lv st sh M = some (ps, .inl (pc', lv', st', sh', M'))) (hps : zall ps) (hH : zH G sh M H) (hS : va_S (fun q => G.2.1 ≤ q) s.heap H locs) (hl : lv_has ls (zmx y) (zlm G lv)) (hcap : cells + sh'.length ≤ R.cells + sh.length) (hcap2 : slots + zsl sh' ≤ R.slots + zsl sh) (K : zKk p l e R s m args below meth c cells slots Q G y sh (pc', lv', st', sh', M')) : W p l e R s m args below meth c H locs cells slots Q (F0 m pc ls (st.map (ztr G))) := by
  obtain ⟨hx, hb, hml, hown, hts, hK, hX, hbb, hbs, hini, hfr, hlo⟩ := F
  have hlen : len = 2 := zbeq.mp hlen
  subst hlen
  have hv := of_decide_eq_true hsp
  subst hv
  change some (([] : List Prop), (Sum.inl (pc + 2, lv, _ :: st, sh, M) : zO)) = _ at hs
  cases hs
  exact lv_bipush hx hb hd rfl (K H locs ls cells slots rfl rfl hH hS hl)
set_option maxHeartbeats 2000000 in
theorem zo_sipush {n : Int} (F : zFr p R s m args meth c S G y) (hd : decode (zmb y) pc = .ok (.sipush n, len)) (hlen : zlen (.sipush n) len = true) (hsp : zspec y (pc, .sipush n, len, v, a, b, k, [], ts) = true) (hs : zstep S (pc, .sipush n, len, v, a, b, k, [], ts) lv st sh M = some (ps, .inl (pc', lv', st', sh', M'))) (hps : zall ps) (hH : zH G sh M H) (hS : va_S (fun q => G.2.1 ≤ q) s.heap H locs) (hl : lv_has ls (zmx y) (zlm G lv)) (hcap : cells + sh'.length ≤ R.cells + sh.length) (hcap2 : slots + zsl sh' ≤ R.slots + zsl sh) (K : zKk p l e R s m args below meth c cells slots Q G y sh (pc', lv', st', sh', M')) : W p l e R s m args below meth c H locs cells slots Q (F0 m pc ls (st.map (ztr G))) := by
  obtain ⟨hx, hb, hml, hown, hts, hK, hX, hbb, hbs, hini, hfr, hlo⟩ := F
  have hlen : len = 3 := zbeq.mp hlen
  subst hlen
  have hv := of_decide_eq_true hsp
  subst hv
  change some (([] : List Prop), (Sum.inl (pc + 3, lv, _ :: st, sh, M) : zO)) = _ at hs
  cases hs
  exact lv_sipush hx hb hd rfl (K H locs ls cells slots rfl rfl hH hS hl)
set_option maxHeartbeats 2000000 in
theorem zo_lconst {n : Fin 2} (F : zFr p R s m args meth c S G y) (hd : decode (zmb y) pc = .ok (.lconst n, len)) (hlen : zlen (.lconst n) len = true) (hsp : zspec y (pc, .lconst n, len, v, a, b, k, [], ts) = true) (hs : zstep S (pc, .lconst n, len, v, a, b, k, [], ts) lv st sh M = some (ps, .inl (pc', lv', st', sh', M'))) (hps : zall ps) (hH : zH G sh M H) (hS : va_S (fun q => G.2.1 ≤ q) s.heap H locs) (hl : lv_has ls (zmx y) (zlm G lv)) (hcap : cells + sh'.length ≤ R.cells + sh.length) (hcap2 : slots + zsl sh' ≤ R.slots + zsl sh) (K : zKk p l e R s m args below meth c cells slots Q G y sh (pc', lv', st', sh', M')) : W p l e R s m args below meth c H locs cells slots Q (F0 m pc ls (st.map (ztr G))) := by
  obtain ⟨hx, hb, hml, hown, hts, hK, hX, hbb, hbs, hini, hfr, hlo⟩ := F
  have hlen : len = 1 := zbeq.mp hlen
  subst hlen
  have hv := of_decide_eq_true hsp
  subst hv
  change some (([] : List Prop), (Sum.inl (pc + 1, lv, _ :: st, sh, M) : zO)) = _ at hs
  cases hs
  exact lv_lconst hx hb hd rfl (K H locs ls cells slots rfl rfl hH hS hl)
set_option maxHeartbeats 2000000 in
theorem zo_ldc_w {n : Nat} (F : zFr p R s m args meth c S G y) (hd : decode (zmb y) pc = .ok (.ldc_w n, len)) (hlen : zlen (.ldc_w n) len = true) (hsp : zspec y (pc, .ldc_w n, len, v, a, b, k, [], ts) = true) (hs : zstep S (pc, .ldc_w n, len, v, a, b, k, [], ts) lv st sh M = some (ps, .inl (pc', lv', st', sh', M'))) (hps : zall ps) (hH : zH G sh M H) (hS : va_S (fun q => G.2.1 ≤ q) s.heap H locs) (hl : lv_has ls (zmx y) (zlm G lv)) (hcap : cells + sh'.length ≤ R.cells + sh.length) (hcap2 : slots + zsl sh' ≤ R.slots + zsl sh) (K : zKk p l e R s m args below meth c cells slots Q G y sh (pc', lv', st', sh', M')) : W p l e R s m args below meth c H locs cells slots Q (F0 m pc ls (st.map (ztr G))) := by
  obtain ⟨hx, hb, hml, hown, hts, hK, hX, hbb, hbs, hini, hfr, hlo⟩ := F
  have hlen : len = 3 := zbeq.mp hlen
  subst hlen
  obtain ⟨q, hq, hb2⟩ := List.any_eq_true.mp hsp
  simp only [Bool.and_eq_true, zbeq] at hb2
  obtain ⟨⟨h1, h2⟩, h3⟩ := hb2
  have hv := of_decide_eq_true h3
  subst hv
  have hw := zg (zat_mem (List.all_eq_true.mp zKI_ok q hq)) rfl
  rw [h1, h2] at hw
  change some (([] : List Prop), (Sum.inl (pc + 3, lv, _ :: st, sh, M) : zO)) = _ at hs
  cases hs
  exact lv_ldcw hx hb hown (hts _ hw) hd (K H locs ls cells slots rfl rfl hH hS hl)
set_option maxHeartbeats 2000000 in
theorem zo_ldc2_w {n : Nat} (F : zFr p R s m args meth c S G y) (hd : decode (zmb y) pc = .ok (.ldc2_w n, len)) (hlen : zlen (.ldc2_w n) len = true) (hsp : zspec y (pc, .ldc2_w n, len, v, a, b, k, [], ts) = true) (hs : zstep S (pc, .ldc2_w n, len, v, a, b, k, [], ts) lv st sh M = some (ps, .inl (pc', lv', st', sh', M'))) (hps : zall ps) (hH : zH G sh M H) (hS : va_S (fun q => G.2.1 ≤ q) s.heap H locs) (hl : lv_has ls (zmx y) (zlm G lv)) (hcap : cells + sh'.length ≤ R.cells + sh.length) (hcap2 : slots + zsl sh' ≤ R.slots + zsl sh) (K : zKk p l e R s m args below meth c cells slots Q G y sh (pc', lv', st', sh', M')) : W p l e R s m args below meth c H locs cells slots Q (F0 m pc ls (st.map (ztr G))) := by
  obtain ⟨hx, hb, hml, hown, hts, hK, hX, hbb, hbs, hini, hfr, hlo⟩ := F
  have hlen : len = 3 := zbeq.mp hlen
  subst hlen
  obtain ⟨q, hq, hb2⟩ := List.any_eq_true.mp hsp
  simp only [Bool.and_eq_true, zbeq] at hb2
  obtain ⟨⟨h1, h2⟩, h3⟩ := hb2
  have hv := of_decide_eq_true h3
  subst hv
  have hw := zg (zat_mem (List.all_eq_true.mp zKL_ok q hq)) rfl
  rw [h1, h2] at hw
  change some (([] : List Prop), (Sum.inl (pc + 3, lv, _ :: st, sh, M) : zO)) = _ at hs
  cases hs
  exact lv_ldc2 hx hb hown (hts _ hw) hd (K H locs ls cells slots rfl rfl hH hS hl)
set_option maxHeartbeats 2000000 in
theorem zo_iload_n {i : Fin 4} (F : zFr p R s m args meth c S G y) (hd : decode (zmb y) pc = .ok (.iload_n i, len)) (hlen : zlen (.iload_n i) len = true) (hsp : zspec y (pc, .iload_n i, len, v, a, b, k, [], ts) = true) (hs : zstep S (pc, .iload_n i, len, v, a, b, k, [], ts) lv st sh M = some (ps, .inl (pc', lv', st', sh', M'))) (hps : zall ps) (hH : zH G sh M H) (hS : va_S (fun q => G.2.1 ≤ q) s.heap H locs) (hl : lv_has ls (zmx y) (zlm G lv)) (hcap : cells + sh'.length ≤ R.cells + sh.length) (hcap2 : slots + zsl sh' ≤ R.slots + zsl sh) (K : zKk p l e R s m args below meth c cells slots Q G y sh (pc', lv', st', sh', M')) : W p l e R s m args below meth c H locs cells slots Q (F0 m pc ls (st.map (ztr G))) := by
  obtain ⟨hx, hb, hml, hown, hts, hK, hX, hbb, hbs, hini, hfr, hlo⟩ := F
  have hlen : len = 1 := zbeq.mp hlen
  subst hlen
  change zld i.val (pc + 1) lv st sh M 0 = _ at hs
  unfold zld at hs
  cases hg : zget i.val lv with
  | none => rw [hg] at hs; exact absurd (show (none : zRr) = some _ from hs) nofun
  | some x0 =>
    rw [hg] at hs
    rcases x0 with x | x | x | x | _ | x | x
    all_goals first | exact absurd (show (none : zRr) = some _ from hs) nofun | skip
    change some (([] : List Prop), (Sum.inl (pc + 1, lv, .int x :: st, sh, M) : zO)) = _ at hs
    cases hs
    exact lv_iload_n hx hb hd rfl (zlv_at hl hg) (K H locs ls cells slots rfl rfl hH hS hl)
set_option maxHeartbeats 2000000 in
theorem zo_iload {i : Nat} (F : zFr p R s m args meth c S G y) (hd : decode (zmb y) pc = .ok (.iload i, len)) (hlen : zlen (.iload i) len = true) (hsp : zspec y (pc, .iload i, len, v, a, b, k, [], ts) = true) (hs : zstep S (pc, .iload i, len, v, a, b, k, [], ts) lv st sh M = some (ps, .inl (pc', lv', st', sh', M'))) (hps : zall ps) (hH : zH G sh M H) (hS : va_S (fun q => G.2.1 ≤ q) s.heap H locs) (hl : lv_has ls (zmx y) (zlm G lv)) (hcap : cells + sh'.length ≤ R.cells + sh.length) (hcap2 : slots + zsl sh' ≤ R.slots + zsl sh) (K : zKk p l e R s m args below meth c cells slots Q G y sh (pc', lv', st', sh', M')) : W p l e R s m args below meth c H locs cells slots Q (F0 m pc ls (st.map (ztr G))) := by
  obtain ⟨hx, hb, hml, hown, hts, hK, hX, hbb, hbs, hini, hfr, hlo⟩ := F
  have hlen : len = 2 := zbeq.mp hlen
  subst hlen
  change zld i (pc + 2) lv st sh M 0 = _ at hs
  unfold zld at hs
  cases hg : zget i lv with
  | none => rw [hg] at hs; exact absurd (show (none : zRr) = some _ from hs) nofun
  | some x0 =>
    rw [hg] at hs
    rcases x0 with x | x | x | x | _ | x | x
    all_goals first | exact absurd (show (none : zRr) = some _ from hs) nofun | skip
    change some (([] : List Prop), (Sum.inl (pc + 2, lv, .int x :: st, sh, M) : zO)) = _ at hs
    cases hs
    exact lv_iload hx hb hd (zlv_at hl hg) (K H locs ls cells slots rfl rfl hH hS hl)
set_option maxHeartbeats 2000000 in
theorem zo_lload_n {i : Fin 4} (F : zFr p R s m args meth c S G y) (hd : decode (zmb y) pc = .ok (.lload_n i, len)) (hlen : zlen (.lload_n i) len = true) (hsp : zspec y (pc, .lload_n i, len, v, a, b, k, [], ts) = true) (hs : zstep S (pc, .lload_n i, len, v, a, b, k, [], ts) lv st sh M = some (ps, .inl (pc', lv', st', sh', M'))) (hps : zall ps) (hH : zH G sh M H) (hS : va_S (fun q => G.2.1 ≤ q) s.heap H locs) (hl : lv_has ls (zmx y) (zlm G lv)) (hcap : cells + sh'.length ≤ R.cells + sh.length) (hcap2 : slots + zsl sh' ≤ R.slots + zsl sh) (K : zKk p l e R s m args below meth c cells slots Q G y sh (pc', lv', st', sh', M')) : W p l e R s m args below meth c H locs cells slots Q (F0 m pc ls (st.map (ztr G))) := by
  obtain ⟨hx, hb, hml, hown, hts, hK, hX, hbb, hbs, hini, hfr, hlo⟩ := F
  have hlen : len = 1 := zbeq.mp hlen
  subst hlen
  change zld i.val (pc + 1) lv st sh M 1 = _ at hs
  unfold zld at hs
  cases hg : zget i.val lv with
  | none => rw [hg] at hs; exact absurd (show (none : zRr) = some _ from hs) nofun
  | some x0 =>
    rw [hg] at hs
    rcases x0 with x | x | x | x | _ | x | x
    all_goals first | exact absurd (show (none : zRr) = some _ from hs) nofun | skip
    change some (([] : List Prop), (Sum.inl (pc + 1, lv, .long x :: st, sh, M) : zO)) = _ at hs
    cases hs
    exact lv_lload_n hx hb hd rfl (zlv_at hl hg) (K H locs ls cells slots rfl rfl hH hS hl)
set_option maxHeartbeats 2000000 in
theorem zo_lload {i : Nat} (F : zFr p R s m args meth c S G y) (hd : decode (zmb y) pc = .ok (.lload i, len)) (hlen : zlen (.lload i) len = true) (hsp : zspec y (pc, .lload i, len, v, a, b, k, [], ts) = true) (hs : zstep S (pc, .lload i, len, v, a, b, k, [], ts) lv st sh M = some (ps, .inl (pc', lv', st', sh', M'))) (hps : zall ps) (hH : zH G sh M H) (hS : va_S (fun q => G.2.1 ≤ q) s.heap H locs) (hl : lv_has ls (zmx y) (zlm G lv)) (hcap : cells + sh'.length ≤ R.cells + sh.length) (hcap2 : slots + zsl sh' ≤ R.slots + zsl sh) (K : zKk p l e R s m args below meth c cells slots Q G y sh (pc', lv', st', sh', M')) : W p l e R s m args below meth c H locs cells slots Q (F0 m pc ls (st.map (ztr G))) := by
  obtain ⟨hx, hb, hml, hown, hts, hK, hX, hbb, hbs, hini, hfr, hlo⟩ := F
  have hlen : len = 2 := zbeq.mp hlen
  subst hlen
  change zld i (pc + 2) lv st sh M 1 = _ at hs
  unfold zld at hs
  cases hg : zget i lv with
  | none => rw [hg] at hs; exact absurd (show (none : zRr) = some _ from hs) nofun
  | some x0 =>
    rw [hg] at hs
    rcases x0 with x | x | x | x | _ | x | x
    all_goals first | exact absurd (show (none : zRr) = some _ from hs) nofun | skip
    change some (([] : List Prop), (Sum.inl (pc + 2, lv, .long x :: st, sh, M) : zO)) = _ at hs
    cases hs
    exact lv_lload hx hb hd (zlv_at hl hg) (K H locs ls cells slots rfl rfl hH hS hl)
set_option maxHeartbeats 2000000 in
theorem zo_aload_n {i : Fin 4} (F : zFr p R s m args meth c S G y) (hd : decode (zmb y) pc = .ok (.aload_n i, len)) (hlen : zlen (.aload_n i) len = true) (hsp : zspec y (pc, .aload_n i, len, v, a, b, k, [], ts) = true) (hs : zstep S (pc, .aload_n i, len, v, a, b, k, [], ts) lv st sh M = some (ps, .inl (pc', lv', st', sh', M'))) (hps : zall ps) (hH : zH G sh M H) (hS : va_S (fun q => G.2.1 ≤ q) s.heap H locs) (hl : lv_has ls (zmx y) (zlm G lv)) (hcap : cells + sh'.length ≤ R.cells + sh.length) (hcap2 : slots + zsl sh' ≤ R.slots + zsl sh) (K : zKk p l e R s m args below meth c cells slots Q G y sh (pc', lv', st', sh', M')) : W p l e R s m args below meth c H locs cells slots Q (F0 m pc ls (st.map (ztr G))) := by
  obtain ⟨hx, hb, hml, hown, hts, hK, hX, hbb, hbs, hini, hfr, hlo⟩ := F
  have hlen : len = 1 := zbeq.mp hlen
  subst hlen
  change zld i.val (pc + 1) lv st sh M 2 = _ at hs
  unfold zld at hs
  cases hg : zget i.val lv with
  | none => rw [hg] at hs; exact absurd (show (none : zRr) = some _ from hs) nofun
  | some x0 =>
    rw [hg] at hs
    rcases x0 with x | x | x | x | _ | x | x
    all_goals first | exact absurd (show (none : zRr) = some _ from hs) nofun | skip
    change some (([] : List Prop), (Sum.inl (pc + 1, lv, .ref x :: st, sh, M) : zO)) = _ at hs
    cases hs
    exact lv_aload_n hx hb hd rfl (zlv_at hl hg) (K H locs ls cells slots rfl rfl hH hS hl)
set_option maxHeartbeats 2000000 in
theorem zo_istore_n {i : Fin 4} (F : zFr p R s m args meth c S G y) (hd : decode (zmb y) pc = .ok (.istore_n i, len)) (hlen : zlen (.istore_n i) len = true) (hsp : zspec y (pc, .istore_n i, len, v, a, b, k, [], ts) = true) (hs : zstep S (pc, .istore_n i, len, v, a, b, k, [], ts) lv st sh M = some (ps, .inl (pc', lv', st', sh', M'))) (hps : zall ps) (hH : zH G sh M H) (hS : va_S (fun q => G.2.1 ≤ q) s.heap H locs) (hl : lv_has ls (zmx y) (zlm G lv)) (hcap : cells + sh'.length ≤ R.cells + sh.length) (hcap2 : slots + zsl sh' ≤ R.slots + zsl sh) (K : zKk p l e R s m args below meth c cells slots Q G y sh (pc', lv', st', sh', M')) : W p l e R s m args below meth c H locs cells slots Q (F0 m pc ls (st.map (ztr G))) := by
  obtain ⟨hx, hb, hml, hown, hts, hK, hX, hbb, hbs, hini, hfr, hlo⟩ := F
  have hlen : len = 1 := zbeq.mp hlen
  subst hlen
  have hi := zblt.mp hsp
  rcases st with _ | ⟨x | x | x | x | _ | x | x, st⟩
  all_goals first | exact absurd (show (none : zRr) = some _ from hs) nofun | skip
  change some (([] : List Prop), (Sum.inl (pc + 1, zput1 i.val (.int x) lv, st, sh, M) : zO)) = _ at hs
  cases hs
  refine lv_istore_n hx hb hd rfl hl hi (zput1_lm G i.val (.int x) lv) (fun ls' hl' => ?_)
  exact K H locs ls' cells slots rfl rfl hH hS hl'
set_option maxHeartbeats 2000000 in
theorem zo_istore {i : Nat} (F : zFr p R s m args meth c S G y) (hd : decode (zmb y) pc = .ok (.istore i, len)) (hlen : zlen (.istore i) len = true) (hsp : zspec y (pc, .istore i, len, v, a, b, k, [], ts) = true) (hs : zstep S (pc, .istore i, len, v, a, b, k, [], ts) lv st sh M = some (ps, .inl (pc', lv', st', sh', M'))) (hps : zall ps) (hH : zH G sh M H) (hS : va_S (fun q => G.2.1 ≤ q) s.heap H locs) (hl : lv_has ls (zmx y) (zlm G lv)) (hcap : cells + sh'.length ≤ R.cells + sh.length) (hcap2 : slots + zsl sh' ≤ R.slots + zsl sh) (K : zKk p l e R s m args below meth c cells slots Q G y sh (pc', lv', st', sh', M')) : W p l e R s m args below meth c H locs cells slots Q (F0 m pc ls (st.map (ztr G))) := by
  obtain ⟨hx, hb, hml, hown, hts, hK, hX, hbb, hbs, hini, hfr, hlo⟩ := F
  have hlen : len = 2 := zbeq.mp hlen
  subst hlen
  have hi := zblt.mp hsp
  rcases st with _ | ⟨x | x | x | x | _ | x | x, st⟩
  all_goals first | exact absurd (show (none : zRr) = some _ from hs) nofun | skip
  change some (([] : List Prop), (Sum.inl (pc + 2, zput1 i (.int x) lv, st, sh, M) : zO)) = _ at hs
  cases hs
  refine lv_istore hx hb hd hl hi (zput1_lm G i (.int x) lv) (fun ls' hl' => ?_)
  exact K H locs ls' cells slots rfl rfl hH hS hl'
set_option maxHeartbeats 2000000 in
theorem zo_lstore_n {i : Fin 4} (F : zFr p R s m args meth c S G y) (hd : decode (zmb y) pc = .ok (.lstore_n i, len)) (hlen : zlen (.lstore_n i) len = true) (hsp : zspec y (pc, .lstore_n i, len, v, a, b, k, [], ts) = true) (hs : zstep S (pc, .lstore_n i, len, v, a, b, k, [], ts) lv st sh M = some (ps, .inl (pc', lv', st', sh', M'))) (hps : zall ps) (hH : zH G sh M H) (hS : va_S (fun q => G.2.1 ≤ q) s.heap H locs) (hl : lv_has ls (zmx y) (zlm G lv)) (hcap : cells + sh'.length ≤ R.cells + sh.length) (hcap2 : slots + zsl sh' ≤ R.slots + zsl sh) (K : zKk p l e R s m args below meth c cells slots Q G y sh (pc', lv', st', sh', M')) : W p l e R s m args below meth c H locs cells slots Q (F0 m pc ls (st.map (ztr G))) := by
  obtain ⟨hx, hb, hml, hown, hts, hK, hX, hbb, hbs, hini, hfr, hlo⟩ := F
  have hlen : len = 1 := zbeq.mp hlen
  subst hlen
  have hi := zblt.mp hsp
  rcases st with _ | ⟨x | x | x | x | _ | x | x, st⟩
  all_goals first | exact absurd (show (none : zRr) = some _ from hs) nofun | skip
  change some (([] : List Prop), (Sum.inl (pc + 1, zput2 i.val (.long x) lv, st, sh, M) : zO)) = _ at hs
  cases hs
  refine lv_lstore_n hx hb hd rfl hl hi (zput2_lm G i.val (.long x) lv) (fun ls' hl' => ?_)
  exact K H locs ls' cells slots rfl rfl hH hS hl'
set_option maxHeartbeats 2000000 in
theorem zo_lstore {i : Nat} (F : zFr p R s m args meth c S G y) (hd : decode (zmb y) pc = .ok (.lstore i, len)) (hlen : zlen (.lstore i) len = true) (hsp : zspec y (pc, .lstore i, len, v, a, b, k, [], ts) = true) (hs : zstep S (pc, .lstore i, len, v, a, b, k, [], ts) lv st sh M = some (ps, .inl (pc', lv', st', sh', M'))) (hps : zall ps) (hH : zH G sh M H) (hS : va_S (fun q => G.2.1 ≤ q) s.heap H locs) (hl : lv_has ls (zmx y) (zlm G lv)) (hcap : cells + sh'.length ≤ R.cells + sh.length) (hcap2 : slots + zsl sh' ≤ R.slots + zsl sh) (K : zKk p l e R s m args below meth c cells slots Q G y sh (pc', lv', st', sh', M')) : W p l e R s m args below meth c H locs cells slots Q (F0 m pc ls (st.map (ztr G))) := by
  obtain ⟨hx, hb, hml, hown, hts, hK, hX, hbb, hbs, hini, hfr, hlo⟩ := F
  have hlen : len = 2 := zbeq.mp hlen
  subst hlen
  have hi := zblt.mp hsp
  rcases st with _ | ⟨x | x | x | x | _ | x | x, st⟩
  all_goals first | exact absurd (show (none : zRr) = some _ from hs) nofun | skip
  change some (([] : List Prop), (Sum.inl (pc + 2, zput2 i (.long x) lv, st, sh, M) : zO)) = _ at hs
  cases hs
  refine lv_lstore hx hb hd hl hi (zput2_lm G i (.long x) lv) (fun ls' hl' => ?_)
  exact K H locs ls' cells slots rfl rfl hH hS hl'
set_option maxHeartbeats 2000000 in
theorem zo_astore_n {i : Fin 4} (F : zFr p R s m args meth c S G y) (hd : decode (zmb y) pc = .ok (.astore_n i, len)) (hlen : zlen (.astore_n i) len = true) (hsp : zspec y (pc, .astore_n i, len, v, a, b, k, [], ts) = true) (hs : zstep S (pc, .astore_n i, len, v, a, b, k, [], ts) lv st sh M = some (ps, .inl (pc', lv', st', sh', M'))) (hps : zall ps) (hH : zH G sh M H) (hS : va_S (fun q => G.2.1 ≤ q) s.heap H locs) (hl : lv_has ls (zmx y) (zlm G lv)) (hcap : cells + sh'.length ≤ R.cells + sh.length) (hcap2 : slots + zsl sh' ≤ R.slots + zsl sh) (K : zKk p l e R s m args below meth c cells slots Q G y sh (pc', lv', st', sh', M')) : W p l e R s m args below meth c H locs cells slots Q (F0 m pc ls (st.map (ztr G))) := by
  obtain ⟨hx, hb, hml, hown, hts, hK, hX, hbb, hbs, hini, hfr, hlo⟩ := F
  have hlen : len = 1 := zbeq.mp hlen
  subst hlen
  have hi := zblt.mp hsp
  rcases st with _ | ⟨x | x | x | x | _ | x | x, st⟩
  all_goals first | exact absurd (show (none : zRr) = some _ from hs) nofun | skip
  change some (([] : List Prop), (Sum.inl (pc + 1, zput1 i.val (.ref x) lv, st, sh, M) : zO)) = _ at hs
  cases hs
  refine lv_astore_n hx hb hd rfl hl hi (zput1_lm G i.val (.ref x) lv) (fun ls' hl' => ?_)
  exact K H locs ls' cells slots rfl rfl hH hS hl'
set_option maxHeartbeats 2000000 in
theorem zo_iinc {i : Nat} {n : Int} (F : zFr p R s m args meth c S G y) (hd : decode (zmb y) pc = .ok (.iinc i n, len)) (hlen : zlen (.iinc i n) len = true) (hsp : zspec y (pc, .iinc i n, len, v, a, b, k, [], ts) = true) (hs : zstep S (pc, .iinc i n, len, v, a, b, k, [], ts) lv st sh M = some (ps, .inl (pc', lv', st', sh', M'))) (hps : zall ps) (hH : zH G sh M H) (hS : va_S (fun q => G.2.1 ≤ q) s.heap H locs) (hl : lv_has ls (zmx y) (zlm G lv)) (hcap : cells + sh'.length ≤ R.cells + sh.length) (hcap2 : slots + zsl sh' ≤ R.slots + zsl sh) (K : zKk p l e R s m args below meth c cells slots Q G y sh (pc', lv', st', sh', M')) : W p l e R s m args below meth c H locs cells slots Q (F0 m pc ls (st.map (ztr G))) := by
  obtain ⟨hx, hb, hml, hown, hts, hK, hX, hbb, hbs, hini, hfr, hlo⟩ := F
  have hlen : len = 3 := zbeq.mp hlen
  subst hlen
  have hv := of_decide_eq_true hsp
  subst hv
  cases hg : zget i lv with
  | none => simp [zstep, zpick, hg] at hs
  | some x0 =>
    have hs2 : (match (some x0 : Option Value), (Value.int (Int32.ofInt n)) with
        | some (.int x), .int d => znx (pc + 3) (zput1 i (.int (x + d)) lv) st sh M
        | _, _ => none) = some (ps, .inl (pc', lv', st', sh', M')) := by rw [← hg]; exact hs
    replace hs := hs2
    rcases x0 with x | x | x | x | _ | x | x
    all_goals first | exact absurd (show (none : zRr) = some _ from hs) nofun | skip
    change some (([] : List Prop), (Sum.inl (pc + 3, zput1 i (.int (x + Int32.ofInt n)) lv, st, sh, M) : zO)) = _ at hs
    cases hs
    have hm := zget_lm (G := G) hg
    obtain ⟨kk, hkk⟩ := List.getElem?_of_mem hm
    have hi : i < zmx y := by
      have := zlv_at hl hg
      have h2 := lv_lt this
      rw [hl.1] at h2
      exact h2
    refine lv_iinc hx hb hd hl hkk rfl hi (zput1_lm G i (.int (x + Int32.ofInt n)) lv) (fun ls' hl' => ?_)
    exact K H locs ls' cells slots rfl rfl hH hS hl'
set_option maxHeartbeats 2000000 in
theorem zo_iadd (F : zFr p R s m args meth c S G y) (hd : decode (zmb y) pc = .ok (.iadd, len)) (hlen : zlen (.iadd) len = true) (hsp : zspec y (pc, .iadd, len, v, a, b, k, [], ts) = true) (hs : zstep S (pc, .iadd, len, v, a, b, k, [], ts) lv st sh M = some (ps, .inl (pc', lv', st', sh', M'))) (hps : zall ps) (hH : zH G sh M H) (hS : va_S (fun q => G.2.1 ≤ q) s.heap H locs) (hl : lv_has ls (zmx y) (zlm G lv)) (hcap : cells + sh'.length ≤ R.cells + sh.length) (hcap2 : slots + zsl sh' ≤ R.slots + zsl sh) (K : zKk p l e R s m args below meth c cells slots Q G y sh (pc', lv', st', sh', M')) : W p l e R s m args below meth c H locs cells slots Q (F0 m pc ls (st.map (ztr G))) := by
  obtain ⟨hx, hb, hml, hown, hts, hK, hX, hbb, hbs, hini, hfr, hlo⟩ := F
  have hlen : len = 1 := zbeq.mp hlen
  subst hlen
  rcases st with _ | ⟨w | w | w | w | _ | w | w, _ | ⟨x | x | x | x | _ | x | x, st⟩⟩
  all_goals first | exact absurd (show (none : zRr) = some _ from hs) nofun | skip
  change some (([] : List Prop), (Sum.inl (pc + 1, lv, .int (x + w) :: st, sh, M) : zO)) = _ at hs
  cases hs
  exact lv_iadd hx hb hd (K H locs ls cells slots rfl rfl hH hS hl)
set_option maxHeartbeats 2000000 in
theorem zo_isub (F : zFr p R s m args meth c S G y) (hd : decode (zmb y) pc = .ok (.isub, len)) (hlen : zlen (.isub) len = true) (hsp : zspec y (pc, .isub, len, v, a, b, k, [], ts) = true) (hs : zstep S (pc, .isub, len, v, a, b, k, [], ts) lv st sh M = some (ps, .inl (pc', lv', st', sh', M'))) (hps : zall ps) (hH : zH G sh M H) (hS : va_S (fun q => G.2.1 ≤ q) s.heap H locs) (hl : lv_has ls (zmx y) (zlm G lv)) (hcap : cells + sh'.length ≤ R.cells + sh.length) (hcap2 : slots + zsl sh' ≤ R.slots + zsl sh) (K : zKk p l e R s m args below meth c cells slots Q G y sh (pc', lv', st', sh', M')) : W p l e R s m args below meth c H locs cells slots Q (F0 m pc ls (st.map (ztr G))) := by
  obtain ⟨hx, hb, hml, hown, hts, hK, hX, hbb, hbs, hini, hfr, hlo⟩ := F
  have hlen : len = 1 := zbeq.mp hlen
  subst hlen
  rcases st with _ | ⟨w | w | w | w | _ | w | w, _ | ⟨x | x | x | x | _ | x | x, st⟩⟩
  all_goals first | exact absurd (show (none : zRr) = some _ from hs) nofun | skip
  change some (([] : List Prop), (Sum.inl (pc + 1, lv, .int (x - w) :: st, sh, M) : zO)) = _ at hs
  cases hs
  exact lv_isub hx hb hd (K H locs ls cells slots rfl rfl hH hS hl)
set_option maxHeartbeats 2000000 in
theorem zo_imul (F : zFr p R s m args meth c S G y) (hd : decode (zmb y) pc = .ok (.imul, len)) (hlen : zlen (.imul) len = true) (hsp : zspec y (pc, .imul, len, v, a, b, k, [], ts) = true) (hs : zstep S (pc, .imul, len, v, a, b, k, [], ts) lv st sh M = some (ps, .inl (pc', lv', st', sh', M'))) (hps : zall ps) (hH : zH G sh M H) (hS : va_S (fun q => G.2.1 ≤ q) s.heap H locs) (hl : lv_has ls (zmx y) (zlm G lv)) (hcap : cells + sh'.length ≤ R.cells + sh.length) (hcap2 : slots + zsl sh' ≤ R.slots + zsl sh) (K : zKk p l e R s m args below meth c cells slots Q G y sh (pc', lv', st', sh', M')) : W p l e R s m args below meth c H locs cells slots Q (F0 m pc ls (st.map (ztr G))) := by
  obtain ⟨hx, hb, hml, hown, hts, hK, hX, hbb, hbs, hini, hfr, hlo⟩ := F
  have hlen : len = 1 := zbeq.mp hlen
  subst hlen
  rcases st with _ | ⟨w | w | w | w | _ | w | w, _ | ⟨x | x | x | x | _ | x | x, st⟩⟩
  all_goals first | exact absurd (show (none : zRr) = some _ from hs) nofun | skip
  change some (([] : List Prop), (Sum.inl (pc + 1, lv, .int (x * w) :: st, sh, M) : zO)) = _ at hs
  cases hs
  exact lv_imul hx hb hd (K H locs ls cells slots rfl rfl hH hS hl)
set_option maxHeartbeats 2000000 in
theorem zo_iand (F : zFr p R s m args meth c S G y) (hd : decode (zmb y) pc = .ok (.iand, len)) (hlen : zlen (.iand) len = true) (hsp : zspec y (pc, .iand, len, v, a, b, k, [], ts) = true) (hs : zstep S (pc, .iand, len, v, a, b, k, [], ts) lv st sh M = some (ps, .inl (pc', lv', st', sh', M'))) (hps : zall ps) (hH : zH G sh M H) (hS : va_S (fun q => G.2.1 ≤ q) s.heap H locs) (hl : lv_has ls (zmx y) (zlm G lv)) (hcap : cells + sh'.length ≤ R.cells + sh.length) (hcap2 : slots + zsl sh' ≤ R.slots + zsl sh) (K : zKk p l e R s m args below meth c cells slots Q G y sh (pc', lv', st', sh', M')) : W p l e R s m args below meth c H locs cells slots Q (F0 m pc ls (st.map (ztr G))) := by
  obtain ⟨hx, hb, hml, hown, hts, hK, hX, hbb, hbs, hini, hfr, hlo⟩ := F
  have hlen : len = 1 := zbeq.mp hlen
  subst hlen
  rcases st with _ | ⟨w | w | w | w | _ | w | w, _ | ⟨x | x | x | x | _ | x | x, st⟩⟩
  all_goals first | exact absurd (show (none : zRr) = some _ from hs) nofun | skip
  change some (([] : List Prop), (Sum.inl (pc + 1, lv, .int (x &&& w) :: st, sh, M) : zO)) = _ at hs
  cases hs
  exact lv_iand hx hb hd (K H locs ls cells slots rfl rfl hH hS hl)
set_option maxHeartbeats 2000000 in
theorem zo_ior (F : zFr p R s m args meth c S G y) (hd : decode (zmb y) pc = .ok (.ior, len)) (hlen : zlen (.ior) len = true) (hsp : zspec y (pc, .ior, len, v, a, b, k, [], ts) = true) (hs : zstep S (pc, .ior, len, v, a, b, k, [], ts) lv st sh M = some (ps, .inl (pc', lv', st', sh', M'))) (hps : zall ps) (hH : zH G sh M H) (hS : va_S (fun q => G.2.1 ≤ q) s.heap H locs) (hl : lv_has ls (zmx y) (zlm G lv)) (hcap : cells + sh'.length ≤ R.cells + sh.length) (hcap2 : slots + zsl sh' ≤ R.slots + zsl sh) (K : zKk p l e R s m args below meth c cells slots Q G y sh (pc', lv', st', sh', M')) : W p l e R s m args below meth c H locs cells slots Q (F0 m pc ls (st.map (ztr G))) := by
  obtain ⟨hx, hb, hml, hown, hts, hK, hX, hbb, hbs, hini, hfr, hlo⟩ := F
  have hlen : len = 1 := zbeq.mp hlen
  subst hlen
  rcases st with _ | ⟨w | w | w | w | _ | w | w, _ | ⟨x | x | x | x | _ | x | x, st⟩⟩
  all_goals first | exact absurd (show (none : zRr) = some _ from hs) nofun | skip
  change some (([] : List Prop), (Sum.inl (pc + 1, lv, .int (x ||| w) :: st, sh, M) : zO)) = _ at hs
  cases hs
  exact lv_ior hx hb hd (K H locs ls cells slots rfl rfl hH hS hl)
set_option maxHeartbeats 2000000 in
theorem zo_ishl (F : zFr p R s m args meth c S G y) (hd : decode (zmb y) pc = .ok (.ishl, len)) (hlen : zlen (.ishl) len = true) (hsp : zspec y (pc, .ishl, len, v, a, b, k, [], ts) = true) (hs : zstep S (pc, .ishl, len, v, a, b, k, [], ts) lv st sh M = some (ps, .inl (pc', lv', st', sh', M'))) (hps : zall ps) (hH : zH G sh M H) (hS : va_S (fun q => G.2.1 ≤ q) s.heap H locs) (hl : lv_has ls (zmx y) (zlm G lv)) (hcap : cells + sh'.length ≤ R.cells + sh.length) (hcap2 : slots + zsl sh' ≤ R.slots + zsl sh) (K : zKk p l e R s m args below meth c cells slots Q G y sh (pc', lv', st', sh', M')) : W p l e R s m args below meth c H locs cells slots Q (F0 m pc ls (st.map (ztr G))) := by
  obtain ⟨hx, hb, hml, hown, hts, hK, hX, hbb, hbs, hini, hfr, hlo⟩ := F
  have hlen : len = 1 := zbeq.mp hlen
  subst hlen
  rcases st with _ | ⟨w | w | w | w | _ | w | w, _ | ⟨x | x | x | x | _ | x | x, st⟩⟩
  all_goals first | exact absurd (show (none : zRr) = some _ from hs) nofun | skip
  change some (([] : List Prop), (Sum.inl (pc + 1, lv, .int (x <<< (w &&& 31)) :: st, sh, M) : zO)) = _ at hs
  cases hs
  exact lv_ishl hx hb hd (K H locs ls cells slots rfl rfl hH hS hl)
set_option maxHeartbeats 2000000 in
theorem zo_ishr (F : zFr p R s m args meth c S G y) (hd : decode (zmb y) pc = .ok (.ishr, len)) (hlen : zlen (.ishr) len = true) (hsp : zspec y (pc, .ishr, len, v, a, b, k, [], ts) = true) (hs : zstep S (pc, .ishr, len, v, a, b, k, [], ts) lv st sh M = some (ps, .inl (pc', lv', st', sh', M'))) (hps : zall ps) (hH : zH G sh M H) (hS : va_S (fun q => G.2.1 ≤ q) s.heap H locs) (hl : lv_has ls (zmx y) (zlm G lv)) (hcap : cells + sh'.length ≤ R.cells + sh.length) (hcap2 : slots + zsl sh' ≤ R.slots + zsl sh) (K : zKk p l e R s m args below meth c cells slots Q G y sh (pc', lv', st', sh', M')) : W p l e R s m args below meth c H locs cells slots Q (F0 m pc ls (st.map (ztr G))) := by
  obtain ⟨hx, hb, hml, hown, hts, hK, hX, hbb, hbs, hini, hfr, hlo⟩ := F
  have hlen : len = 1 := zbeq.mp hlen
  subst hlen
  rcases st with _ | ⟨w | w | w | w | _ | w | w, _ | ⟨x | x | x | x | _ | x | x, st⟩⟩
  all_goals first | exact absurd (show (none : zRr) = some _ from hs) nofun | skip
  change some (([] : List Prop), (Sum.inl (pc + 1, lv, .int (x >>> (w &&& 31)) :: st, sh, M) : zO)) = _ at hs
  cases hs
  exact lv_ishr hx hb hd (K H locs ls cells slots rfl rfl hH hS hl)
set_option maxHeartbeats 2000000 in
theorem zo_iushr (F : zFr p R s m args meth c S G y) (hd : decode (zmb y) pc = .ok (.iushr, len)) (hlen : zlen (.iushr) len = true) (hsp : zspec y (pc, .iushr, len, v, a, b, k, [], ts) = true) (hs : zstep S (pc, .iushr, len, v, a, b, k, [], ts) lv st sh M = some (ps, .inl (pc', lv', st', sh', M'))) (hps : zall ps) (hH : zH G sh M H) (hS : va_S (fun q => G.2.1 ≤ q) s.heap H locs) (hl : lv_has ls (zmx y) (zlm G lv)) (hcap : cells + sh'.length ≤ R.cells + sh.length) (hcap2 : slots + zsl sh' ≤ R.slots + zsl sh) (K : zKk p l e R s m args below meth c cells slots Q G y sh (pc', lv', st', sh', M')) : W p l e R s m args below meth c H locs cells slots Q (F0 m pc ls (st.map (ztr G))) := by
  obtain ⟨hx, hb, hml, hown, hts, hK, hX, hbb, hbs, hini, hfr, hlo⟩ := F
  have hlen : len = 1 := zbeq.mp hlen
  subst hlen
  rcases st with _ | ⟨w | w | w | w | _ | w | w, _ | ⟨x | x | x | x | _ | x | x, st⟩⟩
  all_goals first | exact absurd (show (none : zRr) = some _ from hs) nofun | skip
  change some (([] : List Prop), (Sum.inl (pc + 1, lv, .int ((x.toUInt32 >>> (w.toUInt32 &&& Int32.toUInt32 31)).toInt32) :: st, sh, M) : zO)) = _ at hs
  cases hs
  exact lv_iushr hx hb hd rfl (K H locs ls cells slots rfl rfl hH hS hl)
set_option maxHeartbeats 2000000 in
theorem zo_idiv (F : zFr p R s m args meth c S G y) (hd : decode (zmb y) pc = .ok (.idiv, len)) (hlen : zlen (.idiv) len = true) (hsp : zspec y (pc, .idiv, len, v, a, b, k, [], ts) = true) (hs : zstep S (pc, .idiv, len, v, a, b, k, [], ts) lv st sh M = some (ps, .inl (pc', lv', st', sh', M'))) (hps : zall ps) (hH : zH G sh M H) (hS : va_S (fun q => G.2.1 ≤ q) s.heap H locs) (hl : lv_has ls (zmx y) (zlm G lv)) (hcap : cells + sh'.length ≤ R.cells + sh.length) (hcap2 : slots + zsl sh' ≤ R.slots + zsl sh) (K : zKk p l e R s m args below meth c cells slots Q G y sh (pc', lv', st', sh', M')) : W p l e R s m args below meth c H locs cells slots Q (F0 m pc ls (st.map (ztr G))) := by
  obtain ⟨hx, hb, hml, hown, hts, hK, hX, hbb, hbs, hini, hfr, hlo⟩ := F
  have hlen : len = 1 := zbeq.mp hlen
  subst hlen
  rcases st with _ | ⟨w | w | w | w | _ | w | w, _ | ⟨x | x | x | x | _ | x | x, st⟩⟩
  all_goals first | exact absurd (show (none : zRr) = some _ from hs) nofun | skip
  change some (([¬ w = 0] : List Prop), (Sum.inl (pc + 1, lv, .int (x / w) :: st, sh, M) : zO)) = _ at hs
  cases hs
  exact lv_idiv hx hb hd hps.1 (K H locs ls cells slots rfl rfl hH hS hl)
set_option maxHeartbeats 2000000 in
theorem zo_irem (F : zFr p R s m args meth c S G y) (hd : decode (zmb y) pc = .ok (.irem, len)) (hlen : zlen (.irem) len = true) (hsp : zspec y (pc, .irem, len, v, a, b, k, [], ts) = true) (hs : zstep S (pc, .irem, len, v, a, b, k, [], ts) lv st sh M = some (ps, .inl (pc', lv', st', sh', M'))) (hps : zall ps) (hH : zH G sh M H) (hS : va_S (fun q => G.2.1 ≤ q) s.heap H locs) (hl : lv_has ls (zmx y) (zlm G lv)) (hcap : cells + sh'.length ≤ R.cells + sh.length) (hcap2 : slots + zsl sh' ≤ R.slots + zsl sh) (K : zKk p l e R s m args below meth c cells slots Q G y sh (pc', lv', st', sh', M')) : W p l e R s m args below meth c H locs cells slots Q (F0 m pc ls (st.map (ztr G))) := by
  obtain ⟨hx, hb, hml, hown, hts, hK, hX, hbb, hbs, hini, hfr, hlo⟩ := F
  have hlen : len = 1 := zbeq.mp hlen
  subst hlen
  rcases st with _ | ⟨w | w | w | w | _ | w | w, _ | ⟨x | x | x | x | _ | x | x, st⟩⟩
  all_goals first | exact absurd (show (none : zRr) = some _ from hs) nofun | skip
  change some (([¬ w = 0] : List Prop), (Sum.inl (pc + 1, lv, .int (x - x / w * w) :: st, sh, M) : zO)) = _ at hs
  cases hs
  exact lv_irem hx hb hd hps.1 (K H locs ls cells slots rfl rfl hH hS hl)
set_option maxHeartbeats 2000000 in
theorem zo_ladd (F : zFr p R s m args meth c S G y) (hd : decode (zmb y) pc = .ok (.ladd, len)) (hlen : zlen (.ladd) len = true) (hsp : zspec y (pc, .ladd, len, v, a, b, k, [], ts) = true) (hs : zstep S (pc, .ladd, len, v, a, b, k, [], ts) lv st sh M = some (ps, .inl (pc', lv', st', sh', M'))) (hps : zall ps) (hH : zH G sh M H) (hS : va_S (fun q => G.2.1 ≤ q) s.heap H locs) (hl : lv_has ls (zmx y) (zlm G lv)) (hcap : cells + sh'.length ≤ R.cells + sh.length) (hcap2 : slots + zsl sh' ≤ R.slots + zsl sh) (K : zKk p l e R s m args below meth c cells slots Q G y sh (pc', lv', st', sh', M')) : W p l e R s m args below meth c H locs cells slots Q (F0 m pc ls (st.map (ztr G))) := by
  obtain ⟨hx, hb, hml, hown, hts, hK, hX, hbb, hbs, hini, hfr, hlo⟩ := F
  have hlen : len = 1 := zbeq.mp hlen
  subst hlen
  rcases st with _ | ⟨w | w | w | w | _ | w | w, _ | ⟨x | x | x | x | _ | x | x, st⟩⟩
  all_goals first | exact absurd (show (none : zRr) = some _ from hs) nofun | skip
  change some (([] : List Prop), (Sum.inl (pc + 1, lv, .long (x + w) :: st, sh, M) : zO)) = _ at hs
  cases hs
  exact lv_ladd hx hb hd (K H locs ls cells slots rfl rfl hH hS hl)
set_option maxHeartbeats 2000000 in
theorem zo_lsub (F : zFr p R s m args meth c S G y) (hd : decode (zmb y) pc = .ok (.lsub, len)) (hlen : zlen (.lsub) len = true) (hsp : zspec y (pc, .lsub, len, v, a, b, k, [], ts) = true) (hs : zstep S (pc, .lsub, len, v, a, b, k, [], ts) lv st sh M = some (ps, .inl (pc', lv', st', sh', M'))) (hps : zall ps) (hH : zH G sh M H) (hS : va_S (fun q => G.2.1 ≤ q) s.heap H locs) (hl : lv_has ls (zmx y) (zlm G lv)) (hcap : cells + sh'.length ≤ R.cells + sh.length) (hcap2 : slots + zsl sh' ≤ R.slots + zsl sh) (K : zKk p l e R s m args below meth c cells slots Q G y sh (pc', lv', st', sh', M')) : W p l e R s m args below meth c H locs cells slots Q (F0 m pc ls (st.map (ztr G))) := by
  obtain ⟨hx, hb, hml, hown, hts, hK, hX, hbb, hbs, hini, hfr, hlo⟩ := F
  have hlen : len = 1 := zbeq.mp hlen
  subst hlen
  rcases st with _ | ⟨w | w | w | w | _ | w | w, _ | ⟨x | x | x | x | _ | x | x, st⟩⟩
  all_goals first | exact absurd (show (none : zRr) = some _ from hs) nofun | skip
  change some (([] : List Prop), (Sum.inl (pc + 1, lv, .long (x - w) :: st, sh, M) : zO)) = _ at hs
  cases hs
  exact lv_lsub hx hb hd (K H locs ls cells slots rfl rfl hH hS hl)
set_option maxHeartbeats 2000000 in
theorem zo_lmul (F : zFr p R s m args meth c S G y) (hd : decode (zmb y) pc = .ok (.lmul, len)) (hlen : zlen (.lmul) len = true) (hsp : zspec y (pc, .lmul, len, v, a, b, k, [], ts) = true) (hs : zstep S (pc, .lmul, len, v, a, b, k, [], ts) lv st sh M = some (ps, .inl (pc', lv', st', sh', M'))) (hps : zall ps) (hH : zH G sh M H) (hS : va_S (fun q => G.2.1 ≤ q) s.heap H locs) (hl : lv_has ls (zmx y) (zlm G lv)) (hcap : cells + sh'.length ≤ R.cells + sh.length) (hcap2 : slots + zsl sh' ≤ R.slots + zsl sh) (K : zKk p l e R s m args below meth c cells slots Q G y sh (pc', lv', st', sh', M')) : W p l e R s m args below meth c H locs cells slots Q (F0 m pc ls (st.map (ztr G))) := by
  obtain ⟨hx, hb, hml, hown, hts, hK, hX, hbb, hbs, hini, hfr, hlo⟩ := F
  have hlen : len = 1 := zbeq.mp hlen
  subst hlen
  rcases st with _ | ⟨w | w | w | w | _ | w | w, _ | ⟨x | x | x | x | _ | x | x, st⟩⟩
  all_goals first | exact absurd (show (none : zRr) = some _ from hs) nofun | skip
  change some (([] : List Prop), (Sum.inl (pc + 1, lv, .long (x * w) :: st, sh, M) : zO)) = _ at hs
  cases hs
  exact lv_lmul hx hb hd (K H locs ls cells slots rfl rfl hH hS hl)
set_option maxHeartbeats 2000000 in
theorem zo_ldiv (F : zFr p R s m args meth c S G y) (hd : decode (zmb y) pc = .ok (.ldiv, len)) (hlen : zlen (.ldiv) len = true) (hsp : zspec y (pc, .ldiv, len, v, a, b, k, [], ts) = true) (hs : zstep S (pc, .ldiv, len, v, a, b, k, [], ts) lv st sh M = some (ps, .inl (pc', lv', st', sh', M'))) (hps : zall ps) (hH : zH G sh M H) (hS : va_S (fun q => G.2.1 ≤ q) s.heap H locs) (hl : lv_has ls (zmx y) (zlm G lv)) (hcap : cells + sh'.length ≤ R.cells + sh.length) (hcap2 : slots + zsl sh' ≤ R.slots + zsl sh) (K : zKk p l e R s m args below meth c cells slots Q G y sh (pc', lv', st', sh', M')) : W p l e R s m args below meth c H locs cells slots Q (F0 m pc ls (st.map (ztr G))) := by
  obtain ⟨hx, hb, hml, hown, hts, hK, hX, hbb, hbs, hini, hfr, hlo⟩ := F
  have hlen : len = 1 := zbeq.mp hlen
  subst hlen
  rcases st with _ | ⟨w | w | w | w | _ | w | w, _ | ⟨x | x | x | x | _ | x | x, st⟩⟩
  all_goals first | exact absurd (show (none : zRr) = some _ from hs) nofun | skip
  change some (([¬ w = 0] : List Prop), (Sum.inl (pc + 1, lv, .long (x / w) :: st, sh, M) : zO)) = _ at hs
  cases hs
  exact lv_ldiv hx hb hd hps.1 (K H locs ls cells slots rfl rfl hH hS hl)
set_option maxHeartbeats 2000000 in
theorem zo_lrem (F : zFr p R s m args meth c S G y) (hd : decode (zmb y) pc = .ok (.lrem, len)) (hlen : zlen (.lrem) len = true) (hsp : zspec y (pc, .lrem, len, v, a, b, k, [], ts) = true) (hs : zstep S (pc, .lrem, len, v, a, b, k, [], ts) lv st sh M = some (ps, .inl (pc', lv', st', sh', M'))) (hps : zall ps) (hH : zH G sh M H) (hS : va_S (fun q => G.2.1 ≤ q) s.heap H locs) (hl : lv_has ls (zmx y) (zlm G lv)) (hcap : cells + sh'.length ≤ R.cells + sh.length) (hcap2 : slots + zsl sh' ≤ R.slots + zsl sh) (K : zKk p l e R s m args below meth c cells slots Q G y sh (pc', lv', st', sh', M')) : W p l e R s m args below meth c H locs cells slots Q (F0 m pc ls (st.map (ztr G))) := by
  obtain ⟨hx, hb, hml, hown, hts, hK, hX, hbb, hbs, hini, hfr, hlo⟩ := F
  have hlen : len = 1 := zbeq.mp hlen
  subst hlen
  rcases st with _ | ⟨w | w | w | w | _ | w | w, _ | ⟨x | x | x | x | _ | x | x, st⟩⟩
  all_goals first | exact absurd (show (none : zRr) = some _ from hs) nofun | skip
  change some (([¬ w = 0] : List Prop), (Sum.inl (pc + 1, lv, .long (x - x / w * w) :: st, sh, M) : zO)) = _ at hs
  cases hs
  exact lv_lrem hx hb hd hps.1 (K H locs ls cells slots rfl rfl hH hS hl)
set_option maxHeartbeats 2000000 in
theorem zo_lcmp (F : zFr p R s m args meth c S G y) (hd : decode (zmb y) pc = .ok (.lcmp, len)) (hlen : zlen (.lcmp) len = true) (hsp : zspec y (pc, .lcmp, len, v, a, b, k, [], ts) = true) (hs : zstep S (pc, .lcmp, len, v, a, b, k, [], ts) lv st sh M = some (ps, .inl (pc', lv', st', sh', M'))) (hps : zall ps) (hH : zH G sh M H) (hS : va_S (fun q => G.2.1 ≤ q) s.heap H locs) (hl : lv_has ls (zmx y) (zlm G lv)) (hcap : cells + sh'.length ≤ R.cells + sh.length) (hcap2 : slots + zsl sh' ≤ R.slots + zsl sh) (K : zKk p l e R s m args below meth c cells slots Q G y sh (pc', lv', st', sh', M')) : W p l e R s m args below meth c H locs cells slots Q (F0 m pc ls (st.map (ztr G))) := by
  obtain ⟨hx, hb, hml, hown, hts, hK, hX, hbb, hbs, hini, hfr, hlo⟩ := F
  have hlen : len = 1 := zbeq.mp hlen
  subst hlen
  rcases st with _ | ⟨w | w | w | w | _ | w | w, _ | ⟨x | x | x | x | _ | x | x, st⟩⟩
  all_goals first | exact absurd (show (none : zRr) = some _ from hs) nofun | skip
  change some (([] : List Prop), (Sum.inl (pc + 1, lv, .int (lg_cmp x w) :: st, sh, M) : zO)) = _ at hs
  cases hs
  exact W.lcmp hx hb hd (K H locs ls cells slots rfl rfl hH hS hl)
set_option maxHeartbeats 2000000 in
theorem zo_ineg (F : zFr p R s m args meth c S G y) (hd : decode (zmb y) pc = .ok (.ineg, len)) (hlen : zlen (.ineg) len = true) (hsp : zspec y (pc, .ineg, len, v, a, b, k, [], ts) = true) (hs : zstep S (pc, .ineg, len, v, a, b, k, [], ts) lv st sh M = some (ps, .inl (pc', lv', st', sh', M'))) (hps : zall ps) (hH : zH G sh M H) (hS : va_S (fun q => G.2.1 ≤ q) s.heap H locs) (hl : lv_has ls (zmx y) (zlm G lv)) (hcap : cells + sh'.length ≤ R.cells + sh.length) (hcap2 : slots + zsl sh' ≤ R.slots + zsl sh) (K : zKk p l e R s m args below meth c cells slots Q G y sh (pc', lv', st', sh', M')) : W p l e R s m args below meth c H locs cells slots Q (F0 m pc ls (st.map (ztr G))) := by
  obtain ⟨hx, hb, hml, hown, hts, hK, hX, hbb, hbs, hini, hfr, hlo⟩ := F
  have hlen : len = 1 := zbeq.mp hlen
  subst hlen
  rcases st with _ | ⟨x | x | x | x | _ | x | x, st⟩
  all_goals first | exact absurd (show (none : zRr) = some _ from hs) nofun | skip
  change some (([] : List Prop), (Sum.inl (pc + 1, lv, .int (-x) :: st, sh, M) : zO)) = _ at hs
  cases hs
  exact lv_ineg hx hb hd (K H locs ls cells slots rfl rfl hH hS hl)
set_option maxHeartbeats 2000000 in
theorem zo_i2l (F : zFr p R s m args meth c S G y) (hd : decode (zmb y) pc = .ok (.i2l, len)) (hlen : zlen (.i2l) len = true) (hsp : zspec y (pc, .i2l, len, v, a, b, k, [], ts) = true) (hs : zstep S (pc, .i2l, len, v, a, b, k, [], ts) lv st sh M = some (ps, .inl (pc', lv', st', sh', M'))) (hps : zall ps) (hH : zH G sh M H) (hS : va_S (fun q => G.2.1 ≤ q) s.heap H locs) (hl : lv_has ls (zmx y) (zlm G lv)) (hcap : cells + sh'.length ≤ R.cells + sh.length) (hcap2 : slots + zsl sh' ≤ R.slots + zsl sh) (K : zKk p l e R s m args below meth c cells slots Q G y sh (pc', lv', st', sh', M')) : W p l e R s m args below meth c H locs cells slots Q (F0 m pc ls (st.map (ztr G))) := by
  obtain ⟨hx, hb, hml, hown, hts, hK, hX, hbb, hbs, hini, hfr, hlo⟩ := F
  have hlen : len = 1 := zbeq.mp hlen
  subst hlen
  rcases st with _ | ⟨x | x | x | x | _ | x | x, st⟩
  all_goals first | exact absurd (show (none : zRr) = some _ from hs) nofun | skip
  change some (([] : List Prop), (Sum.inl (pc + 1, lv, .long x.toInt64 :: st, sh, M) : zO)) = _ at hs
  cases hs
  exact lv_i2l hx hb hd rfl (K H locs ls cells slots rfl rfl hH hS hl)
set_option maxHeartbeats 2000000 in
theorem zo_dup (F : zFr p R s m args meth c S G y) (hd : decode (zmb y) pc = .ok (.dup, len)) (hlen : zlen (.dup) len = true) (hsp : zspec y (pc, .dup, len, v, a, b, k, [], ts) = true) (hs : zstep S (pc, .dup, len, v, a, b, k, [], ts) lv st sh M = some (ps, .inl (pc', lv', st', sh', M'))) (hps : zall ps) (hH : zH G sh M H) (hS : va_S (fun q => G.2.1 ≤ q) s.heap H locs) (hl : lv_has ls (zmx y) (zlm G lv)) (hcap : cells + sh'.length ≤ R.cells + sh.length) (hcap2 : slots + zsl sh' ≤ R.slots + zsl sh) (K : zKk p l e R s m args below meth c cells slots Q G y sh (pc', lv', st', sh', M')) : W p l e R s m args below meth c H locs cells slots Q (F0 m pc ls (st.map (ztr G))) := by
  obtain ⟨hx, hb, hml, hown, hts, hK, hX, hbb, hbs, hini, hfr, hlo⟩ := F
  have hlen : len = 1 := zbeq.mp hlen
  subst hlen
  rcases st with _ | ⟨x, st⟩
  all_goals first | exact absurd (show (none : zRr) = some _ from hs) nofun | skip
  have hx1 : zN1 x = true := by
    cases hz : zN1 x with
    | true => rfl
    | false => simp [zstep, hz] at hs
  have hc1 : (ztr G x).category = 1 := by
    rw [ztr_cat]
    rcases x with q | q | q | q | _ | q | q
    all_goals first | rfl | (exact absurd (show false = true from hx1) nofun)
  have hs2 : some (([] : List Prop), (Sum.inl (pc + 1, lv, x :: x :: st, sh, M) : zO)) = some (ps, .inl (pc', lv', st', sh', M')) := by
    rw [← hs]
    show _ = (match zN1 x with | true => _ | false => _)
    rw [hx1]
    rfl
  cases hs2
  exact lv_dup hx hb hd hc1 (K H locs ls cells slots rfl rfl hH hS hl)
set_option maxHeartbeats 2000000 in
theorem zo_pop (F : zFr p R s m args meth c S G y) (hd : decode (zmb y) pc = .ok (.pop, len)) (hlen : zlen (.pop) len = true) (hsp : zspec y (pc, .pop, len, v, a, b, k, [], ts) = true) (hs : zstep S (pc, .pop, len, v, a, b, k, [], ts) lv st sh M = some (ps, .inl (pc', lv', st', sh', M'))) (hps : zall ps) (hH : zH G sh M H) (hS : va_S (fun q => G.2.1 ≤ q) s.heap H locs) (hl : lv_has ls (zmx y) (zlm G lv)) (hcap : cells + sh'.length ≤ R.cells + sh.length) (hcap2 : slots + zsl sh' ≤ R.slots + zsl sh) (K : zKk p l e R s m args below meth c cells slots Q G y sh (pc', lv', st', sh', M')) : W p l e R s m args below meth c H locs cells slots Q (F0 m pc ls (st.map (ztr G))) := by
  obtain ⟨hx, hb, hml, hown, hts, hK, hX, hbb, hbs, hini, hfr, hlo⟩ := F
  have hlen : len = 1 := zbeq.mp hlen
  subst hlen
  rcases st with _ | ⟨x, st⟩
  all_goals first | exact absurd (show (none : zRr) = some _ from hs) nofun | skip
  have hx1 : zN1 x = true := by
    cases hz : zN1 x with
    | true => rfl
    | false => simp [zstep, hz] at hs
  have hc1 : (ztr G x).category = 1 := by
    rw [ztr_cat]
    rcases x with q | q | q | q | _ | q | q
    all_goals first | rfl | (exact absurd (show false = true from hx1) nofun)
  have hs2 : some (([] : List Prop), (Sum.inl (pc + 1, lv, st, sh, M) : zO)) = some (ps, .inl (pc', lv', st', sh', M')) := by
    rw [← hs]
    show _ = (match zN1 x with | true => _ | false => _)
    rw [hx1]
    rfl
  cases hs2
  exact lv_pop hx hb hd hc1 (K H locs ls cells slots rfl rfl hH hS hl)
set_option maxHeartbeats 2000000 in
theorem zo_dup2 (F : zFr p R s m args meth c S G y) (hd : decode (zmb y) pc = .ok (.dup2, len)) (hlen : zlen (.dup2) len = true) (hsp : zspec y (pc, .dup2, len, v, a, b, k, [], ts) = true) (hs : zstep S (pc, .dup2, len, v, a, b, k, [], ts) lv st sh M = some (ps, .inl (pc', lv', st', sh', M'))) (hps : zall ps) (hH : zH G sh M H) (hS : va_S (fun q => G.2.1 ≤ q) s.heap H locs) (hl : lv_has ls (zmx y) (zlm G lv)) (hcap : cells + sh'.length ≤ R.cells + sh.length) (hcap2 : slots + zsl sh' ≤ R.slots + zsl sh) (K : zKk p l e R s m args below meth c cells slots Q G y sh (pc', lv', st', sh', M')) : W p l e R s m args below meth c H locs cells slots Q (F0 m pc ls (st.map (ztr G))) := by
  obtain ⟨hx, hb, hml, hown, hts, hK, hX, hbb, hbs, hini, hfr, hlo⟩ := F
  have hlen : len = 1 := zbeq.mp hlen
  subst hlen
  rcases st with _ | ⟨w | w | w | w | _ | w | w, _ | ⟨x | x | x | x | _ | x | x, st⟩⟩
  all_goals first | exact absurd (show (none : zRr) = some _ from hs) nofun | skip
  all_goals first | (change some (([] : List Prop), (Sum.inl (pc + 1, lv, _ :: _ :: _ :: _ :: st, sh, M) : zO)) = _ at hs; cases hs; exact lv_dup2_11 hx hb hd rfl rfl (K H locs ls cells slots rfl rfl hH hS hl)) | skip
set_option maxHeartbeats 2000000 in
theorem zo_goto {n : Int} (F : zFr p R s m args meth c S G y) (hd : decode (zmb y) pc = .ok (.goto n, len)) (hlen : zlen (.goto n) len = true) (hsp : zspec y (pc, .goto n, len, v, a, b, k, [], ts) = true) (hs : zstep S (pc, .goto n, len, v, a, b, k, [], ts) lv st sh M = some (ps, .inl (pc', lv', st', sh', M'))) (hps : zall ps) (hH : zH G sh M H) (hS : va_S (fun q => G.2.1 ≤ q) s.heap H locs) (hl : lv_has ls (zmx y) (zlm G lv)) (hcap : cells + sh'.length ≤ R.cells + sh.length) (hcap2 : slots + zsl sh' ≤ R.slots + zsl sh) (K : zKk p l e R s m args below meth c cells slots Q G y sh (pc', lv', st', sh', M')) : W p l e R s m args below meth c H locs cells slots Q (F0 m pc ls (st.map (ztr G))) := by
  obtain ⟨hx, hb, hml, hown, hts, hK, hX, hbb, hbs, hini, hfr, hlo⟩ := F
  have hlen : len = 3 := zbeq.mp hlen
  subst hlen
  change some (([] : List Prop), (Sum.inl (a, lv, st, sh, M) : zO)) = _ at hs
  cases hs
  exact lv_goto hx hb hd (of_decide_eq_true hsp) (K H locs ls cells slots rfl rfl hH hS hl)
set_option maxHeartbeats 2000000 in
theorem zo_tableswitch {d lo hi : Int} {offs : Array Int} (F : zFr p R s m args meth c S G y) (hd : decode (zmb y) pc = .ok (.tableswitch d lo hi offs, len)) (hlen : zlen (.tableswitch d lo hi offs) len = true) (hsp : zspec y (pc, .tableswitch d lo hi offs, len, v, a, b, k, [], ts) = true) (hs : zstep S (pc, .tableswitch d lo hi offs, len, v, a, b, k, [], ts) lv st sh M = some (ps, .inl (pc', lv', st', sh', M'))) (hps : zall ps) (hH : zH G sh M H) (hS : va_S (fun q => G.2.1 ≤ q) s.heap H locs) (hl : lv_has ls (zmx y) (zlm G lv)) (hcap : cells + sh'.length ≤ R.cells + sh.length) (hcap2 : slots + zsl sh' ≤ R.slots + zsl sh) (K : zKk p l e R s m args below meth c cells slots Q G y sh (pc', lv', st', sh', M')) : W p l e R s m args below meth c H locs cells slots Q (F0 m pc ls (st.map (ztr G))) := by
  obtain ⟨hx, hb, hml, hown, hts, hK, hX, hbb, hbs, hini, hfr, hlo⟩ := F
  rcases st with _ | ⟨x | x | x | x | _ | x | x, st⟩
  all_goals first | exact absurd (show (none : zRr) = some _ from hs) nofun | skip
  change some (([] : List Prop), (Sum.inl (ztab lo hi a ts x, lv, st, sh, M) : zO)) = _ at hs
  cases hs
  simp only [zspec, Bool.and_eq_true, decide_eq_true_eq] at hsp
  obtain ⟨⟨h1, h2⟩, h3⟩ := hsp
  by_cases ho : x.toInt < lo ∨ hi < x.toInt
  · have e1 : ztab lo hi a ts x = a := by rw [ztab, if_pos ho]
    rw [e1] at K
    exact lv_tableOut hx hb hd ho (of_decide_eq_true h1) (K H locs ls cells slots rfl rfl hH hS hl)
  · have e1 : ztab lo hi a ts x = ts.getD (x.toInt - lo).toNat a := by rw [ztab, if_neg ho]
    rw [e1] at K
    have hj : (x.toInt - lo).toNat < offs.size := by omega
    have h4 := congrArg (fun q : List Int => q[(x.toInt - lo).toNat]?) h2
    simp only [List.getElem?_map] at h4
    have h5 : offs.toList[(x.toInt - lo).toNat]? = some offs[(x.toInt - lo).toNat] := by
      rw [Array.getElem?_toList, Array.getElem?_eq_getElem hj]
    rw [h5] at h4
    cases h6 : ts[(x.toInt - lo).toNat]? with
    | none => rw [h6] at h4; cases h4
    | some t =>
      rw [h6] at h4
      have h7 : (pc : Int) + offs[(x.toInt - lo).toNat] = (t : Int) := Option.some.inj h4
      have e2 : ts.getD (x.toInt - lo).toNat a = t := by rw [List.getD_eq_getElem?_getD, h6]; rfl
      rw [e2] at K
      exact lv_tableIn hx hb hd (fun q => ho (Or.inl q)) (fun q => ho (Or.inr q)) (Array.getElem?_eq_getElem hj) h7 (K H locs ls cells slots rfl rfl hH hS hl)
theorem zlup_ok {pc a : Nat} {d x : Int} (ha : (pc : Int) + d = (a : Int)) : ∀ (ps : List (Int × Int)) (ts : List Nat), ps.map (fun o => (pc : Int) + o.2) = ts.map (fun t : Nat => (t : Int)) → (pc : Int) + Op.lookupswitch.offset ps d x = (zlup ps ts a x : Int)
  | [], [], _ => by simpa [Op.lookupswitch.offset, zlup] using ha
  | [], _ :: _, h => by simp at h
  | _ :: _, [], h => by simp at h
  | (k, o) :: ps, t :: ts, h => by
    simp only [List.map_cons, List.cons.injEq] at h
    have ih := zlup_ok (x := x) ha ps ts h.2
    by_cases hx : x = k
    · subst hx
      simp [Op.lookupswitch.offset, zlup, h.1]
    · simp only [zlup, if_neg hx]
      rw [← ih]
      congr 1
      simp [Op.lookupswitch.offset, hx, Ne.symm hx]
set_option maxHeartbeats 2000000 in
theorem zo_lookupswitch {d : Int} {qs : Array (Int × Int)} (F : zFr p R s m args meth c S G y) (hd : decode (zmb y) pc = .ok (.lookupswitch d qs, len)) (hlen : zlen (.lookupswitch d qs) len = true) (hsp : zspec y (pc, .lookupswitch d qs, len, v, a, b, k, [], ts) = true) (hs : zstep S (pc, .lookupswitch d qs, len, v, a, b, k, [], ts) lv st sh M = some (ps, .inl (pc', lv', st', sh', M'))) (hps : zall ps) (hH : zH G sh M H) (hS : va_S (fun q => G.2.1 ≤ q) s.heap H locs) (hl : lv_has ls (zmx y) (zlm G lv)) (hcap : cells + sh'.length ≤ R.cells + sh.length) (hcap2 : slots + zsl sh' ≤ R.slots + zsl sh) (K : zKk p l e R s m args below meth c cells slots Q G y sh (pc', lv', st', sh', M')) : W p l e R s m args below meth c H locs cells slots Q (F0 m pc ls (st.map (ztr G))) := by
  obtain ⟨hx, hb, hml, hown, hts, hK, hX, hbb, hbs, hini, hfr, hlo⟩ := F
  rcases st with _ | ⟨x | x | x | x | _ | x | x, st⟩
  all_goals first | exact absurd (show (none : zRr) = some _ from hs) nofun | skip
  change some (([] : List Prop), (Sum.inl (zlup qs.toList ts a x.toInt, lv, st, sh, M) : zO)) = _ at hs
  cases hs
  simp only [zspec, Bool.and_eq_true, decide_eq_true_eq] at hsp
  obtain ⟨⟨h1, h2⟩, h3⟩ := hsp
  exact lv_lookup hx hb hd h3 rfl (zlup_ok (of_decide_eq_true h1) _ _ h2) (K H locs ls cells slots rfl rfl hH hS hl)
end ZOne
