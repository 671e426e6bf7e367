section ZSound
variable {p : Program} {l : Launch} {e : Env} {R : Room} {s : State} {m : MethodId} {args : Array Value} {below : List Frame} {meth : Method} {c : Code} {H : Heap} {locs : List Loc} {cells slots : Nat} {Q : State → Prop}
variable {S : zSc} {G : zG} {y : Nat} {ls : Array Slot} {pc pc' len a b k : Nat} {v : Value} {ts : List Nat} {lv lv' : zL} {st st' : List Value} {sh sh' : List zS} {M M' : zM} {ps : List Prop}

set_option maxHeartbeats 4000000 in
theorem zone {ins : Instr} (F : zFr p R s m args meth c S G y) (hd : decode (zmb y) pc = .ok (ins, len)) (hlen : zlen ins len = true) (hsp : zspec y (pc, ins, len, v, a, b, k, [], ts) = true) (hs : zstep S (pc, ins, len, v, a, b, k, [], ts) lv st sh M = some (ps, .inl (pc', lv', st', sh', M'))) (hps : zall ps) (hH : zH G sh M H) (hS : va_S (fun q => G.2.1 ≤ q) s.heap H locs) (hl : lv_has ls (zmx y) (zlm G lv)) (hcap : cells + sh'.length ≤ R.cells + sh.length) (hcap2 : slots + zsl sh' ≤ R.slots + zsl sh) (K : zKk p l e R s m args below meth c cells slots Q G y sh (pc', lv', st', sh', M')) : W p l e R s m args below meth c H locs cells slots Q (F0 m pc ls (st.map (ztr G))) := by
  cases ins with
  | iconst n => exact zo_iconst F hd hlen hsp hs hps hH hS hl hcap hcap2 K
  | bipush n => exact zo_bipush F hd hlen hsp hs hps hH hS hl hcap hcap2 K
  | sipush n => exact zo_sipush F hd hlen hsp hs hps hH hS hl hcap hcap2 K
  | lconst n => exact zo_lconst F hd hlen hsp hs hps hH hS hl hcap hcap2 K
  | ldc_w n => exact zo_ldc_w F hd hlen hsp hs hps hH hS hl hcap hcap2 K
  | ldc2_w n => exact zo_ldc2_w F hd hlen hsp hs hps hH hS hl hcap hcap2 K
  | iload_n n => exact zo_iload_n F hd hlen hsp hs hps hH hS hl hcap hcap2 K
  | iload n => exact zo_iload F hd hlen hsp hs hps hH hS hl hcap hcap2 K
  | lload_n n => exact zo_lload_n F hd hlen hsp hs hps hH hS hl hcap hcap2 K
  | lload n => exact zo_lload F hd hlen hsp hs hps hH hS hl hcap hcap2 K
  | aload_n n => exact zo_aload_n F hd hlen hsp hs hps hH hS hl hcap hcap2 K
  | istore_n n => exact zo_istore_n F hd hlen hsp hs hps hH hS hl hcap hcap2 K
  | istore n => exact zo_istore F hd hlen hsp hs hps hH hS hl hcap hcap2 K
  | lstore_n n => exact zo_lstore_n F hd hlen hsp hs hps hH hS hl hcap hcap2 K
  | lstore n => exact zo_lstore F hd hlen hsp hs hps hH hS hl hcap hcap2 K
  | astore_n n => exact zo_astore_n F hd hlen hsp hs hps hH hS hl hcap hcap2 K
  | iinc i n => exact zo_iinc F hd hlen hsp hs hps hH hS hl hcap hcap2 K
  | iadd => exact zo_iadd F hd hlen hsp hs hps hH hS hl hcap hcap2 K
  | isub => exact zo_isub F hd hlen hsp hs hps hH hS hl hcap hcap2 K
  | imul => exact zo_imul F hd hlen hsp hs hps hH hS hl hcap hcap2 K
  | iand => exact zo_iand F hd hlen hsp hs hps hH hS hl hcap hcap2 K
  | ior => exact zo_ior F hd hlen hsp hs hps hH hS hl hcap hcap2 K
  | ishl => exact zo_ishl F hd hlen hsp hs hps hH hS hl hcap hcap2 K
  | ishr => exact zo_ishr F hd hlen hsp hs hps hH hS hl hcap hcap2 K
  | iushr => exact zo_iushr F hd hlen hsp hs hps hH hS hl hcap hcap2 K
  | idiv => exact zo_idiv F hd hlen hsp hs hps hH hS hl hcap hcap2 K
  | irem => exact zo_irem F hd hlen hsp hs hps hH hS hl hcap hcap2 K
  | ineg => exact zo_ineg F hd hlen hsp hs hps hH hS hl hcap hcap2 K
  | ladd => exact zo_ladd F hd hlen hsp hs hps hH hS hl hcap hcap2 K
  | lsub => exact zo_lsub F hd hlen hsp hs hps hH hS hl hcap hcap2 K
  | lmul => exact zo_lmul F hd hlen hsp hs hps hH hS hl hcap hcap2 K
  | ldiv => exact zo_ldiv F hd hlen hsp hs hps hH hS hl hcap hcap2 K
  | lrem => exact zo_lrem F hd hlen hsp hs hps hH hS hl hcap hcap2 K
  | lcmp => exact zo_lcmp F hd hlen hsp hs hps hH hS hl hcap hcap2 K
  | i2l => exact zo_i2l F hd hlen hsp hs hps hH hS hl hcap hcap2 K
  | dup => exact zo_dup F hd hlen hsp hs hps hH hS hl hcap hcap2 K
  | dup2 => exact zo_dup2 F hd hlen hsp hs hps hH hS hl hcap hcap2 K
  | pop => exact zo_pop F hd hlen hsp hs hps hH hS hl hcap hcap2 K
  | goto n => exact zo_goto F hd hlen hsp hs hps hH hS hl hcap hcap2 K
  | tableswitch a1 a2 a3 a4 => exact zo_tableswitch F hd hlen hsp hs hps hH hS hl hcap hcap2 K
  | lookupswitch a1 a2 => exact zo_lookupswitch F hd hlen hsp hs hps hH hS hl hcap hcap2 K
  | iaload => exact zo_iaload F hd hlen hsp hs hps hH hS hl hcap hcap2 K
  | baload => exact zo_baload F hd hlen hsp hs hps hH hS hl hcap hcap2 K
  | iastore => exact zo_iastore F hd hlen hsp hs hps hH hS hl hcap hcap2 K
  | bastore => exact zo_bastore F hd hlen hsp hs hps hH hS hl hcap hcap2 K
  | arraylength => exact zo_arraylength F hd hlen hsp hs hps hH hS hl hcap hcap2 K
  | aaload => exact zo_aaload F hd hlen hsp hs hps hH hS hl hcap hcap2 K
  | aastore => exact zo_aastore F hd hlen hsp hs hps hH hS hl hcap hcap2 K
  | getfield n => exact zo_getfield F hd hlen hsp hs hps hH hS hl hcap hcap2 K
  | putfield n => exact zo_putfield F hd hlen hsp hs hps hH hS hl hcap hcap2 K
  | new n => exact zo_new F hd hlen hsp hs hps hH hS hl hcap hcap2 K
  | newarray n => exact zo_newarray F hd hlen hsp hs hps hH hS hl hcap hcap2 K
  | anewarray n => exact zo_anewarray F hd hlen hsp hs hps hH hS hl hcap hcap2 K
  | invokevirtual n => exact zo_invokevirtual F hd hlen hsp hs hps hH hS hl hcap hcap2 K
  | invokestatic n => exact zo_invokestatic F hd hlen hsp hs hps hH hS hl hcap hcap2 K
  | invokespecial n => exact zo_invokespecial F hd hlen hsp hs hps hH hS hl hcap hcap2 K
  | ireturn =>
    exfalso
    rcases st with _ | ⟨x | x | x | x | _ | x | x, _ | ⟨x2, st⟩⟩
    all_goals first | exact absurd (show (none : zRr) = some _ from hs) nofun | skip
    rcases k with _ | k <;> exact absurd (show some (_, (Sum.inr (Sum.inr (Sum.inr _)) : zO)) = some _ from hs) nofun
  | lreturn =>
    exfalso
    rcases st with _ | ⟨x | x | x | x | _ | x | x, _ | ⟨x2, st⟩⟩
    all_goals first | exact absurd (show (none : zRr) = some _ from hs) nofun | skip
    exact absurd (show some (_, (Sum.inr (Sum.inr (Sum.inr _)) : zO)) = some _ from hs) nofun
  | return_ =>
    exfalso
    rcases st with _ | ⟨x, st⟩
    · exact absurd (show some (_, (Sum.inr (Sum.inr (Sum.inr _)) : zO)) = some _ from hs) nofun
    · exact absurd (show (none : zRr) = some _ from hs) nofun
  | ifCond cd n =>
    exfalso
    rcases st with _ | ⟨x | x | x | x | _ | x | x, st⟩
    all_goals first | exact absurd (show (none : zRr) = some _ from hs) nofun | skip
    exact absurd (show some (_, (Sum.inr (Sum.inl _) : zO)) = some _ from hs) nofun
  | if_icmp cd n =>
    exfalso
    rcases st with _ | ⟨w | w | w | w | _ | w | w, _ | ⟨x | x | x | x | _ | x | x, st⟩⟩
    all_goals first | exact absurd (show (none : zRr) = some _ from hs) nofun | skip
    exact absurd (show some (_, (Sum.inr (Sum.inl _) : zO)) = some _ from hs) nofun
  | _ => exact absurd (show (none : zRr) = some _ from hs) nofun
theorem zlk1_mem {pc : Nat} {e : zN} : ∀ {l : List zN}, zlk1 pc l = some e → e ∈ l ∧ e.1 = pc
  | [], h => by cases h
  | q :: l, h => by
    unfold zlk1 at h
    cases hb : Nat.beq q.1 pc with
    | true =>
      rw [hb] at h
      cases h
      exact ⟨List.mem_cons_self, zbeq.mp hb⟩
    | false =>
      rw [hb] at h
      exact ⟨List.mem_cons_of_mem _ (zlk1_mem h).1, (zlk1_mem h).2⟩
theorem zlk_mem {pc : Nat} {e : zN} : ∀ {l : List (Nat × List zN)}, zlk pc l = some e → (∃ q ∈ l, e ∈ q.2) ∧ e.1 = pc
  | [], h => by cases h
  | q :: l, h => by
    unfold zlk at h
    cases hb : Nat.ble pc q.1 with
    | true =>
      rw [hb] at h
      exact ⟨⟨q, List.mem_cons_self, (zlk1_mem h).1⟩, (zlk1_mem h).2⟩
    | false =>
      rw [hb] at h
      obtain ⟨⟨q', h1, h2⟩, h3⟩ := zlk_mem h
      exact ⟨⟨q', List.mem_cons_of_mem _ h1, h2⟩, h3⟩
def zle (sh sh' : List zS) : Prop := sh.length ≤ sh'.length ∧ zsl sh ≤ zsl sh'
theorem zle.rf (sh : List zS) : zle sh sh := ⟨Nat.le_refl _, Nat.le_refl _⟩
theorem zle.tr {a b c : List zS} (h : zle a b) (h2 : zle b c) : zle a c := ⟨Nat.le_trans h.1 h2.1, Nat.le_trans h.2 h2.2⟩
theorem zle.push (sh : List zS) (x : zS) : zle sh (sh ++ [x]) := ⟨by simp, by simp [zsl]⟩
theorem zle.set {sh : List zS} {r a a' n : Nat} {fs fs' : List Value} (hz : sh[r]? = some (a, n, fs)) : zle sh (sh.set r (a', n, fs')) := ⟨by simp, by rw [zsl_set hz]; exact Nat.le_refl _⟩
def zosh (o : zO) : List zS := match o with
  | .inl t => t.2.2.2.1
  | .inr (.inl (_, _, t)) => t.2.2.2.1
  | .inr (.inr (.inl (_, _, t))) => t.2.2.2.1
  | .inr (.inr (.inr (_, sh, _))) => sh
theorem zld_le {i pc k : Nat} {lv : zL} {st : List Value} {sh : List zS} {M : zM} {ps : List Prop} {o : zO} (h : zld i pc lv st sh M k = some (ps, o)) : zle sh (zosh o) := by
  unfold zld at h
  repeat' (split at h)
  all_goals first | (cases h; exact zle.rf _) | cases h
theorem zgf_le {ci k r pc : Nat} {lv : zL} {st : List Value} {sh : List zS} {M : zM} {ps : List Prop} {o : zO} (h : zgf ci k r pc lv st sh M = some (ps, o)) : zle sh (zosh o) := by
  unfold zgf at h
  repeat' (split at h)
  all_goals first | (cases h; exact zle.rf _) | cases h
theorem zpf_le {ci k c r pc : Nat} {v : Value} {lv : zL} {st : List Value} {sh : List zS} {M : zM} {ps : List Prop} {o : zO} (h : zpf ci k c v r pc lv st sh M = some (ps, o)) : zle sh (zosh o) := by
  unfold zpf at h
  rcases r with _ | q
  · cases h
  · dsimp only at h
    rcases hz : sh[q]? with _ | ⟨kd, n, fs⟩
    · simp [hz] at h
    · simp only [hz] at h
      repeat' (split at h)
      all_goals first | (cases h; exact zle.rf _) | (cases h; exact zle.set hz) | cases h
theorem zcall_le {y n pc : Nat} {as rest : List Value} {lv : zL} {sh : List zS} {M : zM} {ps : List Prop} {o : zO} (h : zcall y n as rest pc lv sh M = some (ps, o)) : zle sh (zosh o) := by
  unfold zcall at h
  repeat' (split at h)
  all_goals first | (cases h; exact zle.rf _) | cases h
theorem zcpy_le {pc : Nat} {as rest : List Value} {lv : zL} {sh : List zS} {M : zM} {ps : List Prop} {o : zO} (h : zcpy as rest pc lv sh M = some (ps, o)) : zle sh (zosh o) := by
  unfold zcpy at h
  repeat' (split at h)
  all_goals first | (cases h; exact zle.rf _) | cases h
theorem zmath_le {k pc : Nat} {st : List Value} {lv : zL} {sh : List zS} {M : zM} {ps : List Prop} {o : zO} (h : zmath k st pc lv sh M = some (ps, o)) : zle sh (zosh o) := by
  unfold zmath at h
  repeat' (split at h)
  all_goals first | (cases h; exact zle.rf _) | cases h
set_option maxHeartbeats 8000000 in
theorem zstep_le {e : zN} {lv : zL} {st : List Value} {sh : List zS} {M : zM} {ps : List Prop} {o : zO} (h : zstep S e lv st sh M = some (ps, o)) : zle sh (zosh o) := by
  unfold zstep at h
  split at h
  split at h
  all_goals first
    | exact zld_le h
    | exact zgf_le h
    | exact zpf_le h
    | (cases h; exact zle.rf _)
    | (cases h; exact zle.push _ _)
    | cases h
    | skip
  all_goals (repeat' (split at h))
  all_goals first
    | exact zcall_le h
    | exact zcpy_le h
    | exact zmath_le h
    | (cases h; exact zle.rf _)
    | (cases h; exact zle.push _ _)
    | (cases h; exact zle.set (by assumption))
    | cases h
/-- what is left with Q is somewhere, and no less is made -/
theorem zX_ex : ∀ (f y : Nat) (t : zC) (Qa : Option Value → List zS → zM → Prop), zX S f y t Qa → ∃ (r : Option Value) (sh' : List zS) (M' : zM), Qa r sh' M' ∧ zle t.2.2.2.1 sh' := by
  intro f
  induction f with
  | zero => intro y t Qa h; exact absurd h (by simp [zX])
  | succ f ih =>
    intro y t Qa h
    rw [zX] at h
    obtain ⟨pc, lv, st, sh, M⟩ := t
    cases hg : zgo1 S y (pc, lv, st, sh, M) with
    | none => rw [hg] at h; exact h.elim
    | some x =>
      rw [hg] at h
      have hle : zle sh (zosh x.2) := by
        have hg2 := hg
        unfold zgo1 at hg2
        dsimp only at hg2
        split at hg2
        · cases hg2
        · exact zstep_le hg2
      obtain ⟨ps, t' | ⟨P, tg, pc', lv', st', sh', M'⟩ | ⟨y', as, pc', lv', st', sh', M'⟩ | ⟨r, sh', M'⟩⟩ := x
      · obtain ⟨r, sh', M', h1, h2⟩ := ih y t' Qa h.2
        exact ⟨r, sh', M', h1, hle.tr h2⟩
      · by_cases hP : P
        · obtain ⟨r, sh2, M2, h1, h2⟩ := ih y _ Qa (h.2.1 hP)
          exact ⟨r, sh2, M2, h1, hle.tr h2⟩
        · obtain ⟨r, sh2, M2, h1, h2⟩ := ih y _ Qa (h.2.2 hP)
          exact ⟨r, sh2, M2, h1, hle.tr h2⟩
      · obtain ⟨r, sh2, M2, h1, h2⟩ := ih y' _ _ h.2
        obtain ⟨r3, sh3, M3, h3, h4⟩ := ih y _ Qa h1.2
        exact ⟨r3, sh3, M3, h3, hle.tr (h2.tr h4)⟩
      · exact ⟨r, sh', M', h.2, hle⟩
/-- a return instruction of y with the answer r -/
def zRet (y pc : Nat) (r : Option Value) : Prop := match r with
  | some (.int x) => decode (zmb y) pc = .ok (.ireturn, 1) ∧ (zmr y = some .int ∨ (zmr y = some .boolean ∧ (x = 0 ∨ x = 1)))
  | some (.long _) => decode (zmb y) pc = .ok (.lreturn, 1) ∧ zmr y = some .long
  | none => decode (zmb y) pc = .ok (.return_, 1) ∧ zmr y = none
  | _ => False
set_option maxHeartbeats 4000000 in
theorem zret {ins : Instr} {r : Option Value} (hd : decode (zmb y) pc = .ok (ins, len)) (hlen : zlen ins len = true) (hsp : zspec y (pc, ins, len, v, a, b, k, [], ts) = true) (hs : zstep S (pc, ins, len, v, a, b, k, [], ts) lv st sh M = some (ps, .inr (.inr (.inr (r, sh', M'))))) (hps : zall ps) : sh' = sh ∧ M' = M ∧ st = r.toList ∧ zRet y pc r := by
  unfold zstep at hs
  dsimp only at hs
  split at hs
  all_goals first
    | (cases hs; done)
    | skip
  all_goals (try (exfalso; first | (unfold zld at hs; (repeat' split at hs) <;> (cases hs; done)) | (unfold zgf at hs; (repeat' split at hs) <;> (cases hs; done)) | (unfold zpf at hs; (repeat' split at hs) <;> (cases hs; done))))
  all_goals (try (exfalso; (repeat' split at hs) <;> first | (cases hs; done) | (unfold zcall at hs; (repeat' split at hs) <;> (cases hs; done)) | (unfold zcpy at hs; (repeat' split at hs) <;> (cases hs; done)) | (unfold zmath at hs; (repeat' split at hs) <;> (cases hs; done))))
  · have hl1 : len = 1 := zbeq.mp hlen
    subst hl1
    split at hs
    · cases hs
      exact ⟨rfl, rfl, rfl, hd, Or.inl (of_decide_eq_true hsp)⟩
    · cases hs
      rename_i hk
      refine ⟨rfl, rfl, rfl, hd, Or.inr ⟨?_, hps.1⟩⟩
      rcases k with _ | k
      · exact absurd rfl hk
      · exact of_decide_eq_true hsp
  · have hl1 : len = 1 := zbeq.mp hlen
    subst hl1
    cases hs
    exact ⟨rfl, rfl, rfl, hd, of_decide_eq_true hsp⟩
  · have hl1 : len = 1 := zbeq.mp hlen
    subst hl1
    cases hs
    exact ⟨rfl, rfl, rfl, hd, of_decide_eq_true hsp⟩
end ZSound
