section ZWhole
/-- a method's contract, out of a run of the plain machine -/
def zMt (l : Launch) (S : zSc) (G : zG) (y : Nat) (as : List Value) (sh : List zS) (M : zM) (Qa : Option Value → List zS → zM → Prop) : Prop :=
  Met l (zmn y) (Cond.code (zmn y) (zmb y) (zmx y) (zmr y) :: lw_g) { frames := zfr y, cells := zmc y, slots := zms y, locals := zlo y } (va_Pc (as.map (ztr G)) (fun U => zH G sh M U.heap ∧ zK G U ∧ va_X G.1 S.1 S.2 U U.heap ∧ G.1 < G.2.1))
    (fun _ st oc t => (∃ (r : Option Value) (sh' : List zS) (M' : zM), oc = .returned (r.map (ztr G)) ∧ Qa r sh' M' ∧ zH G sh' M' t.heap) ∧ va_F (fun q => G.2.1 ≤ q) st t) (zmc y) (zms y) (fun q => G.2.1 ≤ q)
def zFin (p : Program) (l : Launch) (e : Env) (R : Room) (s : State) (m : MethodId) (args : Array Value) (below : List Frame) (meth : Method) (c : Code) (Q : State → Prop) (G : zG) (y n0 s0 : Nat) (Qa : Option Value → List zS → zM → Prop) : Prop :=
  ∀ (r : Option Value) (sh' : List zS) (M' : zM) (H' : Heap) (locs' : List Loc) (cells' slots' : Nat) (ls' : Array Slot) (pc' : Nat), Qa r sh' M' → zH G sh' M' H' → va_S (fun q => G.2.1 ≤ q) s.heap H' locs' → cells' + n0 = sh'.length → slots' + s0 = zsl sh' → zRet y pc' r → W p l e R s m args below meth c H' locs' cells' slots' Q (F0 m pc' ls' (r.map (ztr G)).toList)
def zSnd (l : Launch) (f : Nat) : Prop := ∀ (p : Program) (e : Env) (R : Room) (s : State) (m : MethodId) (args : Array Value) (below : List Frame) (meth : Method) (c : Code) (Q : State → Prop) (S : zSc) (G : zG) (y : Nat) (n0 s0 : Nat) (Qa : Option Value → List zS → zM → Prop), y < 213 → zFr p R s m args meth c S G y → (∀ r sh' M', Qa r sh' M' → sh'.length ≤ n0 + R.cells ∧ zsl sh' ≤ s0 + R.slots) → zFin p l e R s m args below meth c Q G y n0 s0 Qa →
  ∀ (H : Heap) (locs : List Loc) (cells slots : Nat) (ls : Array Slot) (pc : Nat) (lv : zL) (st : List Value) (sh : List zS) (M : zM), zX S f y (pc, lv, st, sh, M) Qa → zH G sh M H → va_S (fun q => G.2.1 ≤ q) s.heap H locs → lv_has ls (zmx y) (zlm G lv) → cells + n0 = sh.length → slots + s0 = zsl sh → W p l e R s m args below meth c H locs cells slots Q (F0 m pc ls (st.map (ztr G)))
theorem zwords (y : Nat) (hy : y < 212) : Cond.code (zmn y) (zmb y) (zmx y) (zmr y) ∈ lw_g ∧ plainName (zmn y).cls = true := by
  have h := zmcode_ok y hy
  unfold zmcode at h
  rw [Bool.and_eq_true] at h
  exact ⟨zg (zat_mem h.1) rfl, h.2⟩
theorem zGood (y : Nat) (hy : y < 212) : GoodIn lw_g (Cond.code (zmn y) (zmb y) (zmx y) (zmr y) :: lw_g) := by
  intro w hw
  rcases List.mem_cons.mp hw with rfl | hw
  · exact zgG _ (zwords y hy).1
  · exact zgG _ hw
theorem zcls_own (y : Nat) (hy : y < 213) : (zmn y).cls = zown (zmo y) := by
  have h := zmchk_ok y hy
  unfold zmchk at h
  rw [Bool.and_eq_true] at h
  exact of_decide_eq_true h.2
set_option maxHeartbeats 4000000 in
/-- the contract of a method, if the frames of f steps are sound -/
theorem zmet {l : Launch} {f : Nat} (ih : zSnd l f) {S : zSc} {G : zG} {y : Nat} (hy : y < 212) {as : List Value} {sh : List zS} {M : zM} {Qa : Option Value → List zS → zM → Prop} (hX : zX S f y (0, lv_args 0 as, [], sh, M) Qa) (hc : zcats as ≤ zmx y) (hQ : ∀ r sh' M', Qa r sh' M' → sh'.length = sh.length + zmc y ∧ zsl sh' = zsl sh + zms y) : zMt l S G y as sh M Qa := by
  have hw := zwords y hy
  refine Met.ofW (cc := zmb y) (maxL := zmx y) (ret := zmr y) hw.2 rfl ?_
  intro p e s m args below meth c s₁ B hml hv
  obtain ⟨rfl, hH, hK, hXx, hbb⟩ := hv
  have hx := B.exec
  have hb := B.bytes
  have hr := B.returns
  have hts := atoms_spec (ws := Cond.code (zmn y) (zmb y) (zmx y) (zmr y) :: lw_g) B.pre
  have hown : s.vm.findClass (zmn y).cls = some m.cls := findClass_of_methodNamed B.named
  have hlocks := B.notSynchronized
  have hin : meth.name = (zmn y).name := (name_of_methodNamed B.named B.method).1
  have hl := lv_entry (as.map (ztr G)) (n := zmx y) (by rw [zlg_sl]; exact hc)
  rw [lg_entry_eq]
  generalize (lg_sl (as.map (ztr G)) ++ List.replicate (zmx y - (lg_sl (as.map (ztr G))).length) Slot.unset).toArray = ls at hl ⊢
  rw [zlv_args] at hl
  have hbs : G.2.1 ≤ s.heap.size := by rw [hH.1]; omega
  refine ih p e _ s m _ below meth c _ S G y sh.length (zsl sh) Qa (by omega) ⟨hx, hb, hml, by rw [← zcls_own y (by omega)]; exact hown, fun w h => hts w (List.mem_cons_of_mem _ h), hK, hXx, hbb, hbs, fun h => by rw [hin]; exact beq_iff_eq.mp h, Nat.le_refl _, Nat.le_refl _⟩ (fun r sh' M' h => ?_) ?_ s.heap [] 0 0 ls 0 _ [] sh M hX hH va_S.rf hl (by omega) (by omega)
  · have := hQ r sh' M' h
    exact ⟨Nat.le_of_eq this.1, Nat.le_of_eq this.2⟩
  · intro r sh' M' H' locs' cells' slots' ls' pc' hq hH' hS' hc' hs' hret
    have hg := hQ r sh' M' hq
    have e1 : cells' = zmc y := by omega
    have e2 : slots' = zms y := by omega
    subst e1
    subst e2
    have post : ∀ t : State, t.heap = H' → s.WarmedH t.vm → (∃ (r' : Option Value) (sh' : List zS) (M' : zM), Outcome.returned (r.map (ztr G)) = .returned (r'.map (ztr G)) ∧ Qa r' sh' M' ∧ zH G sh' M' t.heap) ∧ va_F (fun q => G.2.1 ≤ q) s t := fun t ht _ => ⟨⟨r, sh', M', rfl, hq, by rw [ht]; exact hH'⟩, hS'.F ht⟩
    rcases r with _ | (x | x | x | x | _ | x | x)
    · exact W.vret hx hb (hr.trans hret.2) post hS'.2.2 hret.1
    · rcases hret.2 with h | ⟨h, hb01⟩
      · exact W.iret hx hb (hr.trans h) post hS'.2.2 hret.1
      · exact W.zret hx hb (hr.trans h) (by rcases hb01 with rfl | rfl <;> decide) post hS'.2.2 hret.1
    · exact W.lret hx hb (hr.trans hret.2) post hS'.2.2 hret.1
    · exact hret.elim
    · exact hret.elim
    · exact hret.elim
    · exact hret.elim
    · exact hret.elim
theorem zMt_blind {S : zSc} {G : zG} {as : List Value} {sh : List zS} {M : zM} : FrameBlind (va_Pc (as.map (ztr G)) (fun U => zH G sh M U.heap ∧ zK G U ∧ va_X G.1 S.1 S.2 U U.heap ∧ G.1 < G.2.1)) := by
  intro a U g mk h
  obtain ⟨h1, h2, h3, h4, h5⟩ := h
  exact ⟨h1, h2, h3.call, va_X.moved (u := U) (U := U.calling g mk a) (Vm.Alike.refl U.vm) h4, h5⟩
set_option maxHeartbeats 4000000 in
theorem zcall_go {p : Program} {l : Launch} {e : Env} {R : Room} {s : State} {m : MethodId} {args : Array Value} {below : List Frame} {meth : Method} {c : Code} {H : Heap} {locs : List Loc} {cells slots : Nat} {Q : State → Prop} {G : zG} {mc ms pc : Nat} {ls : Array Slot} {st0 : List Value} {rest : List Value} {Qa : Option Value → List zS → zM → Prop}
    (hr : va_Run p l e R s m args below meth c H locs cells slots mc ms (F0 m pc ls st0) (rest.map (ztr G)) (fun st oc t => (∃ (r : Option Value) (sh' : List zS) (M' : zM), oc = .returned (r.map (ztr G)) ∧ Qa r sh' M' ∧ zH G sh' M' t.heap) ∧ va_F (fun q => G.2.1 ≤ q) st t) (fun q => G.2.1 ≤ q)) (hS : va_S (fun q => G.2.1 ≤ q) s.heap H locs)
    (kk : ∀ (r : Option Value) (sh' : List zS) (M' : zM) (H1 : Heap) (locs1 : List Loc), Qa r sh' M' → zH G sh' M' H1 → va_S (fun q => G.2.1 ≤ q) s.heap H1 locs1 → W p l e R s m args below meth c H1 locs1 (cells + mc) (slots + ms) Q (F0 m (pc + 3) ls ((r.toList ++ rest).map (ztr G)))) : W p l e R s m args below meth c H locs cells slots Q (F0 m pc ls st0) := by
  intro T hT X
  obtain ⟨v, st₀, t, T', L, h0, X', hL, e1, e2, ⟨⟨r, sh', M', hv, hq, hH'⟩, hz, hk⟩, st⟩ := hr T hT X
  have hv : v = r.map (ztr G) := Outcome.returned.inj hv
  subst hv
  rw [h0] at hz hk
  rw [← e1] at hz hk hH'
  have e3 : (r.toList ++ rest).map (ztr G) = (r.map (ztr G)).toList ++ rest.map (ztr G) := by cases r <;> rfl
  have hk2 := kk r sh' M' T'.heap (locs ++ L) hq hH' ⟨Nat.le_trans hS.1 hz, fun q h1 h2 => by rw [hk q (Nat.lt_of_lt_of_le h1 hS.1) h2]; exact hS.2.1 q h1 h2, fun q hq => by
      rcases List.mem_append.mp hq with h | h
      · exact hS.2.2 q h
      · exact hL q h⟩
  rw [e3] at hk2
  obtain ⟨t2, a1, b1⟩ := hk2 T' rfl X'
  exact ⟨t2, st t2 a1, b1⟩
end ZWhole
