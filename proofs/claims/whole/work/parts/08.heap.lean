/-! The plain machine's cells as the machine's heap. b: the script's cell; base: where the cells begin. -/
abbrev zG : Type := Nat × Nat × va_G × ClassId × ClassId × ClassId
def zad (G : zG) (r : Nat) : Nat := match r with
  | 0 => G.1
  | k + 1 => G.2.1 + k
def ztr (G : zG) (v : Value) : Value := match v with
  | .ref r => .ref (zad G r)
  | .int x => .int x
  | .long x => .long x
  | .float x => .float x
  | .double x => .double x
  | .null => .null
  | .retAddr x => .retAddr x
theorem ztr_cat (G : zG) (v : Value) : (ztr G v).category = v.category := by cases v <;> rfl
def zfv (G : zG) (x : Int32) (v : Value) : Value := match v with
  | .int _ => .int x
  | v => ztr G v
def zrf (G : zG) (v : Value) : Option Nat := match v with
  | .ref r => some (zad G r)
  | _ => none
def zcell (G : zG) (k : Nat) (s : zS) (f : Nat → Int32) : va_E := match s with
  | (0, n, _) => .inl (G.2.2.2.1, n, .inl f)
  | (1, n, _) => .inl (G.2.2.2.2.1, n, .inl f)
  | (2, n, fs) => .inl (G.2.2.2.2.2, n, .inr (.inr (.inr (.inr (fun j => zrf G (fs.getD j .null))))))
  | (c + 3, _, fs) => .inr (c, fs.mapIdx (fun j v => zfv G (f j) v))
def zws (G : zG) (sh : List zS) (M : zM) : va_W := sh.mapIdx (fun k s => (G.2.1 + k, zcell G k s (M (k + 1))))
theorem zcell_k {G : zG} {k j : Nat} {s : zS} {f : Nat → Int32} : zcell G k s f = zcell G j s f := by
  obtain ⟨a, n, fs⟩ := s
  match a with
  | 0 => rfl
  | 1 => rfl
  | 2 => rfl
  | c + 3 => rfl
theorem zws_get {G : zG} {sh : List zS} {M : zM} {k : Nat} {s : zS} (h : sh[k]? = some s) : (zws G sh M)[k]? = some (G.2.1 + k, zcell G k s (M (k + 1))) := by
  simp [zws, List.getElem?_mapIdx, h]
theorem zws_at {G : zG} {sh : List zS} {M : zM} {k : Nat} {p : Nat × va_E} (h : (zws G sh M)[k]? = some p) : p.1 = G.2.1 + k ∧ k < sh.length := by
  rw [zws, List.getElem?_mapIdx] at h
  cases hs : sh[k]? with
  | none => rw [hs] at h; cases h
  | some s =>
    rw [hs] at h
    cases h
    exact ⟨rfl, (List.getElem?_eq_some_iff.mp hs).1⟩
theorem zws_D (G : zG) (sh : List zS) (M : zM) : va_D (fun q => G.2.1 ≤ q) (zws G sh M) := by
  refine ⟨fun i j p q hi hj hpq => ?_, fun k q h => ?_⟩
  · have h1 := (zws_at hi).1
    have h2 := (zws_at hj).1
    omega
  · have := (zws_at h).1
    show G.2.1 ≤ q.1
    omega
theorem zws_set {G : zG} {sh : List zS} {M M' : zM} {k : Nat} {s0 s : zS} (h : sh[k]? = some s0) (hM : ∀ q, q ≠ k + 1 → M' q = M q) : (zws G sh M).set k (G.2.1 + k, zcell G k s (M' (k + 1))) = zws G (sh.set k s) M' := by
  apply List.ext_getElem?
  intro i
  have hk : k < sh.length := (List.getElem?_eq_some_iff.mp h).1
  by_cases hi : k = i
  · subst hi
    rw [List.getElem?_set_self (by simp [zws, hk]), zws_get (s := s) (by rw [List.getElem?_set_self hk])]
  · rw [List.getElem?_set_ne hi, zws, zws, List.getElem?_mapIdx, List.getElem?_mapIdx, List.getElem?_set_ne hi]
    rw [hM (i + 1) (by omega)]
theorem zset_self {sh : List zS} {k : Nat} {s : zS} (h : sh[k]? = some s) : sh.set k s = sh := by
  apply List.ext_getElem?
  intro i
  have hk : k < sh.length := (List.getElem?_eq_some_iff.mp h).1
  by_cases hi : k = i
  · subst hi
    rw [List.getElem?_set_self hk, h]
  · rw [List.getElem?_set_ne hi]
theorem zA_self (M : zM) (r : Nat) (f : Nat → Int32) : zA M r f r = f := by simp [zA]
theorem zA_ne {M : zM} {r q : Nat} {f : Nat → Int32} (h : q ≠ r) : zA M r f q = M q := by simp [zA, h]
/-- numbers of one cell written -/
theorem zws_write {G : zG} {sh : List zS} {M : zM} {k : Nat} {s : zS} (f : Nat → Int32) (h : sh[k]? = some s) : (zws G sh M).set k (G.2.1 + k, zcell G k s f) = zws G sh (zA M (k + 1) f) := by
  have h1 := zws_set (G := G) (M := M) (M' := zA M (k + 1) f) (s := s) h (fun q hq => zA_ne hq)
  rw [zA_self, zset_self h] at h1
  exact h1
theorem zws_push (G : zG) (sh : List zS) (M : zM) (s : zS) : zws G (sh ++ [s]) M = zws G sh M ++ [(G.2.1 + sh.length, zcell G sh.length s (M (sh.length + 1)))] := by
  simp [zws, List.mapIdx_concat]
/-- the heap holds the cells, and nothing lies behind them -/
def zH (G : zG) (sh : List zS) (M : zM) (H : Heap) : Prop := H.size = G.2.1 + sh.length ∧ va_P G.2.2.1 zcl (zws G sh M) H
abbrev ztys (G : zG) : List (ClassId × FieldType) := [(G.2.2.2.1, .int), (G.2.2.2.2.1, .boolean), (G.2.2.2.2.2, .object "SugarBelow$Town")]
def zK (G : zG) (U : State) : Prop := va_K G.2.2.1 zcl (ztys G) U ∧ (∀ w ∈ znest, va_Nw w U) ∧ va_AO "SugarBelow$Town" U
theorem zK.warm {G : zG} {s U : State} (hW : s.WarmedH U.vm) (h : zK G s) : zK G U := by
  refine ⟨va_K.moved hW.alike h.1, fun w hw => ?_, h.2.2.moved hW.alike⟩
  have h1 := h.2.1 w hw
  simp only [znest, List.mem_cons, List.not_mem_nil, or_false] at hw
  rcases hw with rfl | rfl | rfl | rfl | rfl | rfl <;> exact va_Nw.warmM hW h1
theorem zK.call {G : zG} {U : State} {g : JFrame} {mk : MethodId} {a : Array Value} (h : zK G U) : zK G (U.calling g mk a) := by
  refine ⟨va_K.moved (u := U) (U := U.calling g mk a) (Vm.Alike.refl U.vm) h.1, fun w hw => ?_, h.2.2.moved (U := U.calling g mk a) (Vm.Alike.refl U.vm)⟩
  have h1 := h.2.1 w hw
  simp only [znest, List.mem_cons, List.not_mem_nil, or_false] at hw
  rcases hw with rfl | rfl | rfl | rfl | rfl | rfl <;> exact va_Nw.same rfl (U := U.calling g mk a) rfl h1
/-! locals -/
def zlm (G : zG) (lv : zL) : List (Nat × Value) := lv.map (fun q => (q.1, ztr G q.2))
theorem zget_mem {i : Nat} : ∀ {lv : zL} {v : Value}, zget i lv = some v → (i, v) ∈ lv
  | [], _, h => by cases h
  | q :: l, v, h => by
    unfold zget at h
    cases hb : Nat.beq q.1 i with
    | true =>
      rw [hb] at h
      cases h
      have : q.1 = i := Nat.eq_of_beq_eq_true hb
      subst this
      exact List.mem_cons_self
    | false =>
      rw [hb] at h
      exact List.mem_cons_of_mem _ (zget_mem h)
theorem zget_lm {G : zG} {i : Nat} {lv : zL} {v : Value} (h : zget i lv = some v) : (i, ztr G v) ∈ zlm G lv := List.mem_map.mpr ⟨(i, v), zget_mem h, rfl⟩
theorem zlv_at {G : zG} {ls : Array Slot} {n i : Nat} {lv : zL} {v : Value} (hl : lv_has ls n (zlm G lv)) (h : zget i lv = some v) : ls[i]? = some (.val (ztr G v)) := hl.2.2 _ (zget_lm h)
theorem zpk_mem {q : Nat × Value} : ∀ {ks : List Nat} {lv : zL}, q ∈ zpk ks lv → q ∈ lv
  | [], _, h => by simp [zpk] at h
  | k :: ks, lv, h => by
    unfold zpk at h
    cases hk : zget k lv with
    | none => rw [hk] at h; exact zpk_mem h
    | some v =>
      rw [hk] at h
      rcases List.mem_cons.mp h with rfl | h
      · exact zget_mem hk
      · exact zpk_mem h
theorem zpick_mem {q : Nat × Value} {ks : List Nat} {lv : zL} (h : q ∈ zpick ks lv) : q ∈ lv := by
  cases ks with
  | nil => exact h
  | cons k l => exact zpk_mem h
theorem zpick_has {G : zG} {ls : Array Slot} {n : Nat} {lv : zL} (ks : List Nat) (hl : lv_has ls n (zlm G lv)) : lv_has ls n (zlm G (zpick ks lv)) := by
  refine ⟨hl.1, hl.2.1, fun q hq => ?_⟩
  obtain ⟨p, hp, rfl⟩ := List.mem_map.mp hq
  exact hl.2.2 _ (List.mem_map.mpr ⟨p, zpick_mem hp, rfl⟩)
theorem zput1_lm (G : zG) (i : Nat) (v : Value) (lv : zL) : (i, ztr G v) :: (zlm G lv).filter (fun q => !(q.1 == i) && !(q.1 + 1 == i && q.2.category == 2)) = zlm G (zput1 i v lv) := by
  simp only [zlm, zput1, List.map_cons, List.filter_map]
  congr 2
  apply List.filter_congr
  intro q _
  simp [ztr_cat]
theorem zput2_lm (G : zG) (i : Nat) (v : Value) (lv : zL) : (i, ztr G v) :: (zlm G lv).filter (fun q => !(q.1 == i) && (!(q.1 == i + 1) && !(q.1 + 1 == i && q.2.category == 2))) = zlm G (zput2 i v lv) := by
  simp only [zlm, zput2, List.map_cons, List.filter_map]
  congr 2
  apply List.filter_congr
  intro q _
  simp [ztr_cat]
theorem zlv_args (G : zG) : ∀ (i : Nat) (as : List Value), lv_args i (as.map (ztr G)) = zlm G (lv_args i as)
  | _, [] => rfl
  | i, v :: vs => by
    simp only [List.map_cons, lv_args, zlm, ztr_cat]
    rw [zlv_args G _ vs]
    rfl
theorem zcats_map (G : zG) (st : List Value) : ((st.map (ztr G)).map fun v => v.category).sum = zcats st := by
  rw [zcats, List.map_map]
  congr 1
  apply List.map_congr_left
  intro v _
  exact ztr_cat G v
theorem zlg_sl (G : zG) (as : List Value) : (lg_sl (as.map (ztr G))).length = zcats as := by
  induction as with
  | nil => rfl
  | cons v vs ih =>
    have e : lg_sl ((v :: vs).map (ztr G)) = (if (ztr G v).category = 2 then [.val (ztr G v), .second] else [.val (ztr G v)]) ++ lg_sl (vs.map (ztr G)) := rfl
    rw [e, List.length_append, ih, ztr_cat]
    have e2 : zcats (v :: vs) = v.category + zcats vs := by simp [zcats]
    rw [e2]
    rcases lv_cat v with h | h <;> simp [h]
/-! the words of a link -/
theorem zbeq {a b : Nat} : Nat.beq a b = true ↔ a = b := ⟨Nat.eq_of_beq_eq_true, fun h => by subst h; exact Nat.beq_refl a⟩
theorem zble {a b : Nat} : Nat.ble a b = true ↔ a ≤ b := ⟨Nat.le_of_ble_eq_true, Nat.ble_eq_true_of_le⟩
theorem zblt {a b : Nat} : Nat.blt a b = true ↔ a < b := zble
theorem zF_of {y i a b : Nat} (h : zhasF y i a b = true) : ∃ r : vw_C, zcl[a]? = some r ∧ b < r.2.2 ∧ Cond.fieldLink (zown (zmo y)) i (r.2.1 b).1 (r.2.1 b).2.1 (r.2.1 b).2.2.1 ∈ lw_tbl ∧ (r.2.1 b).1 = r.1 := by
  obtain ⟨⟨o, i', a', b', p⟩, hq, hb⟩ := List.any_eq_true.mp h
  simp only [Bool.and_eq_true, zbeq] at hb
  obtain ⟨⟨⟨h1, h2⟩, h3⟩, h4⟩ := hb
  subst h1; subst h2; subst h3; subst h4
  have hk := List.all_eq_true.mp zFL_ok _ hq
  unfold zflb at hk
  cases hc : zcl[a']? with
  | none => simp [hc] at hk
  | some r =>
    simp only [hc, Bool.and_eq_true] at hk
    exact ⟨r, rfl, zblt.mp hk.1.1, zat_mem hk.1.2, of_decide_eq_true hk.2⟩
theorem zC_of {y i a : Nat} (h : zhasC y i a = true) : ∃ r : vw_C, zcl[a]? = some r ∧ Cond.classLink (zown (zmo y)) i r.1 ∈ lw_tbl := by
  obtain ⟨⟨o, i', a', p⟩, hq, hb⟩ := List.any_eq_true.mp h
  simp only [Bool.and_eq_true, zbeq] at hb
  obtain ⟨⟨h1, h2⟩, h3⟩ := hb
  subst h1; subst h2; subst h3
  have hk := List.all_eq_true.mp zCL_ok _ hq
  unfold zclb at hk
  cases hc : zcl[a']? with
  | none => simp [hc] at hk
  | some r =>
    simp only [hc] at hk
    exact ⟨r, rfl, zat_mem hk⟩
theorem zM_of {y i k a b c : Nat} (h : zhasM y i k a b c = true) : ∃ p1 p2 p3 p4 : Nat, zmlb (zmo y, i, k, a, b, c, p1, p2, p3, p4) = true := by
  obtain ⟨⟨o, i', k', a', b', c', p1, p2, p3, p4⟩, hq, hb⟩ := List.any_eq_true.mp h
  simp only [Bool.and_eq_true, zbeq] at hb
  obtain ⟨⟨⟨⟨⟨h1, h2⟩, h3⟩, h4⟩, h5⟩, h6⟩ := hb
  subst h1; subst h2; subst h3; subst h4; subst h5; subst h6
  exact ⟨p1, p2, p3, p4, List.all_eq_true.mp zML_ok _ hq⟩
/-- what the tables say of a class of objects -/
theorem zcls_of {a : Nat} {r : vw_C} (h : zcl[a]? = some r) : (∀ w ∈ u_ws r.1 r.2.1 r.2.2, w ∈ lw_g) ∧ (∀ k, k < r.2.2 → parseFieldDescriptor (r.2.1 k).2.2.1 = some (zty r k)) ∧ (∀ x, x < r.2.2 → ∀ y, y < r.2.2 → x ≠ y → (r.2.1 x).2.1 ≠ (r.2.1 y).2.1) ∧ Cond.instantiable r.1 r.2.2 ∈ lw_g ∧ Cond.initialized r.1 ∈ lw_g ∧ (∀ k, k < r.2.2 → defaultValue (zty r k) = vp_V (zdf a) k) ∧ (zdf a).length = r.2.2 := by
  have ha : a < 11 := (List.getElem?_eq_some_iff.mp h).1
  have hk := List.all_eq_true.mp zcls_ok a (List.mem_range.mpr ha)
  unfold zclsb at hk
  simp only [h, Bool.and_eq_true, List.all_eq_true, List.mem_range, decide_eq_true_eq, zbeq, Bool.or_eq_true] at hk
  obtain ⟨⟨⟨⟨h1, h2⟩, h3⟩, h4⟩, h5⟩ := hk
  refine ⟨fun w hw => ?_, fun k hk => (h1 k hk).1.1.2, fun x hx y hy hne => ?_, zg (zat_mem h3) rfl, zg (zat_mem h4) rfl, fun k hk => (h1 k hk).2, h5⟩
  · obtain ⟨k, hk, rfl⟩ := List.mem_map.mp hw
    refine zg (zat_mem (h1 k (List.mem_range.mp hk)).1.1.1) ?_
    unfold u_lay
    split <;> rfl
  · rcases h2 x hx y hy with q | q
    · exact absurd q hne
    · exact q
