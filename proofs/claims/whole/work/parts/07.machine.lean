/-! The plain machine: values, locals as a list, shapes of the cells, numbers of the cells. -/
def zA (M : zM) (r : Nat) (f : Nat → Int32) : zM := fun q => if q = r then f else M q
def zw (M : zM) (r j : Nat) (x : Int32) : zM := zA M r (upd (M r) j x)
def zget (i : Nat) : zL → Option Value
  | [] => none
  | q :: l => match Nat.beq q.1 i with
    | true => some q.2
    | false => zget i l
def zput1 (i : Nat) (v : Value) (lv : zL) : zL := (i, v) :: lv.filter (fun q => !(q.1 == i) && !(q.1 + 1 == i && q.2.category == 2))
def zput2 (i : Nat) (v : Value) (lv : zL) : zL := (i, v) :: lv.filter (fun q => !(q.1 == i) && (!(q.1 == i + 1) && !(q.1 + 1 == i && q.2.category == 2)))
def zpk : List Nat → zL → zL
  | [], _ => []
  | k :: ks, lv => match zget k lv with
    | some v => (k, v) :: zpk ks lv
    | none => zpk ks lv
def zpick (ks : List Nat) (lv : zL) : zL := match ks with
  | [] => lv
  | k :: l => zpk (k :: l) lv
def zall : List Prop → Prop
  | [] => True
  | p :: l => p ∧ zall l
def zlk1 (pc : Nat) : List zN → Option zN
  | [] => none
  | e :: l => match Nat.beq e.1 pc with
    | true => some e
    | false => zlk1 pc l
def zlk (pc : Nat) : List (Nat × List zN) → Option zN
  | [] => none
  | q :: l => match Nat.ble pc q.1 with
    | true => zlk1 pc q.2
    | false => zlk pc l
/-- kind and length of an array -/
def zar (sh : List zS) (k : Nat) : Option (Nat × Nat) := match sh[k]? with
  | some s => some (s.1, s.2.1)
  | none => none
/-- the script: how many ints, which; its cell is 0 -/
abbrev zSc : Type := Nat × (Nat → Int32)
def zcz (c : ClassFile.Cond) (x : Int32) : Prop := match c with
  | .eq => x = 0
  | .ne => ¬ x = 0
  | .lt => x < 0
  | .ge => 0 ≤ x
  | .gt => 0 < x
  | .le => x ≤ 0
def zcc (c : ClassFile.Cond) (x y : Int32) : Prop := match c with
  | .eq => x = y
  | .ne => ¬ x = y
  | .lt => x < y
  | .ge => y ≤ x
  | .gt => y < x
  | .le => x ≤ y
def zcats (st : List Value) : Nat := (st.map fun v => v.category).sum
def zN1 (v : Value) : Bool := match v with
  | .int _ => true
  | .ref _ => true
  | _ => false
def ztab (lo hi : Int) (d : Nat) (ts : List Nat) (x : Int32) : Nat := if x.toInt < lo ∨ hi < x.toInt then d else ts.getD (x.toInt - lo).toNat d
def zlup : List (Int × Int) → List Nat → Nat → Int → Nat
  | (k, _) :: ps, t :: ts, d, x => if x = k then t else zlup ps ts d x
  | _, _, d, _ => d
def zkind (sh : List zS) (k : Nat) : Option Nat := match sh[k]? with
  | some s => some s.1
  | none => none
abbrev zRr : Type := Option (List Prop × zO)
abbrev znx (pc : Nat) (lv : zL) (st : List Value) (sh : List zS) (M : zM) : zRr := some ([], .inl (pc, lv, st, sh, M))
abbrev znp (ps : List Prop) (pc : Nat) (lv : zL) (st : List Value) (sh : List zS) (M : zM) : zRr := some (ps, .inl (pc, lv, st, sh, M))
def zld (i pc : Nat) (lv : zL) (st : List Value) (sh : List zS) (M : zM) (k : Nat) : zRr := match zget i lv with
  | some (.int x) => match k with
    | 0 => znx pc lv (.int x :: st) sh M
    | _ => none
  | some (.long x) => match k with
    | 1 => znx pc lv (.long x :: st) sh M
    | _ => none
  | some (.ref x) => match k with
    | 2 => znx pc lv (.ref x :: st) sh M
    | _ => none
  | _ => none
def zgf (ci k : Nat) (r pc : Nat) (lv : zL) (st : List Value) (sh : List zS) (M : zM) : zRr := match r with
  | 0 => none
  | q + 1 => match sh[q]? with
    | none => none
    | some s => match Nat.beq s.1 (ci + 3) with
      | false => none
      | true => match s.2.2[k]? with
        | some (.int _) => znx pc lv (.int (M (q + 1) k) :: st) sh M
        | some (.ref a) => znx pc lv (.ref a :: st) sh M
        | _ => none
def zpf (ci k c : Nat) (v : Value) (r pc : Nat) (lv : zL) (st : List Value) (sh : List zS) (M : zM) : zRr := match r with
  | 0 => none
  | q + 1 => match sh[q]? with
    | none => none
    | some s => match Nat.beq s.1 (ci + 3) with
      | false => none
      | true => match s.2.2[k]?, v, c with
        | some (.int _), .int x, 0 => znx pc lv st sh (zw M (q + 1) k x)
        | some (.int _), .int x, 1 => znp [x = 0 ∨ x = 1] pc lv st sh (zw M (q + 1) k x)
        | some .null, .ref a, 2 => znx pc lv st (sh.set q (s.1, s.2.1, s.2.2.set k (.ref a))) M
        | _, _, _ => none
/-- a call's frame: the values taken, the rest's words few, the locals enough -/
def zcall (y n : Nat) (as rest : List Value) (pc : Nat) (lv : zL) (sh : List zS) (M : zM) : zRr := match Nat.ble (zcats rest) 8, Nat.ble (zcats as) (zmx y) with
  | true, true => some ([], .inr (.inr (.inl (y, as, (pc, lv, rest, sh, M)))))
  | _, _ => none
def zcpy (as : List Value) (rest : List Value) (pc : Nat) (lv : zL) (sh : List zS) (M : zM) : zRr := match as with
  | [.ref r0, .int sp, .ref r1, .int dp, .int n] => match r0, r1 with
    | k0 + 1, k1 + 1 => match sh[k0]?, sh[k1]? with
      | some s0, some s1 => match s0.1, s1.1, Nat.ble (zcats rest) 8 with
        | 0, 0, true => znp [¬ sp < 0, ¬ dp < 0, ¬ n < 0, sp.toNatClampNeg + n.toNatClampNeg ≤ s0.2.1, dp.toNatClampNeg + n.toNatClampNeg ≤ s1.2.1] pc lv rest sh (zA M (k1 + 1) (va_cpy (M (k0 + 1)) (M (k1 + 1)) sp.toNatClampNeg dp.toNatClampNeg n.toNatClampNeg))
        | _, _, _ => none
      | _, _ => none
    | _, _ => none
  | _ => none
/-- Math.max, Math.max of longs, Math.min -/
def zmath (k : Nat) (st : List Value) (pc : Nat) (lv : zL) (sh : List zS) (M : zM) : zRr := match Nat.ble (zcats (st.drop 2)) 8 with
  | false => none
  | true => match k, st with
    | 0, .int y :: .int x :: rest => znx pc lv (.int (if x < y then y else x) :: rest) sh M
    | 1, .long y :: .long x :: rest => znx pc lv (.long (if y < x then x else y) :: rest) sh M
    | 2, .int y :: .int x :: rest => znx pc lv (.int (if y < x then y else x) :: rest) sh M
    | _, _ => none
def zstep (S : zSc) (e : zN) (lv0 : zL) (st : List Value) (sh : List zS) (M : zM) : zRr := match e with
  | (pc, ins, len, v, a, b, c, nrm, ts) => match ins, zpick nrm lv0, st with
    | .iconst _, lv, st => znx (pc + len) lv (v :: st) sh M
    | .bipush _, lv, st => znx (pc + len) lv (v :: st) sh M
    | .sipush _, lv, st => znx (pc + len) lv (v :: st) sh M
    | .lconst _, lv, st => znx (pc + len) lv (v :: st) sh M
    | .ldc_w _, lv, st => znx (pc + len) lv (v :: st) sh M
    | .ldc2_w _, lv, st => znx (pc + len) lv (v :: st) sh M
    | .iload_n i, lv, st => zld i.val (pc + len) lv st sh M 0
    | .iload i, lv, st => zld i (pc + len) lv st sh M 0
    | .lload_n i, lv, st => zld i.val (pc + len) lv st sh M 1
    | .lload i, lv, st => zld i (pc + len) lv st sh M 1
    | .aload_n i, lv, st => zld i.val (pc + len) lv st sh M 2
    | .istore_n i, lv, .int x :: st => znx (pc + len) (zput1 i.val (.int x) lv) st sh M
    | .istore i, lv, .int x :: st => znx (pc + len) (zput1 i (.int x) lv) st sh M
    | .lstore_n i, lv, .long x :: st => znx (pc + len) (zput2 i.val (.long x) lv) st sh M
    | .lstore i, lv, .long x :: st => znx (pc + len) (zput2 i (.long x) lv) st sh M
    | .astore_n i, lv, .ref x :: st => znx (pc + len) (zput1 i.val (.ref x) lv) st sh M
    | .iinc i _, lv, st => match zget i lv, v with
      | some (.int x), .int d => znx (pc + len) (zput1 i (.int (x + d)) lv) st sh M
      | _, _ => none
    | .iadd, lv, .int y :: .int x :: st => znx (pc + len) lv (.int (x + y) :: st) sh M
    | .isub, lv, .int y :: .int x :: st => znx (pc + len) lv (.int (x - y) :: st) sh M
    | .imul, lv, .int y :: .int x :: st => znx (pc + len) lv (.int (x * y) :: st) sh M
    | .iand, lv, .int y :: .int x :: st => znx (pc + len) lv (.int (x &&& y) :: st) sh M
    | .ior, lv, .int y :: .int x :: st => znx (pc + len) lv (.int (x ||| y) :: st) sh M
    | .ishl, lv, .int y :: .int x :: st => znx (pc + len) lv (.int (x <<< (y &&& 31)) :: st) sh M
    | .ishr, lv, .int y :: .int x :: st => znx (pc + len) lv (.int (x >>> (y &&& 31)) :: st) sh M
    | .iushr, lv, .int y :: .int x :: st => znx (pc + len) lv (.int ((x.toUInt32 >>> (y.toUInt32 &&& Int32.toUInt32 31)).toInt32) :: st) sh M
    | .idiv, lv, .int y :: .int x :: st => znp [¬ y = 0] (pc + len) lv (.int (x / y) :: st) sh M
    | .irem, lv, .int y :: .int x :: st => znp [¬ y = 0] (pc + len) lv (.int (x - x / y * y) :: st) sh M
    | .ineg, lv, .int x :: st => znx (pc + len) lv (.int (-x) :: st) sh M
    | .ladd, lv, .long y :: .long x :: st => znx (pc + len) lv (.long (x + y) :: st) sh M
    | .lsub, lv, .long y :: .long x :: st => znx (pc + len) lv (.long (x - y) :: st) sh M
    | .lmul, lv, .long y :: .long x :: st => znx (pc + len) lv (.long (x * y) :: st) sh M
    | .ldiv, lv, .long y :: .long x :: st => znp [¬ y = 0] (pc + len) lv (.long (x / y) :: st) sh M
    | .lrem, lv, .long y :: .long x :: st => znp [¬ y = 0] (pc + len) lv (.long (x - x / y * y) :: st) sh M
    | .lcmp, lv, .long y :: .long x :: st => znx (pc + len) lv (.int (lg_cmp x y) :: st) sh M
    | .i2l, lv, .int x :: st => znx (pc + len) lv (.long x.toInt64 :: st) sh M
    | .dup, lv, va :: st => match zN1 va with
      | true => znx (pc + len) lv (va :: va :: st) sh M
      | false => none
    | .dup2, lv, va :: vb :: st => match zN1 va, zN1 vb with
      | true, true => znx (pc + len) lv (va :: vb :: va :: vb :: st) sh M
      | _, _ => none
    | .pop, lv, va :: st => match zN1 va with
      | true => znx (pc + len) lv st sh M
      | false => none
    | .goto _, lv, st => znx a lv st sh M
    | .ifCond c0 _, lv, .int x :: st => some ([], .inr (.inl (zcz c0 x, a, (pc + len, lv, st, sh, M))))
    | .if_icmp c0 _, lv, .int y :: .int x :: st => some ([], .inr (.inl (zcc c0 x y, a, (pc + len, lv, st, sh, M))))
    | .tableswitch _ lo hi _, lv, .int x :: st => znx (ztab lo hi a ts x) lv st sh M
    | .lookupswitch _ ps, lv, .int x :: st => znx (zlup ps.toList ts a x.toInt) lv st sh M
    | .iaload, lv, .int i :: .ref 0 :: st => znp [vp_in i S.1] (pc + len) lv (.int (S.2 i.toNatClampNeg) :: st) sh M
    | .iaload, lv, .int i :: .ref (k + 1) :: st => match zar sh k with
      | some (0, n) => znp [vp_in i n] (pc + len) lv (.int (M (k + 1) i.toNatClampNeg) :: st) sh M
      | _ => none
    | .baload, lv, .int i :: .ref (k + 1) :: st => match zar sh k with
      | some (1, n) => znp [vp_in i n] (pc + len) lv (.int (M (k + 1) i.toNatClampNeg) :: st) sh M
      | _ => none
    | .iastore, lv, .int x :: .int i :: .ref (k + 1) :: st => match zar sh k with
      | some (0, n) => znp [vp_in i n] (pc + len) lv st sh (zw M (k + 1) i.toNatClampNeg x)
      | _ => none
    | .bastore, lv, .int x :: .int i :: .ref (k + 1) :: st => match zar sh k with
      | some (1, n) => znp [vp_in i n, x = 0 ∨ x = 1] (pc + len) lv st sh (zw M (k + 1) i.toNatClampNeg x)
      | _ => none
    | .arraylength, lv, .ref 0 :: st => znx (pc + len) lv (.int (Int32.ofNat S.1) :: st) sh M
    | .arraylength, lv, .ref (k + 1) :: st => match zar sh k with
      | some (0, n) => znx (pc + len) lv (.int (Int32.ofNat n) :: st) sh M
      | some (1, n) => znx (pc + len) lv (.int (Int32.ofNat n) :: st) sh M
      | _ => none
    | .aaload, lv, .int i :: .ref (k + 1) :: st => match sh[k]? with
      | some (2, n, fs) => match fs.getD i.toNatClampNeg .null with
        | .ref q => znp [vp_in i n] (pc + len) lv (.ref q :: st) sh M
        | _ => none
      | _ => none
    | .aastore, lv, .ref (q + 1) :: .int i :: .ref (k + 1) :: st => match sh[k]?, zkind sh q with
      | some (2, n, fs), some 9 => znp [vp_in i n, i.toNatClampNeg < fs.length] (pc + len) lv st (sh.set k (2, n, fs.set i.toNatClampNeg (.ref (q + 1)))) M
      | _, _ => none
    | .getfield _, lv, .ref r :: st => zgf a b r (pc + len) lv st sh M
    | .putfield _, lv, x :: .ref r :: st => zpf a b c x r (pc + len) lv st sh M
    | .new _, lv, st => znp [∀ j, M (sh.length + 1) j = 0] (pc + len) lv (.ref (sh.length + 1) :: st) (sh ++ [(a + 3, b, zdf a)]) M
    | .newarray _, lv, .int n :: st => znp [¬ n < 0, n.toNatClampNeg ≤ 100000, ∀ j, M (sh.length + 1) j = 0] (pc + len) lv (.ref (sh.length + 1) :: st) (sh ++ [(a, n.toNatClampNeg, [])]) M
    | .anewarray _, lv, .int n :: st => znp [¬ n < 0, n.toNatClampNeg ≤ 100000] (pc + len) lv (.ref (sh.length + 1) :: st) (sh ++ [(2, n.toNatClampNeg, List.replicate n.toNatClampNeg .null)]) M
    | .invokevirtual _, lv, st => match st.drop b with
      | .ref (k + 1) :: rest => match zkind sh k with
        | some kd => match Nat.beq kd (c + 3) with
          | true => zcall a b (.ref (k + 1) :: (st.take b).reverse) rest (pc + len) lv sh M
          | false => none
        | none => none
      | _ => none
    | .invokestatic _, lv, st => match c with
      | 0 => match Nat.ble b st.length with
        | true => zcall a b (st.take b).reverse (st.drop b) (pc + len) lv sh M
        | false => none
      | 1 => zcpy (st.take 5).reverse (st.drop 5) (pc + len) lv sh M
      | k + 2 => zmath k st (pc + len) lv sh M
    | .invokespecial _, lv, st => match c with
      | 0 => match st with
        | .ref _ :: rest => match Nat.ble (zcats rest) 8 with
          | true => znx (pc + len) lv rest sh M
          | false => none
        | _ => none
      | _ => match st.drop b with
        | .ref (k + 1) :: rest => zcall a b (.ref (k + 1) :: (st.take b).reverse) rest (pc + len) lv sh M
        | _ => none
    | .ireturn, _, [.int x] => match c with
      | 0 => some ([], .inr (.inr (.inr (some (.int x), sh, M))))
      | _ => some ([x = 0 ∨ x = 1], .inr (.inr (.inr (some (.int x), sh, M))))
    | .lreturn, _, [.long x] => some ([], .inr (.inr (.inr (some (.long x), sh, M))))
    | .return_, _, [] => some ([], .inr (.inr (.inr (none, sh, M))))
    | _, _, _ => none
def zgo1 (S : zSc) (y : Nat) (s : zC) : zRr := match s with
  | (pc, lv, st, sh, M) => match zlk pc (zcode y) with
    | none => none
    | some e => zstep S e lv st sh M
def zsl (sh : List zS) : Nat := (sh.map fun s => s.2.1).sum
/-- within f steps the method returns, with Q -/
def zX (S : zSc) : Nat → Nat → zC → (Option Value → List zS → zM → Prop) → Prop
  | 0, _, _, _ => False
  | f + 1, y, s, Q => match zgo1 S y s with
    | none => False
    | some (ps, .inl s') => zall ps ∧ zX S f y s' Q
    | some (ps, .inr (.inl (P, t, (pc, lv, st, sh, M)))) => zall ps ∧ (P → zX S f y (t, lv, st, sh, M) Q) ∧ (¬ P → zX S f y (pc, lv, st, sh, M) Q)
    | some (ps, .inr (.inr (.inl (y', as, (pc, lv, st, sh, M))))) => zall ps ∧ zX S f y' (0, lv_args 0 as, [], sh, M) (fun r sh' M' => (sh'.length = sh.length + zmc y' ∧ zsl sh' = zsl sh + zms y') ∧ zX S f y (pc, lv, r.toList ++ st, sh', M') Q)
    | some (ps, .inr (.inr (.inr (r, sh, M)))) => zall ps ∧ Q r sh M
