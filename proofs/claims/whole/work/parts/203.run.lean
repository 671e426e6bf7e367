section ZT
noncomputable def qW_thoughtOfBoth_L29 (M : zM) (p_sort : Int32) (rec3 : (Int32 × Int32) → Option (Int32)) (v : Int32 × Int32) : Option (Int32) := match v with
  | (v2_1, v3_2) =>
    if v3_2 < (M 63 0) then
      (zb (qW_freeGain M p_sort 0 v3_2) fun x4 =>
      zb (qW_freeGain M p_sort 1 v3_2) fun x5 =>
      rec3 ((v2_1 + (if x4 < x5 then x5 else x4)), (v3_2 + 1)))
    else
      (some v2_1)
noncomputable def qW_thoughtOfBoth (M : zM) (p_sort : Int32) : Option (Int32) :=
  zq (vp_in (p_sort * 2) 10) <| zq (vp_in ((p_sort * 2) + 1) 10) <| zlp (qW_thoughtOfBoth_L29 M p_sort) zfu (((-(M 12 (p_sort * 2).toNatClampNeg)) - (M 12 ((p_sort * 2) + 1).toNatClampNeg)), 0)
set_option maxRecDepth 20000 in
set_option maxHeartbeats 4000000 in
theorem qW_thoughtOfBoth_ok {S : zSc} {M : zM} {p_sort : Int32} {r : Int32} (h : qW_thoughtOfBoth M p_sort = some r) : zF S 70 (0, [(0, .ref 70), (1, .int p_sort)], [], zh, M) (some (.int r)) (M) := by
  unfold qW_thoughtOfBoth at h
  obtain ⟨g6, h⟩ := zq_some h
  obtain ⟨g7, h⟩ := zq_some h
  refine zF_go (n := 21) (ps := [vp_in (p_sort * 2) 10, vp_in ((p_sort * 2) + 1) 10]) (s' := (29, [(3, .int 0), (2, .int ((-(M 12 (p_sort * 2).toNatClampNeg)) - (M 12 ((p_sort * 2) + 1).toNatClampNeg))), (0, .ref 70), (1, .int p_sort)], [], zh, M)) rfl ⟨g6, g7, trivial⟩ ?_
  refine zF_same (s' := (29, [(0, .ref 70), (1, .int p_sort), (2, .int ((-(M 12 (p_sort * 2).toNatClampNeg)) - (M 12 ((p_sort * 2) + 1).toNatClampNeg))), (3, .int 0)], [], zh, M)) rfl ?_
  refine zlp_ind (P := fun (v : Int32 × Int32) r => zF S 70 (29, [(0, .ref 70), (1, .int p_sort), (2, .int v.1), (3, .int v.2)], [], zh, M) (some (.int r)) (M)) ?_ _ _ _ h
  intro rec3 hrec3 v r h
  obtain ⟨v2_1, v3_2⟩ := v
  unfold qW_thoughtOfBoth_L29 at h
  dsimp only at h
  show zF S 70 (29, [(0, .ref 70), (1, .int p_sort), (2, .int v2_1), (3, .int v3_2)], [], zh, M) _ _
  refine zF_go (n := 4) (ps := []) (s' := (37, [(0, .ref 70), (1, .int p_sort), (2, .int v2_1), (3, .int v3_2)], [.int (M 63 0), .int v3_2], zh, M)) rfl trivial ?_
  refine zF_ge (t := 66) (u := (40, [(0, .ref 70), (1, .int p_sort), (2, .int v2_1), (3, .int v3_2)], [], zh, M)) rfl (fun c8 => ?_) (fun c8 => ?_)
  · rw [if_neg c8] at h
    refine zF_go (n := 1) (ps := []) (s' := (67, [(0, .ref 70), (1, .int p_sort), (2, .int v2_1), (3, .int v3_2)], [.int v2_1], zh, M)) rfl trivial ?_
    cases h
    exact zF_ret rfl trivial
  · rw [if_pos c8] at h
    refine zF_go (n := 5) (ps := []) (s' := (45, [(0, .ref 70), (1, .int p_sort), (2, .int v2_1), (3, .int v3_2)], [.int v3_2, .int 0, .int p_sort, .ref 70, .int v2_1], zh, M)) rfl trivial ?_
    obtain ⟨x4, e9, h⟩ := zb_some h
    refine zF_call (y' := 71) (as := [.ref 70, .int p_sort, .int 0, .int v3_2]) (u := (48, [(0, .ref 70), (1, .int p_sort), (2, .int v2_1), (3, .int v3_2)], [.int v2_1], zh, M)) rfl ⟨rfl, rfl⟩ rfl (qW_freeGain_ok (S := S) (M := M) e9) ?_
    show zF S 70 (48, [(0, .ref 70), (1, .int p_sort), (2, .int v2_1), (3, .int v3_2)], [.int x4, .int v2_1], zh, M) _ _
    refine zF_go (n := 4) (ps := []) (s' := (52, [(0, .ref 70), (1, .int p_sort), (2, .int v2_1), (3, .int v3_2)], [.int v3_2, .int 1, .int p_sort, .ref 70, .int x4, .int v2_1], zh, M)) rfl trivial ?_
    obtain ⟨x5, e10, h⟩ := zb_some h
    refine zF_call (y' := 71) (as := [.ref 70, .int p_sort, .int 1, .int v3_2]) (u := (55, [(0, .ref 70), (1, .int p_sort), (2, .int v2_1), (3, .int v3_2)], [.int x4, .int v2_1], zh, M)) rfl ⟨rfl, rfl⟩ rfl (qW_freeGain_ok (S := S) (M := M) e10) ?_
    show zF S 70 (55, [(0, .ref 70), (1, .int p_sort), (2, .int v2_1), (3, .int v3_2)], [.int x5, .int x4, .int v2_1], zh, M) _ _
    refine zF_go (n := 5) (ps := []) (s' := (29, [(3, .int (v3_2 + 1)), (2, .int (v2_1 + (if x4 < x5 then x5 else x4))), (0, .ref 70), (1, .int p_sort)], [], zh, M)) rfl trivial ?_
    exact zF_as (hrec3 _ _ h) rfl
noncomputable def qS_thinks (M : zM) (p_sort : Int32) (p_what : Int32) : Option (Int64 × zM) :=
  zb (qS_noSort M p_sort) fun x1 =>
  if x1 = 0 then
    (zb (qS_isOut p_what 0 2) fun x2 =>
    if x2 = 0 then
      (zb (qS_lookAsItIs M) fun M3 =>
      if p_what = 2 then
        (zb (qW_thoughtOfBoth M3 p_sort) fun x5 =>
        some (x5.toInt64, M3))
      else
        (zb (qW_thoughtOf M3 p_sort p_what) fun x4 =>
        some (x4.toInt64, M3)))
    else
      (some ((-1000000000000000002), M)))
  else
    (some ((-1000000000000000001), M))
set_option maxRecDepth 20000 in
set_option maxHeartbeats 4000000 in
theorem qS_thinks_ok {S : zSc} {M : zM} {p_sort : Int32} {p_what : Int32} {r : Int64 × zM} (h : qS_thinks M p_sort p_what = some r) : zF S 99 (0, [(0, .ref 1), (1, .int p_sort), (2, .int p_what)], [], zh, M) (some (.long r.1)) (r.2) := by
  unfold qS_thinks at h
  refine zF_go (n := 2) (ps := []) (s' := (2, [(0, .ref 1), (1, .int p_sort), (2, .int p_what)], [.int p_sort, .ref 1], zh, M)) rfl trivial ?_
  obtain ⟨x1, e6, h⟩ := zb_some h
  refine zF_call (y' := 129) (as := [.ref 1, .int p_sort]) (u := (5, [(0, .ref 1), (1, .int p_sort), (2, .int p_what)], [], zh, M)) rfl ⟨rfl, rfl⟩ rfl (qS_noSort_ok (S := S) (M := M) e6) ?_
  show zF S 99 (5, [(0, .ref 1), (1, .int p_sort), (2, .int p_what)], [.int x1], zh, M) _ _
  refine zF_eq (t := 12) (u := (8, [(0, .ref 1), (1, .int p_sort), (2, .int p_what)], [], zh, M)) rfl (fun c7 => ?_) (fun c7 => ?_)
  · rw [if_pos c7] at h
    refine zF_go (n := 3) (ps := []) (s' := (15, [(0, .ref 1), (1, .int p_sort), (2, .int p_what)], [.int 2, .int 0, .int p_what], zh, M)) rfl trivial ?_
    obtain ⟨x2, e8, h⟩ := zb_some h
    refine zF_call (y' := 125) (as := [.int p_what, .int 0, .int 2]) (u := (18, [(0, .ref 1), (1, .int p_sort), (2, .int p_what)], [], zh, M)) rfl ⟨rfl, rfl⟩ rfl (qS_isOut_ok (S := S) (M := M) e8) ?_
    show zF S 99 (18, [(0, .ref 1), (1, .int p_sort), (2, .int p_what)], [.int x2], zh, M) _ _
    refine zF_eq (t := 25) (u := (21, [(0, .ref 1), (1, .int p_sort), (2, .int p_what)], [], zh, M)) rfl (fun c9 => ?_) (fun c9 => ?_)
    · rw [if_pos c9] at h
      refine zF_go (n := 1) (ps := []) (s' := (26, [(0, .ref 1), (1, .int p_sort), (2, .int p_what)], [.ref 1], zh, M)) rfl trivial ?_
      obtain ⟨M3, e10, h⟩ := zb_some h
      refine zF_call (y' := 132) (as := [.ref 1]) (u := (29, [(0, .ref 1), (1, .int p_sort), (2, .int p_what)], [], zh, M)) rfl ⟨rfl, rfl⟩ rfl (qS_lookAsItIs_ok (S := S) (M := M) e10) ?_
      show zF S 99 (29, [(0, .ref 1), (1, .int p_sort), (2, .int p_what)], [], zh, M3) _ _
      refine zF_go (n := 2) (ps := []) (s' := (31, [(0, .ref 1), (1, .int p_sort), (2, .int p_what)], [.int 2, .int p_what], zh, M3)) rfl trivial ?_
      refine zF_ne (t := 46) (u := (34, [(0, .ref 1), (1, .int p_sort), (2, .int p_what)], [], zh, M3)) rfl (fun c11 => ?_) (fun c11 => ?_)
      · rw [if_neg c11] at h
        refine zF_go (n := 4) (ps := []) (s' := (52, [(0, .ref 1), (1, .int p_sort), (2, .int p_what)], [.int p_what, .int p_sort, .ref 70], zh, M3)) rfl trivial ?_
        obtain ⟨x4, e12, h⟩ := zb_some h
        refine zF_call (y' := 69) (as := [.ref 70, .int p_sort, .int p_what]) (u := (55, [(0, .ref 1), (1, .int p_sort), (2, .int p_what)], [], zh, M3)) rfl ⟨rfl, rfl⟩ rfl (qW_thoughtOf_ok (S := S) (M := M3) e12) ?_
        show zF S 99 (55, [(0, .ref 1), (1, .int p_sort), (2, .int p_what)], [.int x4], zh, M3) _ _
        refine zF_go (n := 1) (ps := []) (s' := (56, [(0, .ref 1), (1, .int p_sort), (2, .int p_what)], [.long x4.toInt64], zh, M3)) rfl trivial ?_
        cases h
        exact zF_ret rfl trivial
      · rw [if_pos c11] at h
        refine zF_go (n := 3) (ps := []) (s' := (39, [(0, .ref 1), (1, .int p_sort), (2, .int p_what)], [.int p_sort, .ref 70], zh, M3)) rfl trivial ?_
        obtain ⟨x5, e13, h⟩ := zb_some h
        refine zF_call (y' := 70) (as := [.ref 70, .int p_sort]) (u := (42, [(0, .ref 1), (1, .int p_sort), (2, .int p_what)], [], zh, M3)) rfl ⟨rfl, rfl⟩ rfl (qW_thoughtOfBoth_ok (S := S) (M := M3) e13) ?_
        show zF S 99 (42, [(0, .ref 1), (1, .int p_sort), (2, .int p_what)], [.int x5], zh, M3) _ _
        refine zF_go (n := 2) (ps := []) (s' := (56, [(0, .ref 1), (1, .int p_sort), (2, .int p_what)], [.long x5.toInt64], zh, M3)) rfl trivial ?_
        cases h
        exact zF_ret rfl trivial
    · rw [if_neg c9] at h
      refine zF_go (n := 1) (ps := []) (s' := (24, [(0, .ref 1), (1, .int p_sort), (2, .int p_what)], [.long (-1000000000000000002)], zh, M)) rfl trivial ?_
      cases h
      exact zF_ret rfl trivial
  · rw [if_neg c7] at h
    refine zF_go (n := 1) (ps := []) (s' := (11, [(0, .ref 1), (1, .int p_sort), (2, .int p_what)], [.long (-1000000000000000001)], zh, M)) rfl trivial ?_
    cases h
    exact zF_ret rfl trivial
noncomputable def qM_priceOf (M : zM) (p_shop : Int32) (p_t : Int32) : Option (Int32) :=
  zq (vp_in ((4 * p_shop) + p_t) 8) <| zq (vp_in ((3 * p_t) + (M 89 ((4 * p_shop) + p_t).toNatClampNeg)) 12) <| some (M 91 ((3 * p_t) + (M 89 ((4 * p_shop) + p_t).toNatClampNeg)).toNatClampNeg)
set_option maxRecDepth 20000 in
set_option maxHeartbeats 4000000 in
theorem qM_priceOf_ok {S : zSc} {M : zM} {p_shop : Int32} {p_t : Int32} {r : Int32} (h : qM_priceOf M p_shop p_t = some r) : zF S 144 (0, [(0, .ref 86), (1, .int p_shop), (2, .int p_t)], [], zh, M) (some (.int r)) (M) := by
  unfold qM_priceOf at h
  obtain ⟨g1, h⟩ := zq_some h
  obtain ⟨g2, h⟩ := zq_some h
  refine zF_go (n := 15) (ps := [vp_in ((4 * p_shop) + p_t) 8, vp_in ((3 * p_t) + (M 89 ((4 * p_shop) + p_t).toNatClampNeg)) 12]) (s' := (19, [(0, .ref 86), (1, .int p_shop), (2, .int p_t)], [.int (M 91 ((3 * p_t) + (M 89 ((4 * p_shop) + p_t).toNatClampNeg)).toNatClampNeg)], zh, M)) rfl ⟨g1, g2, trivial⟩ ?_
  cases h
  exact zF_ret rfl trivial
noncomputable def qM_takenFor (M : zM) (p_sort : Int32) (p_shop : Int32) (p_t : Int32) : Option (Int32) :=
  zq (vp_in ((4 * p_sort) + p_t) 20) <| zlj (fun (_ : Unit) =>
    zb (qM_priceOf M p_shop p_t) fun x2 =>
    some x2) fun k1 =>
  if (M 99 ((4 * p_sort) + p_t).toNatClampNeg) < 0 then
    (k1 ())
  else
    (zq (vp_in p_shop 2) <| if (((M 90 p_shop.toNatClampNeg) >>> (p_t &&& 31)) &&& 1) = 1 then
      (k1 ())
    else
      (some (M 99 ((4 * p_sort) + p_t).toNatClampNeg)))
set_option maxRecDepth 20000 in
set_option maxHeartbeats 4000000 in
theorem qM_takenFor_ok {S : zSc} {M : zM} {p_sort : Int32} {p_shop : Int32} {p_t : Int32} {r : Int32} (h : qM_takenFor M p_sort p_shop p_t = some r) : zF S 157 (0, [(0, .ref 86), (1, .int p_sort), (2, .int p_shop), (3, .int p_t)], [], zh, M) (some (.int r)) (M) := by
  unfold qM_takenFor at h
  obtain ⟨g3, h⟩ := zq_some h
  refine zF_go (n := 10) (ps := [vp_in ((4 * p_sort) + p_t) 20]) (s' := (14, [(4, .int (M 99 ((4 * p_sort) + p_t).toNatClampNeg)), (0, .ref 86), (1, .int p_sort), (2, .int p_shop), (3, .int p_t)], [.int (M 99 ((4 * p_sort) + p_t).toNatClampNeg)], zh, M)) rfl ⟨g3, trivial⟩ ?_
  refine zlj_e h (fun k => ∀ (_ : Unit) r, k () = some r → zF S 157 (31, [(0, .ref 86), (2, .int p_shop), (3, .int p_t)], [], zh, M) (some (.int r)) (M)) ?_ ?_
  · intro _ r h
    try dsimp only at h
    refine zF_go (n := 3) (ps := []) (s' := (34, [(0, .ref 86), (2, .int p_shop), (3, .int p_t)], [.int p_t, .int p_shop, .ref 86], zh, M)) rfl trivial ?_
    obtain ⟨x2, e4, h⟩ := zb_some h
    refine zF_call (y' := 144) (as := [.ref 86, .int p_shop, .int p_t]) (u := (37, [(0, .ref 86), (2, .int p_shop), (3, .int p_t)], [], zh, M)) rfl ⟨rfl, rfl⟩ rfl (qM_priceOf_ok (S := S) (M := M) e4) ?_
    show zF S 157 (37, [(0, .ref 86), (2, .int p_shop), (3, .int p_t)], [.int x2], zh, M) _ _
    refine zF_go (n := 1) (ps := []) (s' := (42, [(0, .ref 86), (2, .int p_shop), (3, .int p_t)], [.int x2], zh, M)) rfl trivial ?_
    cases h
    exact zF_ret rfl trivial
  · intro k1 hk1 h
    try dsimp only at h
    refine zF_lt (t := 31) (u := (17, [(4, .int (M 99 ((4 * p_sort) + p_t).toNatClampNeg)), (0, .ref 86), (1, .int p_sort), (2, .int p_shop), (3, .int p_t)], [], zh, M)) rfl (fun c5 => ?_) (fun c5 => ?_)
    · rw [if_pos c5] at h
      exact zF_as (hk1 () _ h) rfl
    · rw [if_neg c5] at h
      obtain ⟨g6, h⟩ := zq_some h
      refine zF_go (n := 9) (ps := [vp_in p_shop 2]) (s' := (28, [(4, .int (M 99 ((4 * p_sort) + p_t).toNatClampNeg)), (0, .ref 86), (1, .int p_sort), (2, .int p_shop), (3, .int p_t)], [.int 1, .int (((M 90 p_shop.toNatClampNeg) >>> (p_t &&& 31)) &&& 1)], zh, M)) rfl ⟨g6, trivial⟩ ?_
      refine zF_ne (t := 40) (u := (31, [(4, .int (M 99 ((4 * p_sort) + p_t).toNatClampNeg)), (0, .ref 86), (1, .int p_sort), (2, .int p_shop), (3, .int p_t)], [], zh, M)) rfl (fun c7 => ?_) (fun c7 => ?_)
      · rw [if_neg c7] at h
        refine zF_go (n := 1) (ps := []) (s' := (42, [(4, .int (M 99 ((4 * p_sort) + p_t).toNatClampNeg)), (0, .ref 86), (1, .int p_sort), (2, .int p_shop), (3, .int p_t)], [.int (M 99 ((4 * p_sort) + p_t).toNatClampNeg)], zh, M)) rfl trivial ?_
        cases h
        exact zF_ret rfl trivial
      · rw [if_pos c7] at h
        exact zF_as (hk1 () _ h) rfl
noncomputable def qM_wanted (M : zM) (p_sort : Int32) (p_shop : Int32) (p_t : Int32) (p_price : Int32) : Option (Int32) :=
  zq (vp_in ((4 * p_sort) + p_t) 20) <| zb (zlj (fun (_ : Unit) =>
      some 0) fun k6 =>
    if (0 : Int32) < (M 97 ((4 * p_sort) + p_t).toNatClampNeg) then
      (zq (vp_in ((4 * p_sort) + p_t) 20) <| if (M 98 ((4 * p_sort) + p_t).toNatClampNeg) < p_price then
        (k6 ())
      else
        (zq (vp_in p_sort 5) <| zlj (fun (_ : Unit) =>
          some 1) fun k7 =>
        if (M 95 p_sort.toNatClampNeg) = 2 then
          (zq (vp_in ((4 * p_shop) + p_t) 8) <| if p_price < (M 87 ((4 * p_shop) + p_t).toNatClampNeg) then
            (k7 ())
          else
            (k6 ()))
        else
          (k7 ())))
    else
      (k6 ())) fun (w4 : Int32) =>
  if w4 = 0 then
    (some 0)
  else
    (zq (vp_in ((4 * p_shop) + p_t) 8) <| if (M 97 ((4 * p_sort) + p_t).toNatClampNeg) < (M 88 ((4 * p_shop) + p_t).toNatClampNeg) then
      (some (M 97 ((4 * p_sort) + p_t).toNatClampNeg))
    else
      (zq (vp_in ((4 * p_shop) + p_t) 8) <| some (M 88 ((4 * p_shop) + p_t).toNatClampNeg)))
set_option maxRecDepth 20000 in
set_option maxHeartbeats 4000000 in
theorem qM_wanted_ok {S : zSc} {M : zM} {p_sort : Int32} {p_shop : Int32} {p_t : Int32} {p_price : Int32} {r : Int32} (h : qM_wanted M p_sort p_shop p_t p_price = some r) : zF S 158 (0, [(0, .ref 86), (1, .int p_sort), (2, .int p_shop), (3, .int p_t), (4, .int p_price)], [], zh, M) (some (.int r)) (M) := by
  unfold qM_wanted at h
  obtain ⟨g8, h⟩ := zq_some h
  refine zF_go (n := 16) (ps := [vp_in ((4 * p_sort) + p_t) 20]) (s' := (21, [(6, .int (M 97 ((4 * p_sort) + p_t).toNatClampNeg)), (5, .int ((4 * p_shop) + p_t)), (0, .ref 86), (1, .int p_sort), (2, .int p_shop), (3, .int p_t), (4, .int p_price)], [.int (M 97 ((4 * p_sort) + p_t).toNatClampNeg)], zh, M)) rfl ⟨g8, trivial⟩ ?_
  obtain ⟨w4, g9, h⟩ := zb_some h
  have hk10 : zF S 158 (66, [(0, .ref 86), (5, .int ((4 * p_shop) + p_t)), (6, .int (M 97 ((4 * p_sort) + p_t).toNatClampNeg))], [.int w4], zh, M) (some (.int r)) (M) := by
    refine zF_go (n := 2) (ps := []) (s' := (70, [(7, .int w4), (0, .ref 86), (5, .int ((4 * p_shop) + p_t)), (6, .int (M 97 ((4 * p_sort) + p_t).toNatClampNeg))], [.int w4], zh, M)) rfl trivial ?_
    refine zF_ne (t := 77) (u := (73, [(7, .int w4), (0, .ref 86), (5, .int ((4 * p_shop) + p_t)), (6, .int (M 97 ((4 * p_sort) + p_t).toNatClampNeg))], [], zh, M)) rfl (fun c11 => ?_) (fun c11 => ?_)
    · rw [if_neg c11] at h
      obtain ⟨g12, h⟩ := zq_some h
      refine zF_go (n := 5) (ps := [vp_in ((4 * p_shop) + p_t) 8]) (s' := (86, [(7, .int w4), (0, .ref 86), (5, .int ((4 * p_shop) + p_t)), (6, .int (M 97 ((4 * p_sort) + p_t).toNatClampNeg))], [.int (M 88 ((4 * p_shop) + p_t).toNatClampNeg), .int (M 97 ((4 * p_sort) + p_t).toNatClampNeg)], zh, M)) rfl ⟨g12, trivial⟩ ?_
      refine zF_ge (t := 94) (u := (89, [(7, .int w4), (0, .ref 86), (5, .int ((4 * p_shop) + p_t)), (6, .int (M 97 ((4 * p_sort) + p_t).toNatClampNeg))], [], zh, M)) rfl (fun c13 => ?_) (fun c13 => ?_)
      · rw [if_neg c13] at h
        obtain ⟨g14, h⟩ := zq_some h
        refine zF_go (n := 4) (ps := [vp_in ((4 * p_shop) + p_t) 8]) (s' := (101, [(7, .int w4), (0, .ref 86), (5, .int ((4 * p_shop) + p_t)), (6, .int (M 97 ((4 * p_sort) + p_t).toNatClampNeg))], [.int (M 88 ((4 * p_shop) + p_t).toNatClampNeg)], zh, M)) rfl ⟨g14, trivial⟩ ?_
        cases h
        exact zF_ret rfl trivial
      · rw [if_pos c13] at h
        refine zF_go (n := 2) (ps := []) (s' := (101, [(7, .int w4), (0, .ref 86), (5, .int ((4 * p_shop) + p_t)), (6, .int (M 97 ((4 * p_sort) + p_t).toNatClampNeg))], [.int (M 97 ((4 * p_sort) + p_t).toNatClampNeg)], zh, M)) rfl trivial ?_
        cases h
        exact zF_ret rfl trivial
    · rw [if_pos c11] at h
      refine zF_go (n := 2) (ps := []) (s' := (101, [(7, .int w4), (0, .ref 86), (5, .int ((4 * p_shop) + p_t)), (6, .int (M 97 ((4 * p_sort) + p_t).toNatClampNeg))], [.int 0], zh, M)) rfl trivial ?_
      cases h
      exact zF_ret rfl trivial
  refine zlj_e g9 (fun k => ∀ (_ : Unit), k () = some w4 → zF S 158 (65, [(0, .ref 86), (5, .int ((4 * p_shop) + p_t)), (6, .int (M 97 ((4 * p_sort) + p_t).toNatClampNeg))], [], zh, M) (some (.int r)) (M)) ?_ ?_
  · intro _ g9
    try dsimp only at g9
    refine zF_go (n := 1) (ps := []) (s' := (66, [(0, .ref 86), (5, .int ((4 * p_shop) + p_t)), (6, .int (M 97 ((4 * p_sort) + p_t).toNatClampNeg))], [.int 0], zh, M)) rfl trivial ?_
    cases g9
    exact zF_as hk10 rfl
  · intro k6 hk6 g9
    try dsimp only at g9
    refine zF_le (t := 65) (u := (24, [(6, .int (M 97 ((4 * p_sort) + p_t).toNatClampNeg)), (5, .int ((4 * p_shop) + p_t)), (0, .ref 86), (1, .int p_sort), (2, .int p_shop), (3, .int p_t), (4, .int p_price)], [], zh, M)) rfl (fun c15 => ?_) (fun c15 => ?_)
    · rw [if_neg c15] at g9
      exact zF_as (hk6 () g9) rfl
    · rw [if_pos c15] at g9
      obtain ⟨g16, g9⟩ := zq_some g9
      refine zF_go (n := 9) (ps := [vp_in ((4 * p_sort) + p_t) 20]) (s' := (36, [(6, .int (M 97 ((4 * p_sort) + p_t).toNatClampNeg)), (5, .int ((4 * p_shop) + p_t)), (0, .ref 86), (1, .int p_sort), (2, .int p_shop), (3, .int p_t), (4, .int p_price)], [.int p_price, .int (M 98 ((4 * p_sort) + p_t).toNatClampNeg)], zh, M)) rfl ⟨g16, trivial⟩ ?_
      refine zF_lt (t := 65) (u := (39, [(6, .int (M 97 ((4 * p_sort) + p_t).toNatClampNeg)), (5, .int ((4 * p_shop) + p_t)), (0, .ref 86), (1, .int p_sort), (2, .int p_shop), (3, .int p_t), (4, .int p_price)], [], zh, M)) rfl (fun c17 => ?_) (fun c17 => ?_)
      · rw [if_pos c17] at g9
        exact zF_as (hk6 () g9) rfl
      · rw [if_neg c17] at g9
        obtain ⟨g18, g9⟩ := zq_some g9
        refine zF_go (n := 5) (ps := [vp_in p_sort 5]) (s' := (46, [(6, .int (M 97 ((4 * p_sort) + p_t).toNatClampNeg)), (5, .int ((4 * p_shop) + p_t)), (0, .ref 86), (1, .int p_sort), (2, .int p_shop), (3, .int p_t), (4, .int p_price)], [.int 2, .int (M 95 p_sort.toNatClampNeg)], zh, M)) rfl ⟨g18, trivial⟩ ?_
        refine zlj_e g9 (fun k => ∀ (_ : Unit), k () = some w4 → zF S 158 (61, [(0, .ref 86), (5, .int ((4 * p_shop) + p_t)), (6, .int (M 97 ((4 * p_sort) + p_t).toNatClampNeg))], [], zh, M) (some (.int r)) (M)) ?_ ?_
        · intro _ g9
          try dsimp only at g9
          refine zF_go (n := 2) (ps := []) (s' := (66, [(0, .ref 86), (5, .int ((4 * p_shop) + p_t)), (6, .int (M 97 ((4 * p_sort) + p_t).toNatClampNeg))], [.int 1], zh, M)) rfl trivial ?_
          cases g9
          exact zF_as hk10 rfl
        · intro k7 hk7 g9
          try dsimp only at g9
          refine zF_ne (t := 61) (u := (49, [(6, .int (M 97 ((4 * p_sort) + p_t).toNatClampNeg)), (5, .int ((4 * p_shop) + p_t)), (0, .ref 86), (1, .int p_sort), (2, .int p_shop), (3, .int p_t), (4, .int p_price)], [], zh, M)) rfl (fun c19 => ?_) (fun c19 => ?_)
          · rw [if_neg c19] at g9
            exact zF_as (hk7 () g9) rfl
          · rw [if_pos c19] at g9
            obtain ⟨g20, g9⟩ := zq_some g9
            refine zF_go (n := 5) (ps := [vp_in ((4 * p_shop) + p_t) 8]) (s' := (58, [(6, .int (M 97 ((4 * p_sort) + p_t).toNatClampNeg)), (5, .int ((4 * p_shop) + p_t)), (0, .ref 86), (1, .int p_sort), (2, .int p_shop), (3, .int p_t), (4, .int p_price)], [.int (M 87 ((4 * p_shop) + p_t).toNatClampNeg), .int p_price], zh, M)) rfl ⟨g20, trivial⟩ ?_
            refine zF_ge (t := 65) (u := (61, [(6, .int (M 97 ((4 * p_sort) + p_t).toNatClampNeg)), (5, .int ((4 * p_shop) + p_t)), (0, .ref 86), (1, .int p_sort), (2, .int p_shop), (3, .int p_t), (4, .int p_price)], [], zh, M)) rfl (fun c21 => ?_) (fun c21 => ?_)
            · rw [if_neg c21] at g9
              exact zF_as (hk6 () g9) rfl
            · rw [if_pos c21] at g9
              exact zF_as (hk7 () g9) rfl
noncomputable def qM_gain (M : zM) (p_sort : Int32) (p_shop : Int32) (p_t : Int32) (p_price : Int32) : Option (Int32) :=
  zb (qM_wanted M p_sort p_shop p_t p_price) fun x1 =>
  zq (vp_in ((4 * p_sort) + p_t) 20) <| some (x1 * ((M 98 ((4 * p_sort) + p_t).toNatClampNeg) - p_price))
set_option maxRecDepth 20000 in
set_option maxHeartbeats 4000000 in
theorem qM_gain_ok {S : zSc} {M : zM} {p_sort : Int32} {p_shop : Int32} {p_t : Int32} {p_price : Int32} {r : Int32} (h : qM_gain M p_sort p_shop p_t p_price = some r) : zF S 159 (0, [(0, .ref 86), (1, .int p_sort), (2, .int p_shop), (3, .int p_t), (4, .int p_price)], [], zh, M) (some (.int r)) (M) := by
  unfold qM_gain at h
  refine zF_go (n := 5) (ps := []) (s' := (6, [(0, .ref 86), (1, .int p_sort), (2, .int p_shop), (3, .int p_t), (4, .int p_price)], [.int p_price, .int p_t, .int p_shop, .int p_sort, .ref 86], zh, M)) rfl trivial ?_
  obtain ⟨x1, e2, h⟩ := zb_some h
  refine zF_call (y' := 158) (as := [.ref 86, .int p_sort, .int p_shop, .int p_t, .int p_price]) (u := (9, [(0, .ref 86), (1, .int p_sort), (2, .int p_shop), (3, .int p_t), (4, .int p_price)], [], zh, M)) rfl ⟨rfl, rfl⟩ rfl (qM_wanted_ok (S := S) (M := M) e2) ?_
  show zF S 159 (9, [(0, .ref 86), (1, .int p_sort), (2, .int p_shop), (3, .int p_t), (4, .int p_price)], [.int x1], zh, M) _ _
  obtain ⟨g3, h⟩ := zq_some h
  refine zF_go (n := 11) (ps := [vp_in ((4 * p_sort) + p_t) 20]) (s' := (23, [(0, .ref 86), (1, .int p_sort), (2, .int p_shop), (3, .int p_t), (4, .int p_price)], [.int (x1 * ((M 98 ((4 * p_sort) + p_t).toNatClampNeg) - p_price))], zh, M)) rfl ⟨g3, trivial⟩ ?_
  cases h
  exact zF_ret rfl trivial
noncomputable def qM_thoughtGain (M : zM) (p_sort : Int32) (p_shop : Int32) (p_t : Int32) : Option (Int32) :=
  zb (qM_takenFor M p_sort p_shop p_t) fun x1 =>
  zb (qM_gain M p_sort p_shop p_t x1) fun x2 =>
  some x2
set_option maxRecDepth 20000 in
set_option maxHeartbeats 4000000 in
theorem qM_thoughtGain_ok {S : zSc} {M : zM} {p_sort : Int32} {p_shop : Int32} {p_t : Int32} {r : Int32} (h : qM_thoughtGain M p_sort p_shop p_t = some r) : zF S 160 (0, [(0, .ref 86), (1, .int p_sort), (2, .int p_shop), (3, .int p_t)], [], zh, M) (some (.int r)) (M) := by
  unfold qM_thoughtGain at h
  refine zF_go (n := 8) (ps := []) (s' := (8, [(0, .ref 86), (1, .int p_sort), (2, .int p_shop), (3, .int p_t)], [.int p_t, .int p_shop, .int p_sort, .ref 86, .int p_t, .int p_shop, .int p_sort, .ref 86], zh, M)) rfl trivial ?_
  obtain ⟨x1, e3, h⟩ := zb_some h
  refine zF_call (y' := 157) (as := [.ref 86, .int p_sort, .int p_shop, .int p_t]) (u := (11, [(0, .ref 86), (1, .int p_sort), (2, .int p_shop), (3, .int p_t)], [.int p_t, .int p_shop, .int p_sort, .ref 86], zh, M)) rfl ⟨rfl, rfl⟩ rfl (qM_takenFor_ok (S := S) (M := M) e3) ?_
  show zF S 160 (11, [(0, .ref 86), (1, .int p_sort), (2, .int p_shop), (3, .int p_t)], [.int x1, .int p_t, .int p_shop, .int p_sort, .ref 86], zh, M) _ _
  obtain ⟨x2, e4, h⟩ := zb_some h
  refine zF_call (y' := 159) (as := [.ref 86, .int p_sort, .int p_shop, .int p_t, .int x1]) (u := (14, [(0, .ref 86), (1, .int p_sort), (2, .int p_shop), (3, .int p_t)], [], zh, M)) rfl ⟨rfl, rfl⟩ rfl (qM_gain_ok (S := S) (M := M) e4) ?_
  show zF S 160 (14, [(0, .ref 86), (1, .int p_sort), (2, .int p_shop), (3, .int p_t)], [.int x2], zh, M) _ _
  cases h
  exact zF_ret rfl trivial
noncomputable def qM_shopOf (M : zM) (p_sort : Int32) (p_t : Int32) : Option (Int32) :=
  zb (qM_thoughtGain M p_sort 1 p_t) fun x1 =>
  zb (qM_thoughtGain M p_sort 0 p_t) fun x2 =>
  if x2 < x1 then
    (some 1)
  else
    (some 0)
set_option maxRecDepth 20000 in
set_option maxHeartbeats 4000000 in
theorem qM_shopOf_ok {S : zSc} {M : zM} {p_sort : Int32} {p_t : Int32} {r : Int32} (h : qM_shopOf M p_sort p_t = some r) : zF S 162 (0, [(0, .ref 86), (1, .int p_sort), (2, .int p_t)], [], zh, M) (some (.int r)) (M) := by
  unfold qM_shopOf at h
  refine zF_go (n := 4) (ps := []) (s' := (4, [(0, .ref 86), (1, .int p_sort), (2, .int p_t)], [.int p_t, .int 1, .int p_sort, .ref 86], zh, M)) rfl trivial ?_
  obtain ⟨x1, e3, h⟩ := zb_some h
  refine zF_call (y' := 160) (as := [.ref 86, .int p_sort, .int 1, .int p_t]) (u := (7, [(0, .ref 86), (1, .int p_sort), (2, .int p_t)], [], zh, M)) rfl ⟨rfl, rfl⟩ rfl (qM_thoughtGain_ok (S := S) (M := M) e3) ?_
  show zF S 162 (7, [(0, .ref 86), (1, .int p_sort), (2, .int p_t)], [.int x1], zh, M) _ _
  refine zF_go (n := 4) (ps := []) (s' := (11, [(0, .ref 86), (1, .int p_sort), (2, .int p_t)], [.int p_t, .int 0, .int p_sort, .ref 86, .int x1], zh, M)) rfl trivial ?_
  obtain ⟨x2, e4, h⟩ := zb_some h
  refine zF_call (y' := 160) (as := [.ref 86, .int p_sort, .int 0, .int p_t]) (u := (14, [(0, .ref 86), (1, .int p_sort), (2, .int p_t)], [.int x1], zh, M)) rfl ⟨rfl, rfl⟩ rfl (qM_thoughtGain_ok (S := S) (M := M) e4) ?_
  show zF S 162 (14, [(0, .ref 86), (1, .int p_sort), (2, .int p_t)], [.int x2, .int x1], zh, M) _ _
  refine zF_le (t := 21) (u := (17, [(0, .ref 86), (1, .int p_sort), (2, .int p_t)], [], zh, M)) rfl (fun c5 => ?_) (fun c5 => ?_)
  · rw [if_neg c5] at h
    refine zF_go (n := 1) (ps := []) (s' := (22, [(0, .ref 86), (1, .int p_sort), (2, .int p_t)], [.int 0], zh, M)) rfl trivial ?_
    cases h
    exact zF_ret rfl trivial
  · rw [if_pos c5] at h
    refine zF_go (n := 2) (ps := []) (s' := (22, [(0, .ref 86), (1, .int p_sort), (2, .int p_t)], [.int 1], zh, M)) rfl trivial ?_
    cases h
    exact zF_ret rfl trivial
noncomputable def qM_thinksBoth_L23 (M : zM) (p_sort : Int32) (rec3 : (Int32 × Int32) → Option (Int32)) (v : Int32 × Int32) : Option (Int32) := match v with
  | (v2_1, v3_2) =>
    if v3_2 < (M 86 6) then
      (zb (qM_shopOf M p_sort v3_2) fun x4 =>
      zb (qM_thoughtGain M p_sort x4 v3_2) fun x5 =>
      rec3 ((v2_1 + x5), (v3_2 + 1)))
    else
      (some v2_1)
noncomputable def qM_thinksBoth (M : zM) (p_sort : Int32) : Option (Int32) :=
  zq (vp_in (2 * p_sort) 10) <| zq (vp_in ((2 * p_sort) + 1) 10) <| zlp (qM_thinksBoth_L23 M p_sort) zfu (((-(M 94 (2 * p_sort).toNatClampNeg)) - (M 94 ((2 * p_sort) + 1).toNatClampNeg)), 0)
set_option maxRecDepth 20000 in
set_option maxHeartbeats 4000000 in
theorem qM_thinksBoth_ok {S : zSc} {M : zM} {p_sort : Int32} {r : Int32} (h : qM_thinksBoth M p_sort = some r) : zF S 163 (0, [(0, .ref 86), (1, .int p_sort)], [], zh, M) (some (.int r)) (M) := by
  unfold qM_thinksBoth at h
  obtain ⟨g6, h⟩ := zq_some h
  obtain ⟨g7, h⟩ := zq_some h
  refine zF_go (n := 19) (ps := [vp_in (2 * p_sort) 10, vp_in ((2 * p_sort) + 1) 10]) (s' := (23, [(3, .int 0), (2, .int ((-(M 94 (2 * p_sort).toNatClampNeg)) - (M 94 ((2 * p_sort) + 1).toNatClampNeg))), (0, .ref 86), (1, .int p_sort)], [], zh, M)) rfl ⟨g6, g7, trivial⟩ ?_
  refine zF_same (s' := (23, [(0, .ref 86), (1, .int p_sort), (2, .int ((-(M 94 (2 * p_sort).toNatClampNeg)) - (M 94 ((2 * p_sort) + 1).toNatClampNeg))), (3, .int 0)], [], zh, M)) rfl ?_
  refine zlp_ind (P := fun (v : Int32 × Int32) r => zF S 163 (23, [(0, .ref 86), (1, .int p_sort), (2, .int v.1), (3, .int v.2)], [], zh, M) (some (.int r)) (M)) ?_ _ _ _ h
  intro rec3 hrec3 v r h
  obtain ⟨v2_1, v3_2⟩ := v
  unfold qM_thinksBoth_L23 at h
  dsimp only at h
  show zF S 163 (23, [(0, .ref 86), (1, .int p_sort), (2, .int v2_1), (3, .int v3_2)], [], zh, M) _ _
  refine zF_go (n := 3) (ps := []) (s' := (28, [(0, .ref 86), (1, .int p_sort), (2, .int v2_1), (3, .int v3_2)], [.int (M 86 6), .int v3_2], zh, M)) rfl trivial ?_
  refine zF_ge (t := 52) (u := (31, [(0, .ref 86), (1, .int p_sort), (2, .int v2_1), (3, .int v3_2)], [], zh, M)) rfl (fun c8 => ?_) (fun c8 => ?_)
  · rw [if_neg c8] at h
    refine zF_go (n := 1) (ps := []) (s' := (53, [(0, .ref 86), (1, .int p_sort), (2, .int v2_1), (3, .int v3_2)], [.int v2_1], zh, M)) rfl trivial ?_
    cases h
    exact zF_ret rfl trivial
  · rw [if_pos c8] at h
    refine zF_go (n := 6) (ps := []) (s' := (37, [(0, .ref 86), (1, .int p_sort), (2, .int v2_1), (3, .int v3_2)], [.int v3_2, .int p_sort, .ref 86, .int p_sort, .ref 86, .int v2_1], zh, M)) rfl trivial ?_
    obtain ⟨x4, e9, h⟩ := zb_some h
    refine zF_call (y' := 162) (as := [.ref 86, .int p_sort, .int v3_2]) (u := (40, [(0, .ref 86), (1, .int p_sort), (2, .int v2_1), (3, .int v3_2)], [.int p_sort, .ref 86, .int v2_1], zh, M)) rfl ⟨rfl, rfl⟩ rfl (qM_shopOf_ok (S := S) (M := M) e9) ?_
    show zF S 163 (40, [(0, .ref 86), (1, .int p_sort), (2, .int v2_1), (3, .int v3_2)], [.int x4, .int p_sort, .ref 86, .int v2_1], zh, M) _ _
    refine zF_go (n := 1) (ps := []) (s' := (41, [(0, .ref 86), (1, .int p_sort), (2, .int v2_1), (3, .int v3_2)], [.int v3_2, .int x4, .int p_sort, .ref 86, .int v2_1], zh, M)) rfl trivial ?_
    obtain ⟨x5, e10, h⟩ := zb_some h
    refine zF_call (y' := 160) (as := [.ref 86, .int p_sort, .int x4, .int v3_2]) (u := (44, [(0, .ref 86), (1, .int p_sort), (2, .int v2_1), (3, .int v3_2)], [.int v2_1], zh, M)) rfl ⟨rfl, rfl⟩ rfl (qM_thoughtGain_ok (S := S) (M := M) e10) ?_
    show zF S 163 (44, [(0, .ref 86), (1, .int p_sort), (2, .int v2_1), (3, .int v3_2)], [.int x5, .int v2_1], zh, M) _ _
    refine zF_go (n := 4) (ps := []) (s' := (23, [(3, .int (v3_2 + 1)), (2, .int (v2_1 + x5)), (0, .ref 86), (1, .int p_sort)], [], zh, M)) rfl trivial ?_
    exact zF_as (hrec3 _ _ h) rfl
noncomputable def qM_thinksOf_L15 (M : zM) (p_sort : Int32) (p_shop : Int32) (rec3 : (Int32 × Int32) → Option (Int32)) (v : Int32 × Int32) : Option (Int32) := match v with
  | (v3_1, v4_2) =>
    if v4_2 < (M 86 6) then
      (zb (qM_thoughtGain M p_sort p_shop v4_2) fun x4 =>
      rec3 ((v3_1 + x4), (v4_2 + 1)))
    else
      (some v3_1)
noncomputable def qM_thinksOf (M : zM) (p_sort : Int32) (p_shop : Int32) : Option (Int32) :=
  zq (vp_in ((2 * p_sort) + p_shop) 10) <| zlp (qM_thinksOf_L15 M p_sort p_shop) zfu ((-(M 94 ((2 * p_sort) + p_shop).toNatClampNeg)), 0)
set_option maxRecDepth 20000 in
set_option maxHeartbeats 4000000 in
theorem qM_thinksOf_ok {S : zSc} {M : zM} {p_sort : Int32} {p_shop : Int32} {r : Int32} (h : qM_thinksOf M p_sort p_shop = some r) : zF S 161 (0, [(0, .ref 86), (1, .int p_sort), (2, .int p_shop)], [], zh, M) (some (.int r)) (M) := by
  unfold qM_thinksOf at h
  obtain ⟨g5, h⟩ := zq_some h
  refine zF_go (n := 12) (ps := [vp_in ((2 * p_sort) + p_shop) 10]) (s' := (15, [(4, .int 0), (3, .int (-(M 94 ((2 * p_sort) + p_shop).toNatClampNeg))), (0, .ref 86), (1, .int p_sort), (2, .int p_shop)], [], zh, M)) rfl ⟨g5, trivial⟩ ?_
  refine zF_same (s' := (15, [(0, .ref 86), (1, .int p_sort), (2, .int p_shop), (3, .int (-(M 94 ((2 * p_sort) + p_shop).toNatClampNeg))), (4, .int 0)], [], zh, M)) rfl ?_
  refine zlp_ind (P := fun (v : Int32 × Int32) r => zF S 161 (15, [(0, .ref 86), (1, .int p_sort), (2, .int p_shop), (3, .int v.1), (4, .int v.2)], [], zh, M) (some (.int r)) (M)) ?_ _ _ _ h
  intro rec3 hrec3 v r h
  obtain ⟨v3_1, v4_2⟩ := v
  unfold qM_thinksOf_L15 at h
  dsimp only at h
  show zF S 161 (15, [(0, .ref 86), (1, .int p_sort), (2, .int p_shop), (3, .int v3_1), (4, .int v4_2)], [], zh, M) _ _
  refine zF_go (n := 3) (ps := []) (s' := (21, [(0, .ref 86), (1, .int p_sort), (2, .int p_shop), (3, .int v3_1), (4, .int v4_2)], [.int (M 86 6), .int v4_2], zh, M)) rfl trivial ?_
  refine zF_ge (t := 41) (u := (24, [(0, .ref 86), (1, .int p_sort), (2, .int p_shop), (3, .int v3_1), (4, .int v4_2)], [], zh, M)) rfl (fun c6 => ?_) (fun c6 => ?_)
  · rw [if_neg c6] at h
    refine zF_go (n := 1) (ps := []) (s' := (42, [(0, .ref 86), (1, .int p_sort), (2, .int p_shop), (3, .int v3_1), (4, .int v4_2)], [.int v3_1], zh, M)) rfl trivial ?_
    cases h
    exact zF_ret rfl trivial
  · rw [if_pos c6] at h
    refine zF_go (n := 5) (ps := []) (s' := (30, [(0, .ref 86), (1, .int p_sort), (2, .int p_shop), (3, .int v3_1), (4, .int v4_2)], [.int v4_2, .int p_shop, .int p_sort, .ref 86, .int v3_1], zh, M)) rfl trivial ?_
    obtain ⟨x4, e7, h⟩ := zb_some h
    refine zF_call (y' := 160) (as := [.ref 86, .int p_sort, .int p_shop, .int v4_2]) (u := (33, [(0, .ref 86), (1, .int p_sort), (2, .int p_shop), (3, .int v3_1), (4, .int v4_2)], [.int v3_1], zh, M)) rfl ⟨rfl, rfl⟩ rfl (qM_thoughtGain_ok (S := S) (M := M) e7) ?_
    show zF S 161 (33, [(0, .ref 86), (1, .int p_sort), (2, .int p_shop), (3, .int v3_1), (4, .int v4_2)], [.int x4, .int v3_1], zh, M) _ _
    refine zF_go (n := 4) (ps := []) (s' := (15, [(4, .int (v4_2 + 1)), (3, .int (v3_1 + x4)), (0, .ref 86), (1, .int p_sort), (2, .int p_shop)], [], zh, M)) rfl trivial ?_
    exact zF_as (hrec3 _ _ h) rfl
noncomputable def qM_thinks (M : zM) (p_sort : Int32) (p_what : Int32) : Option (Int64 × zM) :=
  zb (qM_isSort M p_sort) fun x1 =>
  if x1 = 0 then
    (some ((-1000000000000000001), M))
  else
    (zb (qM_in p_what.toInt64 0 2) fun x2 =>
    if x2 = 0 then
      (some ((-1000000000000000002), M))
    else
      (if p_what < 2 then
        (zb (qM_thinksOf M p_sort p_what) fun x4 =>
        some (x4.toInt64, M))
      else
        (zq (vp_in p_sort 5) <| zq (vp_in p_sort 5) <| zb (qM_thinksBoth (zw M 95 p_sort.toNatClampNeg 1) p_sort) fun x3 =>
        zq (vp_in p_sort 5) <| some (x3.toInt64, (zw (zw M 95 p_sort.toNatClampNeg 1) 95 p_sort.toNatClampNeg (M 95 p_sort.toNatClampNeg))))))
set_option maxRecDepth 20000 in
set_option maxHeartbeats 4000000 in
theorem qM_thinks_ok {S : zSc} {M : zM} {p_sort : Int32} {p_what : Int32} {r : Int64 × zM} (h : qM_thinks M p_sort p_what = some r) : zF S 164 (0, [(0, .ref 86), (1, .int p_sort), (2, .int p_what)], [], zh, M) (some (.long r.1)) (r.2) := by
  unfold qM_thinks at h
  refine zF_go (n := 2) (ps := []) (s' := (2, [(0, .ref 86), (1, .int p_sort), (2, .int p_what)], [.int p_sort, .ref 86], zh, M)) rfl trivial ?_
  obtain ⟨x1, e5, h⟩ := zb_some h
  refine zF_call (y' := 146) (as := [.ref 86, .int p_sort]) (u := (5, [(0, .ref 86), (1, .int p_sort), (2, .int p_what)], [], zh, M)) rfl ⟨rfl, rfl⟩ rfl (qM_isSort_ok (S := S) (M := M) e5) ?_
  show zF S 164 (5, [(0, .ref 86), (1, .int p_sort), (2, .int p_what)], [.int x1], zh, M) _ _
  refine zF_ne (t := 12) (u := (8, [(0, .ref 86), (1, .int p_sort), (2, .int p_what)], [], zh, M)) rfl (fun c6 => ?_) (fun c6 => ?_)
  · rw [if_neg c6] at h
    refine zF_go (n := 4) (ps := []) (s' := (18, [(0, .ref 86), (1, .int p_sort), (2, .int p_what)], [.long 2, .long 0, .long p_what.toInt64], zh, M)) rfl trivial ?_
    obtain ⟨x2, e7, h⟩ := zb_some h
    refine zF_call (y' := 134) (as := [.long p_what.toInt64, .long 0, .long 2]) (u := (21, [(0, .ref 86), (1, .int p_sort), (2, .int p_what)], [], zh, M)) rfl ⟨rfl, rfl⟩ rfl (qM_in_ok (S := S) (M := M) e7) ?_
    show zF S 164 (21, [(0, .ref 86), (1, .int p_sort), (2, .int p_what)], [.int x2], zh, M) _ _
    refine zF_ne (t := 28) (u := (24, [(0, .ref 86), (1, .int p_sort), (2, .int p_what)], [], zh, M)) rfl (fun c8 => ?_) (fun c8 => ?_)
    · rw [if_neg c8] at h
      refine zF_go (n := 2) (ps := []) (s' := (30, [(0, .ref 86), (1, .int p_sort), (2, .int p_what)], [.int 2, .int p_what], zh, M)) rfl trivial ?_
      refine zF_ge (t := 41) (u := (33, [(0, .ref 86), (1, .int p_sort), (2, .int p_what)], [], zh, M)) rfl (fun c9 => ?_) (fun c9 => ?_)
      · rw [if_neg c9] at h
        obtain ⟨g10, h⟩ := zq_some h
        obtain ⟨g11, h⟩ := zq_some h
        refine zF_go (n := 12) (ps := [vp_in p_sort 5, vp_in p_sort 5]) (s' := (57, [(3, .int (M 95 p_sort.toNatClampNeg)), (0, .ref 86), (1, .int p_sort), (2, .int p_what)], [.int p_sort, .ref 86], zh, (zw M 95 p_sort.toNatClampNeg 1))) rfl ⟨g10, g11, trivial⟩ ?_
        obtain ⟨x3, e12, h⟩ := zb_some h
        refine zF_call (y' := 163) (as := [.ref 86, .int p_sort]) (u := (60, [(3, .int (M 95 p_sort.toNatClampNeg)), (0, .ref 86), (1, .int p_sort), (2, .int p_what)], [], zh, (zw M 95 p_sort.toNatClampNeg 1))) rfl ⟨rfl, rfl⟩ rfl (qM_thinksBoth_ok (S := S) (M := (zw M 95 p_sort.toNatClampNeg 1)) e12) ?_
        show zF S 164 (60, [(3, .int (M 95 p_sort.toNatClampNeg)), (0, .ref 86), (1, .int p_sort), (2, .int p_what)], [.int x3], zh, (zw M 95 p_sort.toNatClampNeg 1)) _ _
        obtain ⟨g13, h⟩ := zq_some h
        refine zF_go (n := 8) (ps := [vp_in p_sort 5]) (s' := (72, [(4, .int x3), (3, .int (M 95 p_sort.toNatClampNeg)), (0, .ref 86), (1, .int p_sort), (2, .int p_what)], [.long x3.toInt64], zh, (zw (zw M 95 p_sort.toNatClampNeg 1) 95 p_sort.toNatClampNeg (M 95 p_sort.toNatClampNeg)))) rfl ⟨g13, trivial⟩ ?_
        cases h
        exact zF_ret rfl trivial
      · rw [if_pos c9] at h
        refine zF_go (n := 3) (ps := []) (s' := (36, [(0, .ref 86), (1, .int p_sort), (2, .int p_what)], [.int p_what, .int p_sort, .ref 86], zh, M)) rfl trivial ?_
        obtain ⟨x4, e14, h⟩ := zb_some h
        refine zF_call (y' := 161) (as := [.ref 86, .int p_sort, .int p_what]) (u := (39, [(0, .ref 86), (1, .int p_sort), (2, .int p_what)], [], zh, M)) rfl ⟨rfl, rfl⟩ rfl (qM_thinksOf_ok (S := S) (M := M) e14) ?_
        show zF S 164 (39, [(0, .ref 86), (1, .int p_sort), (2, .int p_what)], [.int x4], zh, M) _ _
        refine zF_go (n := 1) (ps := []) (s' := (40, [(0, .ref 86), (1, .int p_sort), (2, .int p_what)], [.long x4.toInt64], zh, M)) rfl trivial ?_
        cases h
        exact zF_ret rfl trivial
    · rw [if_pos c8] at h
      refine zF_go (n := 1) (ps := []) (s' := (27, [(0, .ref 86), (1, .int p_sort), (2, .int p_what)], [.long (-1000000000000000002)], zh, M)) rfl trivial ?_
      cases h
      exact zF_ret rfl trivial
  · rw [if_pos c6] at h
    refine zF_go (n := 1) (ps := []) (s' := (11, [(0, .ref 86), (1, .int p_sort), (2, .int p_what)], [.long (-1000000000000000001)], zh, M)) rfl trivial ?_
    cases h
    exact zF_ret rfl trivial
noncomputable def qW_placeOf_L43 (p_sort : Int32) (rec6 : (Int32 × Int32 × Int32 × Int32 × zM) → Option (Int32 × zM)) (v : Int32 × Int32 × Int32 × Int32 × zM) : Option (Int32 × zM) := match v with
  | (v2_1, v3_2, v4_3, v6_4, M5) =>
    if v6_4 < (M5 63 0) then
      (zq (vp_in v6_4 8) <| zq (vp_in (((((p_sort * 2) * 4) + v6_4) * 3) + (M5 68 v6_4.toNatClampNeg)) 120) <| zq (vp_in (4 + v6_4) 8) <| zq (vp_in ((((((p_sort * 2) * 4) + 4) + v6_4) * 3) + (M5 68 (4 + v6_4).toNatClampNeg)) 120) <| zq (vp_in v6_4 4) <| zq (vp_in v6_4 4) <| if ((zw M5 73 v6_4.toNatClampNeg (if (M5 71 (((((p_sort * 2) * 4) + v6_4) * 3) + (M5 68 v6_4.toNatClampNeg)).toNatClampNeg) < (M5 71 ((((((p_sort * 2) * 4) + 4) + v6_4) * 3) + (M5 68 (4 + v6_4).toNatClampNeg)).toNatClampNeg) then 1 else 0)) 73 v6_4.toNatClampNeg) = 1 then
        (rec6 ((v2_1 + (M5 71 (((((p_sort * 2) * 4) + v6_4) * 3) + (M5 68 v6_4.toNatClampNeg)).toNatClampNeg)), (v3_2 + (M5 71 ((((((p_sort * 2) * 4) + 4) + v6_4) * 3) + (M5 68 (4 + v6_4).toNatClampNeg)).toNatClampNeg)), (v4_3 + (M5 71 ((((((p_sort * 2) * 4) + 4) + v6_4) * 3) + (M5 68 (4 + v6_4).toNatClampNeg)).toNatClampNeg)), (v6_4 + 1), (zw M5 73 v6_4.toNatClampNeg (if (M5 71 (((((p_sort * 2) * 4) + v6_4) * 3) + (M5 68 v6_4.toNatClampNeg)).toNatClampNeg) < (M5 71 ((((((p_sort * 2) * 4) + 4) + v6_4) * 3) + (M5 68 (4 + v6_4).toNatClampNeg)).toNatClampNeg) then 1 else 0))))
      else
        (rec6 ((v2_1 + (M5 71 (((((p_sort * 2) * 4) + v6_4) * 3) + (M5 68 v6_4.toNatClampNeg)).toNatClampNeg)), (v3_2 + (M5 71 ((((((p_sort * 2) * 4) + 4) + v6_4) * 3) + (M5 68 (4 + v6_4).toNatClampNeg)).toNatClampNeg)), (v4_3 + (M5 71 (((((p_sort * 2) * 4) + v6_4) * 3) + (M5 68 v6_4.toNatClampNeg)).toNatClampNeg)), (v6_4 + 1), (zw M5 73 v6_4.toNatClampNeg (if (M5 71 (((((p_sort * 2) * 4) + v6_4) * 3) + (M5 68 v6_4.toNatClampNeg)).toNatClampNeg) < (M5 71 ((((((p_sort * 2) * 4) + 4) + v6_4) * 3) + (M5 68 (4 + v6_4).toNatClampNeg)).toNatClampNeg) then 1 else 0)))))
    else
      (zq (vp_in p_sort 5) <| if (M5 13 p_sort.toNatClampNeg) = 1 then
        (if ((if ((if (0 : Int32) < v2_1 then v2_1 else 0) : Int32) < v3_2 then v3_2 else (if (0 : Int32) < v2_1 then v2_1 else 0)) : Int32) < v4_3 then
          (some (3, M5))
        else
          (some ((if ((if (0 : Int32) < v2_1 then v2_1 else 0) : Int32) < v3_2 then 2 else (if (0 : Int32) < v2_1 then 1 else 0)), M5)))
      else
        (some ((if ((if (0 : Int32) < v2_1 then v2_1 else 0) : Int32) < v3_2 then 2 else (if (0 : Int32) < v2_1 then 1 else 0)), M5)))
noncomputable def qW_placeOf (M : zM) (p_sort : Int32) : Option (Int32 × zM) :=
  zq (vp_in (p_sort * 2) 10) <| zq (vp_in ((p_sort * 2) + 1) 10) <| zlp (qW_placeOf_L43 p_sort) zfu ((-(M 12 (p_sort * 2).toNatClampNeg)), (-(M 12 ((p_sort * 2) + 1).toNatClampNeg)), ((-(M 12 (p_sort * 2).toNatClampNeg)) + (-(M 12 ((p_sort * 2) + 1).toNatClampNeg))), 0, M)
set_option maxRecDepth 20000 in
set_option maxHeartbeats 4000000 in
theorem qW_placeOf_ok {S : zSc} {M : zM} {p_sort : Int32} {r : Int32 × zM} (h : qW_placeOf M p_sort = some r) : zF S 73 (0, [(0, .ref 70), (1, .int p_sort)], [], zh, M) (some (.int r.1)) (r.2) := by
  unfold qW_placeOf at h
  obtain ⟨g12, h⟩ := zq_some h
  obtain ⟨g13, h⟩ := zq_some h
  refine zF_go (n := 32) (ps := [vp_in (p_sort * 2) 10, vp_in ((p_sort * 2) + 1) 10]) (s' := (43, [(6, .int 0), (5, .int ((p_sort * 2) * 4)), (4, .int ((-(M 12 (p_sort * 2).toNatClampNeg)) + (-(M 12 ((p_sort * 2) + 1).toNatClampNeg)))), (3, .int (-(M 12 ((p_sort * 2) + 1).toNatClampNeg))), (2, .int (-(M 12 (p_sort * 2).toNatClampNeg))), (0, .ref 70), (1, .int p_sort)], [], zh, M)) rfl ⟨g12, g13, trivial⟩ ?_
  refine zF_same (s' := (43, [(0, .ref 70), (1, .int p_sort), (2, .int (-(M 12 (p_sort * 2).toNatClampNeg))), (3, .int (-(M 12 ((p_sort * 2) + 1).toNatClampNeg))), (4, .int ((-(M 12 (p_sort * 2).toNatClampNeg)) + (-(M 12 ((p_sort * 2) + 1).toNatClampNeg)))), (5, .int ((p_sort * 2) * 4)), (6, .int 0)], [], zh, M)) rfl ?_
  refine zlp_ind (P := fun (v : Int32 × Int32 × Int32 × Int32 × zM) r => zF S 73 (43, [(0, .ref 70), (1, .int p_sort), (2, .int v.1), (3, .int v.2.1), (4, .int v.2.2.1), (5, .int ((p_sort * 2) * 4)), (6, .int v.2.2.2.1)], [], zh, v.2.2.2.2) (some (.int r.1)) (r.2)) ?_ _ _ _ h
  intro rec6 hrec6 v r h
  obtain ⟨v2_1, v3_2, v4_3, v6_4, M5⟩ := v
  unfold qW_placeOf_L43 at h
  dsimp only at h
  show zF S 73 (43, [(0, .ref 70), (1, .int p_sort), (2, .int v2_1), (3, .int v3_2), (4, .int v4_3), (5, .int ((p_sort * 2) * 4)), (6, .int v6_4)], [], zh, M5) _ _
  refine zF_go (n := 4) (ps := []) (s' := (52, [(0, .ref 70), (1, .int p_sort), (2, .int v2_1), (3, .int v3_2), (4, .int v4_3), (5, .int ((p_sort * 2) * 4)), (6, .int v6_4)], [.int (M5 63 0), .int v6_4], zh, M5)) rfl trivial ?_
  refine zF_ge (t := 167) (u := (55, [(0, .ref 70), (1, .int p_sort), (2, .int v2_1), (3, .int v3_2), (4, .int v4_3), (5, .int ((p_sort * 2) * 4)), (6, .int v6_4)], [], zh, M5)) rfl (fun c14 => ?_) (fun c14 => ?_)
  · rw [if_neg c14] at h
    refine zF_go (n := 1) (ps := []) (s' := (168, [(0, .ref 70), (1, .int p_sort), (2, .int v2_1), (3, .int v3_2), (4, .int v4_3), (5, .int ((p_sort * 2) * 4)), (6, .int v6_4)], [.int v2_1], zh, M5)) rfl trivial ?_
    have hk15 : zF S 73 (176, [(0, .ref 70), (1, .int p_sort), (2, .int v2_1), (3, .int v3_2), (4, .int v4_3)], [.int (if (0 : Int32) < v2_1 then 1 else 0)], zh, M5) (some (.int r.1)) (r.2) := by
      refine zF_go (n := 2) (ps := []) (s' := (179, [(6, .int (if (0 : Int32) < v2_1 then 1 else 0)), (0, .ref 70), (1, .int p_sort), (2, .int v2_1), (3, .int v3_2), (4, .int v4_3)], [.int v2_1], zh, M5)) rfl trivial ?_
      have hk16 : zF S 73 (187, [(0, .ref 70), (1, .int p_sort), (3, .int v3_2), (4, .int v4_3), (6, .int (if (0 : Int32) < v2_1 then 1 else 0))], [.int (if (0 : Int32) < v2_1 then v2_1 else 0)], zh, M5) (some (.int r.1)) (r.2) := by
        refine zF_go (n := 3) (ps := []) (s' := (192, [(7, .int (if (0 : Int32) < v2_1 then v2_1 else 0)), (0, .ref 70), (1, .int p_sort), (3, .int v3_2), (4, .int v4_3), (6, .int (if (0 : Int32) < v2_1 then 1 else 0))], [.int (if (0 : Int32) < v2_1 then v2_1 else 0), .int v3_2], zh, M5)) rfl trivial ?_
        have hk17 : zF S 73 (201, [(0, .ref 70), (1, .int p_sort), (4, .int v4_3), (6, .int (if ((if (0 : Int32) < v2_1 then v2_1 else 0) : Int32) < v3_2 then 2 else (if (0 : Int32) < v2_1 then 1 else 0))), (7, .int (if ((if (0 : Int32) < v2_1 then v2_1 else 0) : Int32) < v3_2 then v3_2 else (if (0 : Int32) < v2_1 then v2_1 else 0)))], [], zh, M5) (some (.int r.1)) (r.2) := by
          obtain ⟨g18, h⟩ := zq_some h
          refine zF_go (n := 6) (ps := [vp_in p_sort 5]) (s' := (211, [(0, .ref 70), (1, .int p_sort), (4, .int v4_3), (6, .int (if ((if (0 : Int32) < v2_1 then v2_1 else 0) : Int32) < v3_2 then 2 else (if (0 : Int32) < v2_1 then 1 else 0))), (7, .int (if ((if (0 : Int32) < v2_1 then v2_1 else 0) : Int32) < v3_2 then v3_2 else (if (0 : Int32) < v2_1 then v2_1 else 0)))], [.int 1, .int (M5 13 p_sort.toNatClampNeg)], zh, M5)) rfl ⟨g18, trivial⟩ ?_
          refine zF_ne (t := 225) (u := (214, [(0, .ref 70), (1, .int p_sort), (4, .int v4_3), (6, .int (if ((if (0 : Int32) < v2_1 then v2_1 else 0) : Int32) < v3_2 then 2 else (if (0 : Int32) < v2_1 then 1 else 0))), (7, .int (if ((if (0 : Int32) < v2_1 then v2_1 else 0) : Int32) < v3_2 then v3_2 else (if (0 : Int32) < v2_1 then v2_1 else 0)))], [], zh, M5)) rfl (fun c19 => ?_) (fun c19 => ?_)
          · rw [if_neg c19] at h
            refine zF_go (n := 1) (ps := []) (s' := (227, [(6, .int (if ((if (0 : Int32) < v2_1 then v2_1 else 0) : Int32) < v3_2 then 2 else (if (0 : Int32) < v2_1 then 1 else 0)))], [.int (if ((if (0 : Int32) < v2_1 then v2_1 else 0) : Int32) < v3_2 then 2 else (if (0 : Int32) < v2_1 then 1 else 0))], zh, M5)) rfl trivial ?_
            cases h
            exact zF_ret rfl trivial
          · rw [if_pos c19] at h
            refine zF_go (n := 2) (ps := []) (s' := (218, [(0, .ref 70), (1, .int p_sort), (4, .int v4_3), (6, .int (if ((if (0 : Int32) < v2_1 then v2_1 else 0) : Int32) < v3_2 then 2 else (if (0 : Int32) < v2_1 then 1 else 0))), (7, .int (if ((if (0 : Int32) < v2_1 then v2_1 else 0) : Int32) < v3_2 then v3_2 else (if (0 : Int32) < v2_1 then v2_1 else 0)))], [.int (if ((if (0 : Int32) < v2_1 then v2_1 else 0) : Int32) < v3_2 then v3_2 else (if (0 : Int32) < v2_1 then v2_1 else 0)), .int v4_3], zh, M5)) rfl trivial ?_
            refine zF_le (t := 225) (u := (221, [(0, .ref 70), (1, .int p_sort), (4, .int v4_3), (6, .int (if ((if (0 : Int32) < v2_1 then v2_1 else 0) : Int32) < v3_2 then 2 else (if (0 : Int32) < v2_1 then 1 else 0))), (7, .int (if ((if (0 : Int32) < v2_1 then v2_1 else 0) : Int32) < v3_2 then v3_2 else (if (0 : Int32) < v2_1 then v2_1 else 0)))], [], zh, M5)) rfl (fun c20 => ?_) (fun c20 => ?_)
            · rw [if_neg c20] at h
              refine zF_go (n := 1) (ps := []) (s' := (227, [(6, .int (if ((if (0 : Int32) < v2_1 then v2_1 else 0) : Int32) < v3_2 then 2 else (if (0 : Int32) < v2_1 then 1 else 0)))], [.int (if ((if (0 : Int32) < v2_1 then v2_1 else 0) : Int32) < v3_2 then 2 else (if (0 : Int32) < v2_1 then 1 else 0))], zh, M5)) rfl trivial ?_
              cases h
              exact zF_ret rfl trivial
            · rw [if_pos c20] at h
              refine zF_go (n := 2) (ps := []) (s' := (227, [(0, .ref 70), (1, .int p_sort), (4, .int v4_3), (6, .int (if ((if (0 : Int32) < v2_1 then v2_1 else 0) : Int32) < v3_2 then 2 else (if (0 : Int32) < v2_1 then 1 else 0))), (7, .int (if ((if (0 : Int32) < v2_1 then v2_1 else 0) : Int32) < v3_2 then v3_2 else (if (0 : Int32) < v2_1 then v2_1 else 0)))], [.int 3], zh, M5)) rfl trivial ?_
              cases h
              exact zF_ret rfl trivial
        refine zF_le (t := 201) (u := (195, [(7, .int (if (0 : Int32) < v2_1 then v2_1 else 0)), (0, .ref 70), (1, .int p_sort), (3, .int v3_2), (4, .int v4_3), (6, .int (if (0 : Int32) < v2_1 then 1 else 0))], [], zh, M5)) rfl (fun c21 => ?_) (fun c21 => ?_)
        · skip
          simp only [if_neg c21] at hk17
          try simp only [if_neg c21]
          exact zF_as hk17 rfl
        · skip
          refine zF_go (n := 4) (ps := []) (s' := (201, [(7, .int v3_2), (6, .int 2), (0, .ref 70), (1, .int p_sort), (3, .int v3_2), (4, .int v4_3)], [], zh, M5)) rfl trivial ?_
          simp only [if_pos c21] at hk17
          try simp only [if_pos c21]
          exact zF_as hk17 rfl
      refine zF_le (t := 186) (u := (182, [(6, .int (if (0 : Int32) < v2_1 then 1 else 0)), (0, .ref 70), (1, .int p_sort), (2, .int v2_1), (3, .int v3_2), (4, .int v4_3)], [], zh, M5)) rfl (fun c22 => ?_) (fun c22 => ?_)
      · skip
        refine zF_go (n := 1) (ps := []) (s' := (187, [(6, .int (if (0 : Int32) < v2_1 then 1 else 0)), (0, .ref 70), (1, .int p_sort), (2, .int v2_1), (3, .int v3_2), (4, .int v4_3)], [.int 0], zh, M5)) rfl trivial ?_
        simp only [if_neg c22] at hk16
        try simp only [if_neg c22]
        exact zF_as hk16 rfl
      · skip
        refine zF_go (n := 2) (ps := []) (s' := (187, [(6, .int (if (0 : Int32) < v2_1 then 1 else 0)), (0, .ref 70), (1, .int p_sort), (2, .int v2_1), (3, .int v3_2), (4, .int v4_3)], [.int v2_1], zh, M5)) rfl trivial ?_
        simp only [if_pos c22] at hk16
        try simp only [if_pos c22]
        exact zF_as hk16 rfl
    refine zF_le (t := 175) (u := (171, [(0, .ref 70), (1, .int p_sort), (2, .int v2_1), (3, .int v3_2), (4, .int v4_3), (5, .int ((p_sort * 2) * 4)), (6, .int v6_4)], [], zh, M5)) rfl (fun c23 => ?_) (fun c23 => ?_)
    · skip
      refine zF_go (n := 1) (ps := []) (s' := (176, [(0, .ref 70), (1, .int p_sort), (2, .int v2_1), (3, .int v3_2), (4, .int v4_3), (5, .int ((p_sort * 2) * 4)), (6, .int v6_4)], [.int 0], zh, M5)) rfl trivial ?_
      simp only [if_neg c23] at hk15
      try simp only [if_neg c23]
      exact zF_as hk15 rfl
    · skip
      refine zF_go (n := 2) (ps := []) (s' := (176, [(0, .ref 70), (1, .int p_sort), (2, .int v2_1), (3, .int v3_2), (4, .int v4_3), (5, .int ((p_sort * 2) * 4)), (6, .int v6_4)], [.int 1], zh, M5)) rfl trivial ?_
      simp only [if_pos c23] at hk15
      try simp only [if_pos c23]
      exact zF_as hk15 rfl
  · rw [if_pos c14] at h
    obtain ⟨g24, h⟩ := zq_some h
    obtain ⟨g25, h⟩ := zq_some h
    obtain ⟨g26, h⟩ := zq_some h
    obtain ⟨g27, h⟩ := zq_some h
    refine zF_go (n := 39) (ps := [vp_in v6_4 8, vp_in (((((p_sort * 2) * 4) + v6_4) * 3) + (M5 68 v6_4.toNatClampNeg)) 120, vp_in (4 + v6_4) 8, vp_in ((((((p_sort * 2) * 4) + 4) + v6_4) * 3) + (M5 68 (4 + v6_4).toNatClampNeg)) 120]) (s' := (119, [(8, .int (M5 71 ((((((p_sort * 2) * 4) + 4) + v6_4) * 3) + (M5 68 (4 + v6_4).toNatClampNeg)).toNatClampNeg)), (7, .int (M5 71 (((((p_sort * 2) * 4) + v6_4) * 3) + (M5 68 v6_4.toNatClampNeg)).toNatClampNeg)), (0, .ref 70), (1, .int p_sort), (2, .int v2_1), (3, .int v3_2), (4, .int v4_3), (5, .int ((p_sort * 2) * 4)), (6, .int v6_4)], [.int (M5 71 (((((p_sort * 2) * 4) + v6_4) * 3) + (M5 68 v6_4.toNatClampNeg)).toNatClampNeg), .int (M5 71 ((((((p_sort * 2) * 4) + 4) + v6_4) * 3) + (M5 68 (4 + v6_4).toNatClampNeg)).toNatClampNeg), .int v6_4, .ref 73], zh, M5)) rfl ⟨g24, g25, g26, g27, trivial⟩ ?_
    have hk28 : zF S 73 (127, [(0, .ref 70), (1, .int p_sort), (2, .int v2_1), (3, .int v3_2), (4, .int v4_3), (5, .int ((p_sort * 2) * 4)), (6, .int v6_4), (7, .int (M5 71 (((((p_sort * 2) * 4) + v6_4) * 3) + (M5 68 v6_4.toNatClampNeg)).toNatClampNeg)), (8, .int (M5 71 ((((((p_sort * 2) * 4) + 4) + v6_4) * 3) + (M5 68 (4 + v6_4).toNatClampNeg)).toNatClampNeg))], [.int (if (M5 71 (((((p_sort * 2) * 4) + v6_4) * 3) + (M5 68 v6_4.toNatClampNeg)).toNatClampNeg) < (M5 71 ((((((p_sort * 2) * 4) + 4) + v6_4) * 3) + (M5 68 (4 + v6_4).toNatClampNeg)).toNatClampNeg) then 1 else 0), .int v6_4, .ref 73], zh, M5) (some (.int r.1)) (r.2) := by
      obtain ⟨g29, h⟩ := zq_some h
      obtain ⟨g30, h⟩ := zq_some h
      refine zF_go (n := 15) (ps := [vp_in v6_4 4, vp_in v6_4 4]) (s' := (148, [(3, .int (v3_2 + (M5 71 ((((((p_sort * 2) * 4) + 4) + v6_4) * 3) + (M5 68 (4 + v6_4).toNatClampNeg)).toNatClampNeg))), (2, .int (v2_1 + (M5 71 (((((p_sort * 2) * 4) + v6_4) * 3) + (M5 68 v6_4.toNatClampNeg)).toNatClampNeg))), (0, .ref 70), (1, .int p_sort), (4, .int v4_3), (5, .int ((p_sort * 2) * 4)), (6, .int v6_4), (7, .int (M5 71 (((((p_sort * 2) * 4) + v6_4) * 3) + (M5 68 v6_4.toNatClampNeg)).toNatClampNeg)), (8, .int (M5 71 ((((((p_sort * 2) * 4) + 4) + v6_4) * 3) + (M5 68 (4 + v6_4).toNatClampNeg)).toNatClampNeg))], [.int 1, .int ((zw M5 73 v6_4.toNatClampNeg (if (M5 71 (((((p_sort * 2) * 4) + v6_4) * 3) + (M5 68 v6_4.toNatClampNeg)).toNatClampNeg) < (M5 71 ((((((p_sort * 2) * 4) + 4) + v6_4) * 3) + (M5 68 (4 + v6_4).toNatClampNeg)).toNatClampNeg) then 1 else 0)) 73 v6_4.toNatClampNeg), .int v4_3], zh, (zw M5 73 v6_4.toNatClampNeg (if (M5 71 (((((p_sort * 2) * 4) + v6_4) * 3) + (M5 68 v6_4.toNatClampNeg)).toNatClampNeg) < (M5 71 ((((((p_sort * 2) * 4) + 4) + v6_4) * 3) + (M5 68 (4 + v6_4).toNatClampNeg)).toNatClampNeg) then 1 else 0)))) rfl ⟨g29, g30, trivial⟩ ?_
      refine zF_ne (t := 156) (u := (151, [(3, .int (v3_2 + (M5 71 ((((((p_sort * 2) * 4) + 4) + v6_4) * 3) + (M5 68 (4 + v6_4).toNatClampNeg)).toNatClampNeg))), (2, .int (v2_1 + (M5 71 (((((p_sort * 2) * 4) + v6_4) * 3) + (M5 68 v6_4.toNatClampNeg)).toNatClampNeg))), (0, .ref 70), (1, .int p_sort), (4, .int v4_3), (5, .int ((p_sort * 2) * 4)), (6, .int v6_4), (7, .int (M5 71 (((((p_sort * 2) * 4) + v6_4) * 3) + (M5 68 v6_4.toNatClampNeg)).toNatClampNeg)), (8, .int (M5 71 ((((((p_sort * 2) * 4) + 4) + v6_4) * 3) + (M5 68 (4 + v6_4).toNatClampNeg)).toNatClampNeg))], [.int v4_3], zh, (zw M5 73 v6_4.toNatClampNeg (if (M5 71 (((((p_sort * 2) * 4) + v6_4) * 3) + (M5 68 v6_4.toNatClampNeg)).toNatClampNeg) < (M5 71 ((((((p_sort * 2) * 4) + 4) + v6_4) * 3) + (M5 68 (4 + v6_4).toNatClampNeg)).toNatClampNeg) then 1 else 0)))) rfl (fun c31 => ?_) (fun c31 => ?_)
      · rw [if_neg c31] at h
        refine zF_go (n := 1) (ps := []) (s' := (158, [(3, .int (v3_2 + (M5 71 ((((((p_sort * 2) * 4) + 4) + v6_4) * 3) + (M5 68 (4 + v6_4).toNatClampNeg)).toNatClampNeg))), (2, .int (v2_1 + (M5 71 (((((p_sort * 2) * 4) + v6_4) * 3) + (M5 68 v6_4.toNatClampNeg)).toNatClampNeg))), (0, .ref 70), (1, .int p_sort), (4, .int v4_3), (5, .int ((p_sort * 2) * 4)), (6, .int v6_4), (7, .int (M5 71 (((((p_sort * 2) * 4) + v6_4) * 3) + (M5 68 v6_4.toNatClampNeg)).toNatClampNeg)), (8, .int (M5 71 ((((((p_sort * 2) * 4) + 4) + v6_4) * 3) + (M5 68 (4 + v6_4).toNatClampNeg)).toNatClampNeg))], [.int (M5 71 (((((p_sort * 2) * 4) + v6_4) * 3) + (M5 68 v6_4.toNatClampNeg)).toNatClampNeg), .int v4_3], zh, (zw M5 73 v6_4.toNatClampNeg (if (M5 71 (((((p_sort * 2) * 4) + v6_4) * 3) + (M5 68 v6_4.toNatClampNeg)).toNatClampNeg) < (M5 71 ((((((p_sort * 2) * 4) + 4) + v6_4) * 3) + (M5 68 (4 + v6_4).toNatClampNeg)).toNatClampNeg) then 1 else 0)))) rfl trivial ?_
        refine zF_go (n := 4) (ps := []) (s' := (43, [(6, .int (v6_4 + 1)), (4, .int (v4_3 + (M5 71 (((((p_sort * 2) * 4) + v6_4) * 3) + (M5 68 v6_4.toNatClampNeg)).toNatClampNeg))), (0, .ref 70), (1, .int p_sort), (2, .int (v2_1 + (M5 71 (((((p_sort * 2) * 4) + v6_4) * 3) + (M5 68 v6_4.toNatClampNeg)).toNatClampNeg))), (3, .int (v3_2 + (M5 71 ((((((p_sort * 2) * 4) + 4) + v6_4) * 3) + (M5 68 (4 + v6_4).toNatClampNeg)).toNatClampNeg))), (5, .int ((p_sort * 2) * 4))], [], zh, (zw M5 73 v6_4.toNatClampNeg (if (M5 71 (((((p_sort * 2) * 4) + v6_4) * 3) + (M5 68 v6_4.toNatClampNeg)).toNatClampNeg) < (M5 71 ((((((p_sort * 2) * 4) + 4) + v6_4) * 3) + (M5 68 (4 + v6_4).toNatClampNeg)).toNatClampNeg) then 1 else 0)))) rfl trivial ?_
        exact zF_as (hrec6 _ _ h) rfl
      · rw [if_pos c31] at h
        refine zF_go (n := 2) (ps := []) (s' := (158, [(3, .int (v3_2 + (M5 71 ((((((p_sort * 2) * 4) + 4) + v6_4) * 3) + (M5 68 (4 + v6_4).toNatClampNeg)).toNatClampNeg))), (2, .int (v2_1 + (M5 71 (((((p_sort * 2) * 4) + v6_4) * 3) + (M5 68 v6_4.toNatClampNeg)).toNatClampNeg))), (0, .ref 70), (1, .int p_sort), (4, .int v4_3), (5, .int ((p_sort * 2) * 4)), (6, .int v6_4), (7, .int (M5 71 (((((p_sort * 2) * 4) + v6_4) * 3) + (M5 68 v6_4.toNatClampNeg)).toNatClampNeg)), (8, .int (M5 71 ((((((p_sort * 2) * 4) + 4) + v6_4) * 3) + (M5 68 (4 + v6_4).toNatClampNeg)).toNatClampNeg))], [.int (M5 71 ((((((p_sort * 2) * 4) + 4) + v6_4) * 3) + (M5 68 (4 + v6_4).toNatClampNeg)).toNatClampNeg), .int v4_3], zh, (zw M5 73 v6_4.toNatClampNeg (if (M5 71 (((((p_sort * 2) * 4) + v6_4) * 3) + (M5 68 v6_4.toNatClampNeg)).toNatClampNeg) < (M5 71 ((((((p_sort * 2) * 4) + 4) + v6_4) * 3) + (M5 68 (4 + v6_4).toNatClampNeg)).toNatClampNeg) then 1 else 0)))) rfl trivial ?_
        refine zF_go (n := 4) (ps := []) (s' := (43, [(6, .int (v6_4 + 1)), (4, .int (v4_3 + (M5 71 ((((((p_sort * 2) * 4) + 4) + v6_4) * 3) + (M5 68 (4 + v6_4).toNatClampNeg)).toNatClampNeg))), (0, .ref 70), (1, .int p_sort), (2, .int (v2_1 + (M5 71 (((((p_sort * 2) * 4) + v6_4) * 3) + (M5 68 v6_4.toNatClampNeg)).toNatClampNeg))), (3, .int (v3_2 + (M5 71 ((((((p_sort * 2) * 4) + 4) + v6_4) * 3) + (M5 68 (4 + v6_4).toNatClampNeg)).toNatClampNeg))), (5, .int ((p_sort * 2) * 4))], [], zh, (zw M5 73 v6_4.toNatClampNeg (if (M5 71 (((((p_sort * 2) * 4) + v6_4) * 3) + (M5 68 v6_4.toNatClampNeg)).toNatClampNeg) < (M5 71 ((((((p_sort * 2) * 4) + 4) + v6_4) * 3) + (M5 68 (4 + v6_4).toNatClampNeg)).toNatClampNeg) then 1 else 0)))) rfl trivial ?_
        exact zF_as (hrec6 _ _ h) rfl
    refine zF_le (t := 126) (u := (122, [(8, .int (M5 71 ((((((p_sort * 2) * 4) + 4) + v6_4) * 3) + (M5 68 (4 + v6_4).toNatClampNeg)).toNatClampNeg)), (7, .int (M5 71 (((((p_sort * 2) * 4) + v6_4) * 3) + (M5 68 v6_4.toNatClampNeg)).toNatClampNeg)), (0, .ref 70), (1, .int p_sort), (2, .int v2_1), (3, .int v3_2), (4, .int v4_3), (5, .int ((p_sort * 2) * 4)), (6, .int v6_4)], [.int v6_4, .ref 73], zh, M5)) rfl (fun c32 => ?_) (fun c32 => ?_)
    · skip
      refine zF_go (n := 1) (ps := []) (s' := (127, [(8, .int (M5 71 ((((((p_sort * 2) * 4) + 4) + v6_4) * 3) + (M5 68 (4 + v6_4).toNatClampNeg)).toNatClampNeg)), (7, .int (M5 71 (((((p_sort * 2) * 4) + v6_4) * 3) + (M5 68 v6_4.toNatClampNeg)).toNatClampNeg)), (0, .ref 70), (1, .int p_sort), (2, .int v2_1), (3, .int v3_2), (4, .int v4_3), (5, .int ((p_sort * 2) * 4)), (6, .int v6_4)], [.int 0, .int v6_4, .ref 73], zh, M5)) rfl trivial ?_
      simp only [if_neg c32] at hk28
      try simp only [if_neg c32]
      exact zF_as hk28 rfl
    · skip
      refine zF_go (n := 2) (ps := []) (s' := (127, [(8, .int (M5 71 ((((((p_sort * 2) * 4) + 4) + v6_4) * 3) + (M5 68 (4 + v6_4).toNatClampNeg)).toNatClampNeg)), (7, .int (M5 71 (((((p_sort * 2) * 4) + v6_4) * 3) + (M5 68 v6_4.toNatClampNeg)).toNatClampNeg)), (0, .ref 70), (1, .int p_sort), (2, .int v2_1), (3, .int v3_2), (4, .int v4_3), (5, .int ((p_sort * 2) * 4)), (6, .int v6_4)], [.int 1, .int v6_4, .ref 73], zh, M5)) rfl trivial ?_
      simp only [if_pos c32] at hk28
      try simp only [if_pos c32]
      exact zF_as hk28 rfl
noncomputable def qS_goes (M : zM) (p_sort : Int32) : Option (Int32 × zM) :=
  zb (qS_noSort M p_sort) fun x1 =>
  if x1 = 0 then
    (zb (qS_lookAsItIs M) fun M2 =>
    zb2 (qW_placeOf M2 p_sort) fun x3 M4 =>
    some (x3, M4))
  else
    (some ((-1), M))
set_option maxRecDepth 20000 in
set_option maxHeartbeats 4000000 in
theorem qS_goes_ok {S : zSc} {M : zM} {p_sort : Int32} {r : Int32 × zM} (h : qS_goes M p_sort = some r) : zF S 100 (0, [(0, .ref 1), (1, .int p_sort)], [], zh, M) (some (.int r.1)) (r.2) := by
  unfold qS_goes at h
  refine zF_go (n := 2) (ps := []) (s' := (2, [(0, .ref 1), (1, .int p_sort)], [.int p_sort, .ref 1], zh, M)) rfl trivial ?_
  obtain ⟨x1, e5, h⟩ := zb_some h
  refine zF_call (y' := 129) (as := [.ref 1, .int p_sort]) (u := (5, [(0, .ref 1), (1, .int p_sort)], [], zh, M)) rfl ⟨rfl, rfl⟩ rfl (qS_noSort_ok (S := S) (M := M) e5) ?_
  show zF S 100 (5, [(0, .ref 1), (1, .int p_sort)], [.int x1], zh, M) _ _
  refine zF_eq (t := 10) (u := (8, [(0, .ref 1), (1, .int p_sort)], [], zh, M)) rfl (fun c6 => ?_) (fun c6 => ?_)
  · rw [if_pos c6] at h
    refine zF_go (n := 1) (ps := []) (s' := (11, [(0, .ref 1), (1, .int p_sort)], [.ref 1], zh, M)) rfl trivial ?_
    obtain ⟨M2, e7, h⟩ := zb_some h
    refine zF_call (y' := 132) (as := [.ref 1]) (u := (14, [(0, .ref 1), (1, .int p_sort)], [], zh, M)) rfl ⟨rfl, rfl⟩ rfl (qS_lookAsItIs_ok (S := S) (M := M) e7) ?_
    show zF S 100 (14, [(0, .ref 1), (1, .int p_sort)], [], zh, M2) _ _
    refine zF_go (n := 3) (ps := []) (s' := (19, [(0, .ref 1), (1, .int p_sort)], [.int p_sort, .ref 70], zh, M2)) rfl trivial ?_
    obtain ⟨x3, M4, e8, h⟩ := zb2_some h
    refine zF_call (y' := 73) (as := [.ref 70, .int p_sort]) (u := (22, [(0, .ref 1), (1, .int p_sort)], [], zh, M2)) rfl ⟨rfl, rfl⟩ rfl (qW_placeOf_ok (S := S) (M := M2) e8) ?_
    show zF S 100 (22, [(0, .ref 1), (1, .int p_sort)], [.int x3], zh, M4) _ _
    cases h
    exact zF_ret rfl trivial
  · rw [if_neg c6] at h
    refine zF_go (n := 1) (ps := []) (s' := (9, [(0, .ref 1), (1, .int p_sort)], [.int (-1)], zh, M)) rfl trivial ?_
    cases h
    exact zF_ret rfl trivial
noncomputable def qM_goesTo (M : zM) (p_sort : Int32) : Option (Int32) :=
  zb (qM_thinksOf M p_sort 0) fun x1 =>
  zb (qM_thinksOf M p_sort 1) fun x4 =>
  zq (vp_in p_sort 5) <| if (M 95 p_sort.toNatClampNeg) = 1 then
    (zb (qM_thinksBoth M p_sort) fun x7 =>
    if ((if ((if (0 : Int32) < x1 then x1 else 0) : Int32) < x4 then x4 else (if (0 : Int32) < x1 then x1 else 0)) : Int32) < x7 then
      (some 3)
    else
      (some (if ((if (0 : Int32) < x1 then x1 else 0) : Int32) < x4 then 2 else (if (0 : Int32) < x1 then 1 else 0))))
  else
    (some (if ((if (0 : Int32) < x1 then x1 else 0) : Int32) < x4 then 2 else (if (0 : Int32) < x1 then 1 else 0)))
set_option maxRecDepth 20000 in
set_option maxHeartbeats 4000000 in
theorem qM_goesTo_ok {S : zSc} {M : zM} {p_sort : Int32} {r : Int32} (h : qM_goesTo M p_sort = some r) : zF S 165 (0, [(0, .ref 86), (1, .int p_sort)], [], zh, M) (some (.int r)) (M) := by
  unfold qM_goesTo at h
  refine zF_go (n := 7) (ps := []) (s' := (7, [(3, .int 0), (2, .int 0), (0, .ref 86), (1, .int p_sort)], [.int 0, .int p_sort, .ref 86], zh, M)) rfl trivial ?_
  obtain ⟨x1, e8, h⟩ := zb_some h
  refine zF_call (y' := 161) (as := [.ref 86, .int p_sort, .int 0]) (u := (10, [(3, .int 0), (2, .int 0), (0, .ref 86), (1, .int p_sort)], [], zh, M)) rfl ⟨rfl, rfl⟩ rfl (qM_thinksOf_ok (S := S) (M := M) e8) ?_
  show zF S 165 (10, [(3, .int 0), (2, .int 0), (0, .ref 86), (1, .int p_sort)], [.int x1], zh, M) _ _
  refine zF_go (n := 3) (ps := []) (s' := (15, [(4, .int x1), (3, .int 0), (2, .int 0), (0, .ref 86), (1, .int p_sort)], [.int 0, .int x1], zh, M)) rfl trivial ?_
  have hk9 : zF S 165 (23, [(0, .ref 86), (1, .int p_sort), (2, .int (if (0 : Int32) < x1 then 1 else 0)), (3, .int (if (0 : Int32) < x1 then x1 else 0))], [], zh, M) (some (.int r)) (M) := by
    refine zF_go (n := 3) (ps := []) (s' := (26, [(0, .ref 86), (1, .int p_sort), (2, .int (if (0 : Int32) < x1 then 1 else 0)), (3, .int (if (0 : Int32) < x1 then x1 else 0))], [.int 1, .int p_sort, .ref 86], zh, M)) rfl trivial ?_
    obtain ⟨x4, e10, h⟩ := zb_some h
    refine zF_call (y' := 161) (as := [.ref 86, .int p_sort, .int 1]) (u := (29, [(0, .ref 86), (1, .int p_sort), (2, .int (if (0 : Int32) < x1 then 1 else 0)), (3, .int (if (0 : Int32) < x1 then x1 else 0))], [], zh, M)) rfl ⟨rfl, rfl⟩ rfl (qM_thinksOf_ok (S := S) (M := M) e10) ?_
    show zF S 165 (29, [(0, .ref 86), (1, .int p_sort), (2, .int (if (0 : Int32) < x1 then 1 else 0)), (3, .int (if (0 : Int32) < x1 then x1 else 0))], [.int x4], zh, M) _ _
    refine zF_go (n := 3) (ps := []) (s' := (34, [(5, .int x4), (0, .ref 86), (1, .int p_sort), (2, .int (if (0 : Int32) < x1 then 1 else 0)), (3, .int (if (0 : Int32) < x1 then x1 else 0))], [.int (if (0 : Int32) < x1 then x1 else 0), .int x4], zh, M)) rfl trivial ?_
    have hk11 : zF S 165 (42, [(0, .ref 86), (1, .int p_sort), (2, .int (if ((if (0 : Int32) < x1 then x1 else 0) : Int32) < x4 then 2 else (if (0 : Int32) < x1 then 1 else 0))), (3, .int (if ((if (0 : Int32) < x1 then x1 else 0) : Int32) < x4 then x4 else (if (0 : Int32) < x1 then x1 else 0)))], [], zh, M) (some (.int r)) (M) := by
      obtain ⟨g12, h⟩ := zq_some h
      refine zF_go (n := 5) (ps := [vp_in p_sort 5]) (s' := (49, [(0, .ref 86), (1, .int p_sort), (2, .int (if ((if (0 : Int32) < x1 then x1 else 0) : Int32) < x4 then 2 else (if (0 : Int32) < x1 then 1 else 0))), (3, .int (if ((if (0 : Int32) < x1 then x1 else 0) : Int32) < x4 then x4 else (if (0 : Int32) < x1 then x1 else 0)))], [.int 1, .int (M 95 p_sort.toNatClampNeg)], zh, M)) rfl ⟨g12, trivial⟩ ?_
      refine zF_ne (t := 65) (u := (52, [(0, .ref 86), (1, .int p_sort), (2, .int (if ((if (0 : Int32) < x1 then x1 else 0) : Int32) < x4 then 2 else (if (0 : Int32) < x1 then 1 else 0))), (3, .int (if ((if (0 : Int32) < x1 then x1 else 0) : Int32) < x4 then x4 else (if (0 : Int32) < x1 then x1 else 0)))], [], zh, M)) rfl (fun c13 => ?_) (fun c13 => ?_)
      · rw [if_neg c13] at h
        refine zF_go (n := 1) (ps := []) (s' := (66, [(2, .int (if ((if (0 : Int32) < x1 then x1 else 0) : Int32) < x4 then 2 else (if (0 : Int32) < x1 then 1 else 0)))], [.int (if ((if (0 : Int32) < x1 then x1 else 0) : Int32) < x4 then 2 else (if (0 : Int32) < x1 then 1 else 0))], zh, M)) rfl trivial ?_
        cases h
        exact zF_ret rfl trivial
      · rw [if_pos c13] at h
        refine zF_go (n := 2) (ps := []) (s' := (54, [(0, .ref 86), (1, .int p_sort), (2, .int (if ((if (0 : Int32) < x1 then x1 else 0) : Int32) < x4 then 2 else (if (0 : Int32) < x1 then 1 else 0))), (3, .int (if ((if (0 : Int32) < x1 then x1 else 0) : Int32) < x4 then x4 else (if (0 : Int32) < x1 then x1 else 0)))], [.int p_sort, .ref 86], zh, M)) rfl trivial ?_
        obtain ⟨x7, e14, h⟩ := zb_some h
        refine zF_call (y' := 163) (as := [.ref 86, .int p_sort]) (u := (57, [(0, .ref 86), (1, .int p_sort), (2, .int (if ((if (0 : Int32) < x1 then x1 else 0) : Int32) < x4 then 2 else (if (0 : Int32) < x1 then 1 else 0))), (3, .int (if ((if (0 : Int32) < x1 then x1 else 0) : Int32) < x4 then x4 else (if (0 : Int32) < x1 then x1 else 0)))], [], zh, M)) rfl ⟨rfl, rfl⟩ rfl (qM_thinksBoth_ok (S := S) (M := M) e14) ?_
        show zF S 165 (57, [(0, .ref 86), (1, .int p_sort), (2, .int (if ((if (0 : Int32) < x1 then x1 else 0) : Int32) < x4 then 2 else (if (0 : Int32) < x1 then 1 else 0))), (3, .int (if ((if (0 : Int32) < x1 then x1 else 0) : Int32) < x4 then x4 else (if (0 : Int32) < x1 then x1 else 0)))], [.int x7], zh, M) _ _
        refine zF_go (n := 1) (ps := []) (s' := (58, [(0, .ref 86), (1, .int p_sort), (2, .int (if ((if (0 : Int32) < x1 then x1 else 0) : Int32) < x4 then 2 else (if (0 : Int32) < x1 then 1 else 0))), (3, .int (if ((if (0 : Int32) < x1 then x1 else 0) : Int32) < x4 then x4 else (if (0 : Int32) < x1 then x1 else 0)))], [.int (if ((if (0 : Int32) < x1 then x1 else 0) : Int32) < x4 then x4 else (if (0 : Int32) < x1 then x1 else 0)), .int x7], zh, M)) rfl trivial ?_
        refine zF_le (t := 65) (u := (61, [(0, .ref 86), (1, .int p_sort), (2, .int (if ((if (0 : Int32) < x1 then x1 else 0) : Int32) < x4 then 2 else (if (0 : Int32) < x1 then 1 else 0))), (3, .int (if ((if (0 : Int32) < x1 then x1 else 0) : Int32) < x4 then x4 else (if (0 : Int32) < x1 then x1 else 0)))], [], zh, M)) rfl (fun c15 => ?_) (fun c15 => ?_)
        · rw [if_neg c15] at h
          refine zF_go (n := 1) (ps := []) (s' := (66, [(2, .int (if ((if (0 : Int32) < x1 then x1 else 0) : Int32) < x4 then 2 else (if (0 : Int32) < x1 then 1 else 0)))], [.int (if ((if (0 : Int32) < x1 then x1 else 0) : Int32) < x4 then 2 else (if (0 : Int32) < x1 then 1 else 0))], zh, M)) rfl trivial ?_
          cases h
          exact zF_ret rfl trivial
        · rw [if_pos c15] at h
          refine zF_go (n := 2) (ps := []) (s' := (66, [(0, .ref 86), (1, .int p_sort), (2, .int (if ((if (0 : Int32) < x1 then x1 else 0) : Int32) < x4 then 2 else (if (0 : Int32) < x1 then 1 else 0))), (3, .int (if ((if (0 : Int32) < x1 then x1 else 0) : Int32) < x4 then x4 else (if (0 : Int32) < x1 then x1 else 0)))], [.int 3], zh, M)) rfl trivial ?_
          cases h
          exact zF_ret rfl trivial
    refine zF_le (t := 42) (u := (37, [(5, .int x4), (0, .ref 86), (1, .int p_sort), (2, .int (if (0 : Int32) < x1 then 1 else 0)), (3, .int (if (0 : Int32) < x1 then x1 else 0))], [], zh, M)) rfl (fun c16 => ?_) (fun c16 => ?_)
    · skip
      simp only [if_neg c16] at hk11
      try simp only [if_neg c16]
      exact zF_as hk11 rfl
    · skip
      refine zF_go (n := 4) (ps := []) (s' := (42, [(2, .int 2), (3, .int x4), (5, .int x4), (0, .ref 86), (1, .int p_sort)], [], zh, M)) rfl trivial ?_
      simp only [if_pos c16] at hk11
      try simp only [if_pos c16]
      exact zF_as hk11 rfl
  refine zF_le (t := 23) (u := (18, [(4, .int x1), (3, .int 0), (2, .int 0), (0, .ref 86), (1, .int p_sort)], [], zh, M)) rfl (fun c17 => ?_) (fun c17 => ?_)
  · skip
    simp only [if_neg c17] at hk9
    try simp only [if_neg c17]
    exact zF_as hk9 rfl
  · skip
    refine zF_go (n := 4) (ps := []) (s' := (23, [(2, .int 1), (3, .int x1), (4, .int x1), (0, .ref 86), (1, .int p_sort)], [], zh, M)) rfl trivial ?_
    simp only [if_pos c17] at hk9
    try simp only [if_pos c17]
    exact zF_as hk9 rfl
noncomputable def qM_goes (M : zM) (p_sort : Int32) : Option (Int32) :=
  zb (qM_isSort M p_sort) fun x1 =>
  if x1 = 0 then
    (some (-1))
  else
    (zb (qM_goesTo M p_sort) fun x2 =>
    some x2)
set_option maxRecDepth 20000 in
set_option maxHeartbeats 4000000 in
theorem qM_goes_ok {S : zSc} {M : zM} {p_sort : Int32} {r : Int32} (h : qM_goes M p_sort = some r) : zF S 166 (0, [(0, .ref 86), (1, .int p_sort)], [], zh, M) (some (.int r)) (M) := by
  unfold qM_goes at h
  refine zF_go (n := 2) (ps := []) (s' := (2, [(0, .ref 86), (1, .int p_sort)], [.int p_sort, .ref 86], zh, M)) rfl trivial ?_
  obtain ⟨x1, e3, h⟩ := zb_some h
  refine zF_call (y' := 146) (as := [.ref 86, .int p_sort]) (u := (5, [(0, .ref 86), (1, .int p_sort)], [], zh, M)) rfl ⟨rfl, rfl⟩ rfl (qM_isSort_ok (S := S) (M := M) e3) ?_
  show zF S 166 (5, [(0, .ref 86), (1, .int p_sort)], [.int x1], zh, M) _ _
  refine zF_eq (t := 16) (u := (8, [(0, .ref 86), (1, .int p_sort)], [], zh, M)) rfl (fun c4 => ?_) (fun c4 => ?_)
  · rw [if_pos c4] at h
    refine zF_go (n := 1) (ps := []) (s' := (17, [(0, .ref 86), (1, .int p_sort)], [.int (-1)], zh, M)) rfl trivial ?_
    cases h
    exact zF_ret rfl trivial
  · rw [if_neg c4] at h
    refine zF_go (n := 2) (ps := []) (s' := (10, [(0, .ref 86), (1, .int p_sort)], [.int p_sort, .ref 86], zh, M)) rfl trivial ?_
    obtain ⟨x2, e5, h⟩ := zb_some h
    refine zF_call (y' := 165) (as := [.ref 86, .int p_sort]) (u := (13, [(0, .ref 86), (1, .int p_sort)], [], zh, M)) rfl ⟨rfl, rfl⟩ rfl (qM_goesTo_ok (S := S) (M := M) e5) ?_
    show zF S 166 (13, [(0, .ref 86), (1, .int p_sort)], [.int x2], zh, M) _ _
    refine zF_go (n := 1) (ps := []) (s' := (17, [(0, .ref 86), (1, .int p_sort)], [.int x2], zh, M)) rfl trivial ?_
    cases h
    exact zF_ret rfl trivial
noncomputable def qW_visits (p_place : Int32) (p_shop : Int32) : Option (Int32) :=
  if ((p_place >>> (p_shop &&& 31)) &&& 1) = 1 then
    (some 1)
  else
    (some 0)
set_option maxRecDepth 20000 in
set_option maxHeartbeats 4000000 in
theorem qW_visits_ok {S : zSc} {M : zM} {p_place : Int32} {p_shop : Int32} {r : Int32} (h : qW_visits p_place p_shop = some r) : zF S 74 (0, [(0, .int p_place), (1, .int p_shop)], [], zh, M) (some (.int r)) (M) := by
  unfold qW_visits at h
  refine zF_go (n := 6) (ps := []) (s' := (6, [(0, .int p_place), (1, .int p_shop)], [.int 1, .int ((p_place >>> (p_shop &&& 31)) &&& 1)], zh, M)) rfl trivial ?_
  refine zF_ne (t := 13) (u := (9, [(0, .int p_place), (1, .int p_shop)], [], zh, M)) rfl (fun c1 => ?_) (fun c1 => ?_)
  · rw [if_neg c1] at h
    refine zF_go (n := 1) (ps := []) (s' := (14, [(0, .int p_place), (1, .int p_shop)], [.int 0], zh, M)) rfl trivial ?_
    cases h
    exact zF_ret rfl ⟨(Or.inl rfl), trivial⟩
  · rw [if_pos c1] at h
    refine zF_go (n := 2) (ps := []) (s' := (14, [(0, .int p_place), (1, .int p_shop)], [.int 1], zh, M)) rfl trivial ?_
    cases h
    exact zF_ret rfl ⟨(Or.inr rfl), trivial⟩
noncomputable def qW_send_L23 (x6 : Int32) (x1 : Int32) (v3_3 : Int32) (p_sort : Int32) (rec5 : (Int32 × zM) → Option (Int32 × zM)) (rec9 : (Int32 × zM) → Option (Int32 × zM)) (v : Int32 × zM) : Option (Int32 × zM) := match v with
  | (v5_7, M8) =>
    if v5_7 < (M8 63 0) then
      (zb (zlj (fun (_ : Unit) =>
          some 0) fun k15 =>
        if x6 = 0 then
          (k15 ())
        else
          (zlj (fun (_ : Unit) =>
            some 1) fun k16 =>
          if x1 = 3 then
            (zq (vp_in v5_7 4) <| if (M8 73 v5_7.toNatClampNeg) = v3_3 then
              (k16 ())
            else
              (k15 ()))
          else
            (k16 ()))) fun (w13 : Int32) =>
      if w13 = 0 then
        (zq (vp_in ((v3_3 * 4) + v5_7) 8) <| rec9 ((v5_7 + 1), (zw M8 74 ((v3_3 * 4) + v5_7).toNatClampNeg 0)))
      else
        (zb (qW_cell M8 p_sort v3_3 v5_7) fun x17 =>
        zq (vp_in x17 120) <| zq (vp_in ((v3_3 * 4) + v5_7) 8) <| rec9 ((v5_7 + 1), (zw M8 74 ((v3_3 * 4) + v5_7).toNatClampNeg (M8 72 x17.toNatClampNeg)))))
    else
      (rec5 ((v3_3 + 1), M8))
noncomputable def qW_send_L8 (x1 : Int32) (p_sort : Int32) (rec5 : (Int32 × zM) → Option (Int32 × zM)) (v : Int32 × zM) : Option (Int32 × zM) := match v with
  | (v3_3, M4) =>
    if v3_3 < 2 then
      (zb (qW_visits x1 v3_3) fun x6 =>
      zlp (qW_send_L23 x6 x1 v3_3 p_sort rec5) zfu (0, M4))
    else
      (some (x1, M4))
noncomputable def qW_send (M : zM) (p_sort : Int32) : Option (Int32 × zM) :=
  zb2 (qW_placeOf M p_sort) fun x1 M2 =>
  zlp (qW_send_L8 x1 p_sort) zfu (0, M2)
set_option maxRecDepth 20000 in
set_option maxHeartbeats 4000000 in
theorem qW_send_ok {S : zSc} {M : zM} {p_sort : Int32} {r : Int32 × zM} (h : qW_send M p_sort = some r) : zF S 75 (0, [(0, .ref 70), (1, .int p_sort)], [], zh, M) (some (.int r.1)) (r.2) := by
  unfold qW_send at h
  refine zF_go (n := 2) (ps := []) (s' := (2, [(0, .ref 70), (1, .int p_sort)], [.int p_sort, .ref 70], zh, M)) rfl trivial ?_
  obtain ⟨x1, M2, e18, h⟩ := zb2_some h
  refine zF_call (y' := 73) (as := [.ref 70, .int p_sort]) (u := (5, [(0, .ref 70), (1, .int p_sort)], [], zh, M)) rfl ⟨rfl, rfl⟩ rfl (qW_placeOf_ok (S := S) (M := M) e18) ?_
  show zF S 75 (5, [(0, .ref 70), (1, .int p_sort)], [.int x1], zh, M2) _ _
  refine zF_go (n := 3) (ps := []) (s' := (8, [(3, .int 0), (2, .int x1), (0, .ref 70), (1, .int p_sort)], [], zh, M2)) rfl trivial ?_
  refine zF_same (s' := (8, [(0, .ref 70), (1, .int p_sort), (2, .int x1), (3, .int 0)], [], zh, M2)) rfl ?_
  refine zlp_ind (P := fun (v : Int32 × zM) r => zF S 75 (8, [(0, .ref 70), (1, .int p_sort), (2, .int x1), (3, .int v.1)], [], zh, v.2) (some (.int r.1)) (r.2)) ?_ _ _ _ h
  intro rec5 hrec5 v r h
  obtain ⟨v3_3, M4⟩ := v
  unfold qW_send_L8 at h
  dsimp only at h
  show zF S 75 (8, [(0, .ref 70), (1, .int p_sort), (2, .int x1), (3, .int v3_3)], [], zh, M4) _ _
  refine zF_go (n := 2) (ps := []) (s' := (10, [(0, .ref 70), (1, .int p_sort), (2, .int x1), (3, .int v3_3)], [.int 2, .int v3_3], zh, M4)) rfl trivial ?_
  refine zF_ge (t := 108) (u := (13, [(0, .ref 70), (1, .int p_sort), (2, .int x1), (3, .int v3_3)], [], zh, M4)) rfl (fun c19 => ?_) (fun c19 => ?_)
  · rw [if_neg c19] at h
    refine zF_go (n := 1) (ps := []) (s' := (109, [(0, .ref 70), (1, .int p_sort), (2, .int x1), (3, .int v3_3)], [.int x1], zh, M4)) rfl trivial ?_
    cases h
    exact zF_ret rfl trivial
  · rw [if_pos c19] at h
    refine zF_go (n := 2) (ps := []) (s' := (15, [(0, .ref 70), (1, .int p_sort), (2, .int x1), (3, .int v3_3)], [.int v3_3, .int x1], zh, M4)) rfl trivial ?_
    obtain ⟨x6, e20, h⟩ := zb_some h
    refine zF_call (y' := 74) (as := [.int x1, .int v3_3]) (u := (18, [(0, .ref 70), (1, .int p_sort), (2, .int x1), (3, .int v3_3)], [], zh, M4)) rfl ⟨rfl, rfl⟩ rfl (qW_visits_ok (S := S) (M := M4) e20) ?_
    show zF S 75 (18, [(0, .ref 70), (1, .int p_sort), (2, .int x1), (3, .int v3_3)], [.int x6], zh, M4) _ _
    refine zF_go (n := 3) (ps := []) (s' := (23, [(5, .int 0), (4, .int x6), (0, .ref 70), (1, .int p_sort), (2, .int x1), (3, .int v3_3)], [], zh, M4)) rfl trivial ?_
    refine zF_same (s' := (23, [(0, .ref 70), (1, .int p_sort), (2, .int x1), (3, .int v3_3), (4, .int x6), (5, .int 0)], [], zh, M4)) rfl ?_
    refine zlp_ind (P := fun (v : Int32 × zM) r => zF S 75 (23, [(0, .ref 70), (1, .int p_sort), (2, .int x1), (3, .int v3_3), (4, .int x6), (5, .int v.1)], [], zh, v.2) (some (.int r.1)) (r.2)) ?_ _ _ _ h
    intro rec9 hrec9 v r h
    obtain ⟨v5_7, M8⟩ := v
    unfold qW_send_L23 at h
    dsimp only at h
    show zF S 75 (23, [(0, .ref 70), (1, .int p_sort), (2, .int x1), (3, .int v3_3), (4, .int x6), (5, .int v5_7)], [], zh, M8) _ _
    refine zF_go (n := 4) (ps := []) (s' := (32, [(0, .ref 70), (1, .int p_sort), (2, .int x1), (3, .int v3_3), (4, .int x6), (5, .int v5_7)], [.int (M8 63 0), .int v5_7], zh, M8)) rfl trivial ?_
    refine zF_ge (t := 102) (u := (35, [(0, .ref 70), (1, .int p_sort), (2, .int x1), (3, .int v3_3), (4, .int x6), (5, .int v5_7)], [], zh, M8)) rfl (fun c21 => ?_) (fun c21 => ?_)
    · rw [if_neg c21] at h
      refine zF_go (n := 2) (ps := []) (s' := (8, [(3, .int (v3_3 + 1)), (0, .ref 70), (1, .int p_sort), (2, .int x1), (4, .int x6), (5, .int v5_7)], [], zh, M8)) rfl trivial ?_
      exact zF_as (hrec5 _ _ h) rfl
    · rw [if_pos c21] at h
      refine zF_go (n := 1) (ps := []) (s' := (37, [(0, .ref 70), (1, .int p_sort), (2, .int x1), (3, .int v3_3), (4, .int x6), (5, .int v5_7)], [.int x6], zh, M8)) rfl trivial ?_
      obtain ⟨w13, g22, h⟩ := zb_some h
      have hk23 : zF S 75 (61, [(0, .ref 70), (1, .int p_sort), (2, .int x1), (3, .int v3_3), (4, .int x6), (5, .int v5_7)], [.int w13], zh, M8) (some (.int r.1)) (r.2) := by
        refine zF_go (n := 9) (ps := []) (s' := (75, [(6, .int w13), (0, .ref 70), (1, .int p_sort), (2, .int x1), (3, .int v3_3), (4, .int x6), (5, .int v5_7)], [.int w13, .int ((v3_3 * 4) + v5_7), .ref 74], zh, M8)) rfl trivial ?_
        refine zF_eq (t := 94) (u := (78, [(6, .int w13), (0, .ref 70), (1, .int p_sort), (2, .int x1), (3, .int v3_3), (4, .int x6), (5, .int v5_7)], [.int ((v3_3 * 4) + v5_7), .ref 74], zh, M8)) rfl (fun c24 => ?_) (fun c24 => ?_)
        · rw [if_pos c24] at h
          refine zF_go (n := 1) (ps := []) (s' := (95, [(6, .int w13), (0, .ref 70), (1, .int p_sort), (2, .int x1), (3, .int v3_3), (4, .int x6), (5, .int v5_7)], [.int 0, .int ((v3_3 * 4) + v5_7), .ref 74], zh, M8)) rfl trivial ?_
          obtain ⟨g25, h⟩ := zq_some h
          refine zF_go (n := 3) (ps := [vp_in ((v3_3 * 4) + v5_7) 8]) (s' := (23, [(5, .int (v5_7 + 1)), (0, .ref 70), (1, .int p_sort), (2, .int x1), (3, .int v3_3), (4, .int x6)], [], zh, (zw M8 74 ((v3_3 * 4) + v5_7).toNatClampNeg 0))) rfl ⟨g25, trivial⟩ ?_
          exact zF_as (hrec9 _ _ h) rfl
        · rw [if_neg c24] at h
          refine zF_go (n := 6) (ps := []) (s' := (87, [(6, .int w13), (0, .ref 70), (1, .int p_sort), (2, .int x1), (3, .int v3_3), (4, .int x6), (5, .int v5_7)], [.int v5_7, .int v3_3, .int p_sort, .ref 70, .ref 72, .int ((v3_3 * 4) + v5_7), .ref 74], zh, M8)) rfl trivial ?_
          obtain ⟨x17, e26, h⟩ := zb_some h
          refine zF_call (y' := 72) (as := [.ref 70, .int p_sort, .int v3_3, .int v5_7]) (u := (90, [(6, .int w13), (0, .ref 70), (1, .int p_sort), (2, .int x1), (3, .int v3_3), (4, .int x6), (5, .int v5_7)], [.ref 72, .int ((v3_3 * 4) + v5_7), .ref 74], zh, M8)) rfl ⟨rfl, rfl⟩ rfl (qW_cell_ok (S := S) (M := M8) e26) ?_
          show zF S 75 (90, [(6, .int w13), (0, .ref 70), (1, .int p_sort), (2, .int x1), (3, .int v3_3), (4, .int x6), (5, .int v5_7)], [.int x17, .ref 72, .int ((v3_3 * 4) + v5_7), .ref 74], zh, M8) _ _
          obtain ⟨g27, h⟩ := zq_some h
          refine zF_go (n := 2) (ps := [vp_in x17 120]) (s' := (95, [(6, .int w13), (0, .ref 70), (1, .int p_sort), (2, .int x1), (3, .int v3_3), (4, .int x6), (5, .int v5_7)], [.int (M8 72 x17.toNatClampNeg), .int ((v3_3 * 4) + v5_7), .ref 74], zh, M8)) rfl ⟨g27, trivial⟩ ?_
          obtain ⟨g28, h⟩ := zq_some h
          refine zF_go (n := 3) (ps := [vp_in ((v3_3 * 4) + v5_7) 8]) (s' := (23, [(5, .int (v5_7 + 1)), (0, .ref 70), (1, .int p_sort), (2, .int x1), (3, .int v3_3), (4, .int x6)], [], zh, (zw M8 74 ((v3_3 * 4) + v5_7).toNatClampNeg (M8 72 x17.toNatClampNeg)))) rfl ⟨g28, trivial⟩ ?_
          exact zF_as (hrec9 _ _ h) rfl
      refine zlj_e g22 (fun k => ∀ (_ : Unit), k () = some w13 → zF S 75 (60, [(0, .ref 70), (1, .int p_sort), (2, .int x1), (3, .int v3_3), (4, .int x6), (5, .int v5_7)], [], zh, M8) (some (.int r.1)) (r.2)) ?_ ?_
      · intro _ g22
        try dsimp only at g22
        refine zF_go (n := 1) (ps := []) (s' := (61, [(0, .ref 70), (1, .int p_sort), (2, .int x1), (3, .int v3_3), (4, .int x6), (5, .int v5_7)], [.int 0], zh, M8)) rfl trivial ?_
        cases g22
        exact zF_as hk23 rfl
      · intro k15 hk15 g22
        try dsimp only at g22
        refine zF_eq (t := 60) (u := (40, [(0, .ref 70), (1, .int p_sort), (2, .int x1), (3, .int v3_3), (4, .int x6), (5, .int v5_7)], [], zh, M8)) rfl (fun c29 => ?_) (fun c29 => ?_)
        · rw [if_pos c29] at g22
          exact zF_as (hk15 () g22) rfl
        · rw [if_neg c29] at g22
          refine zF_go (n := 2) (ps := []) (s' := (42, [(0, .ref 70), (1, .int p_sort), (2, .int x1), (3, .int v3_3), (4, .int x6), (5, .int v5_7)], [.int 3, .int x1], zh, M8)) rfl trivial ?_
          refine zlj_e g22 (fun k => ∀ (_ : Unit), k () = some w13 → zF S 75 (56, [(0, .ref 70), (1, .int p_sort), (2, .int x1), (3, .int v3_3), (4, .int x6), (5, .int v5_7)], [], zh, M8) (some (.int r.1)) (r.2)) ?_ ?_
          · intro _ g22
            try dsimp only at g22
            refine zF_go (n := 2) (ps := []) (s' := (61, [(0, .ref 70), (1, .int p_sort), (2, .int x1), (3, .int v3_3), (4, .int x6), (5, .int v5_7)], [.int 1], zh, M8)) rfl trivial ?_
            cases g22
            exact zF_as hk23 rfl
          · intro k16 hk16 g22
            try dsimp only at g22
            refine zF_ne (t := 56) (u := (45, [(0, .ref 70), (1, .int p_sort), (2, .int x1), (3, .int v3_3), (4, .int x6), (5, .int v5_7)], [], zh, M8)) rfl (fun c30 => ?_) (fun c30 => ?_)
            · rw [if_neg c30] at g22
              exact zF_as (hk16 () g22) rfl
            · rw [if_pos c30] at g22
              obtain ⟨g31, g22⟩ := zq_some g22
              refine zF_go (n := 5) (ps := [vp_in v5_7 4]) (s' := (53, [(0, .ref 70), (1, .int p_sort), (2, .int x1), (3, .int v3_3), (4, .int x6), (5, .int v5_7)], [.int v3_3, .int (M8 73 v5_7.toNatClampNeg)], zh, M8)) rfl ⟨g31, trivial⟩ ?_
              refine zF_ne (t := 60) (u := (56, [(0, .ref 70), (1, .int p_sort), (2, .int x1), (3, .int v3_3), (4, .int x6), (5, .int v5_7)], [], zh, M8)) rfl (fun c32 => ?_) (fun c32 => ?_)
              · rw [if_neg c32] at g22
                exact zF_as (hk15 () g22) rfl
              · rw [if_pos c32] at g22
                exact zF_as (hk16 () g22) rfl
noncomputable def qS_buys (M : zM) (p_sort : Int32) (p_shop : Int32) (p_thing : Int32) : Option (Int32 × zM) :=
  zb (qS_noSort M p_sort) fun x1 =>
  if x1 = 0 then
    (zb (qS_noShop p_shop) fun x2 =>
    if x2 = 0 then
      (zb (qS_noThing M p_thing) fun x3 =>
      if x3 = 0 then
        (zb (qS_lookAsItIs M) fun M4 =>
        zb2 (qW_send M4 p_sort) fun x5 M6 =>
        zq (vp_in ((p_shop * 4) + p_thing) 8) <| some ((M6 74 ((p_shop * 4) + p_thing).toNatClampNeg), M6))
      else
        (some ((-1), M)))
    else
      (some ((-1), M)))
  else
    (some ((-1), M))
set_option maxRecDepth 20000 in
set_option maxHeartbeats 4000000 in
theorem qS_buys_ok {S : zSc} {M : zM} {p_sort : Int32} {p_shop : Int32} {p_thing : Int32} {r : Int32 × zM} (h : qS_buys M p_sort p_shop p_thing = some r) : zF S 101 (0, [(0, .ref 1), (1, .int p_sort), (2, .int p_shop), (3, .int p_thing)], [], zh, M) (some (.int r.1)) (r.2) := by
  unfold qS_buys at h
  refine zF_go (n := 2) (ps := []) (s' := (2, [(0, .ref 1), (1, .int p_sort), (2, .int p_shop), (3, .int p_thing)], [.int p_sort, .ref 1], zh, M)) rfl trivial ?_
  obtain ⟨x1, e7, h⟩ := zb_some h
  refine zF_call (y' := 129) (as := [.ref 1, .int p_sort]) (u := (5, [(0, .ref 1), (1, .int p_sort), (2, .int p_shop), (3, .int p_thing)], [], zh, M)) rfl ⟨rfl, rfl⟩ rfl (qS_noSort_ok (S := S) (M := M) e7) ?_
  show zF S 101 (5, [(0, .ref 1), (1, .int p_sort), (2, .int p_shop), (3, .int p_thing)], [.int x1], zh, M) _ _
  refine zF_ne (t := 23) (u := (8, [(0, .ref 1), (1, .int p_sort), (2, .int p_shop), (3, .int p_thing)], [], zh, M)) rfl (fun c8 => ?_) (fun c8 => ?_)
  · rw [if_neg c8] at h
    refine zF_go (n := 1) (ps := []) (s' := (24, [], [.int (-1)], zh, M)) rfl trivial ?_
    cases h
    exact zF_ret rfl trivial
  · rw [if_pos c8] at h
    refine zF_go (n := 1) (ps := []) (s' := (9, [(0, .ref 1), (1, .int p_sort), (2, .int p_shop), (3, .int p_thing)], [.int p_shop], zh, M)) rfl trivial ?_
    obtain ⟨x2, e9, h⟩ := zb_some h
    refine zF_call (y' := 126) (as := [.int p_shop]) (u := (12, [(0, .ref 1), (1, .int p_sort), (2, .int p_shop), (3, .int p_thing)], [], zh, M)) rfl ⟨rfl, rfl⟩ rfl (qS_noShop_ok (S := S) (M := M) e9) ?_
    show zF S 101 (12, [(0, .ref 1), (1, .int p_sort), (2, .int p_shop), (3, .int p_thing)], [.int x2], zh, M) _ _
    refine zF_ne (t := 23) (u := (15, [(0, .ref 1), (1, .int p_sort), (2, .int p_shop), (3, .int p_thing)], [], zh, M)) rfl (fun c10 => ?_) (fun c10 => ?_)
    · rw [if_neg c10] at h
      refine zF_go (n := 1) (ps := []) (s' := (24, [], [.int (-1)], zh, M)) rfl trivial ?_
      cases h
      exact zF_ret rfl trivial
    · rw [if_pos c10] at h
      refine zF_go (n := 2) (ps := []) (s' := (17, [(0, .ref 1), (1, .int p_sort), (2, .int p_shop), (3, .int p_thing)], [.int p_thing, .ref 1], zh, M)) rfl trivial ?_
      obtain ⟨x3, e11, h⟩ := zb_some h
      refine zF_call (y' := 128) (as := [.ref 1, .int p_thing]) (u := (20, [(0, .ref 1), (1, .int p_sort), (2, .int p_shop), (3, .int p_thing)], [], zh, M)) rfl ⟨rfl, rfl⟩ rfl (qS_noThing_ok (S := S) (M := M) e11) ?_
      show zF S 101 (20, [(0, .ref 1), (1, .int p_sort), (2, .int p_shop), (3, .int p_thing)], [.int x3], zh, M) _ _
      refine zF_eq (t := 25) (u := (23, [(0, .ref 1), (1, .int p_sort), (2, .int p_shop), (3, .int p_thing)], [], zh, M)) rfl (fun c12 => ?_) (fun c12 => ?_)
      · rw [if_pos c12] at h
        refine zF_go (n := 1) (ps := []) (s' := (26, [(0, .ref 1), (1, .int p_sort), (2, .int p_shop), (3, .int p_thing)], [.ref 1], zh, M)) rfl trivial ?_
        obtain ⟨M4, e13, h⟩ := zb_some h
        refine zF_call (y' := 132) (as := [.ref 1]) (u := (29, [(0, .ref 1), (1, .int p_sort), (2, .int p_shop), (3, .int p_thing)], [], zh, M)) rfl ⟨rfl, rfl⟩ rfl (qS_lookAsItIs_ok (S := S) (M := M) e13) ?_
        show zF S 101 (29, [(0, .ref 1), (1, .int p_sort), (2, .int p_shop), (3, .int p_thing)], [], zh, M4) _ _
        refine zF_go (n := 3) (ps := []) (s' := (34, [(0, .ref 1), (1, .int p_sort), (2, .int p_shop), (3, .int p_thing)], [.int p_sort, .ref 70], zh, M4)) rfl trivial ?_
        obtain ⟨x5, M6, e14, h⟩ := zb2_some h
        refine zF_call (y' := 75) (as := [.ref 70, .int p_sort]) (u := (37, [(0, .ref 1), (1, .int p_sort), (2, .int p_shop), (3, .int p_thing)], [], zh, M4)) rfl ⟨rfl, rfl⟩ rfl (qW_send_ok (S := S) (M := M4) e14) ?_
        show zF S 101 (37, [(0, .ref 1), (1, .int p_sort), (2, .int p_shop), (3, .int p_thing)], [.int x5], zh, M6) _ _
        obtain ⟨g15, h⟩ := zq_some h
        refine zF_go (n := 10) (ps := [vp_in ((p_shop * 4) + p_thing) 8]) (s' := (51, [(0, .ref 1), (1, .int p_sort), (2, .int p_shop), (3, .int p_thing)], [.int (M6 74 ((p_shop * 4) + p_thing).toNatClampNeg)], zh, M6)) rfl ⟨g15, trivial⟩ ?_
        cases h
        exact zF_ret rfl trivial
      · rw [if_neg c12] at h
        refine zF_go (n := 1) (ps := []) (s' := (24, [], [.int (-1)], zh, M)) rfl trivial ?_
        cases h
        exact zF_ret rfl trivial
noncomputable def qM_bought (M : zM) (p_sort : Int32) (p_to : Int32) (p_shop : Int32) (p_t : Int32) : Option (Int32) :=
  zb (zlj (fun (_ : Unit) =>
      some 0) fun k12 =>
    if ((p_to >>> (p_shop &&& 31)) &&& 1) = 1 then
      (zlj (fun (_ : Unit) =>
        some 1) fun k14 =>
      if p_to < 3 then
        (k14 ())
      else
        (zb (qM_shopOf M p_sort p_t) fun x15 =>
        if x15 = p_shop then
          (k14 ())
        else
          (k12 ())))
    else
      (k12 ())) fun (w8 : Int32) =>
  if w8 = 0 then
    (some 0)
  else
    (zb (qM_priceOf M p_shop p_t) fun x16 =>
    zb (qM_wanted M p_sort p_shop p_t x16) fun x17 =>
    some x17)
set_option maxRecDepth 20000 in
set_option maxHeartbeats 4000000 in
theorem qM_bought_ok {S : zSc} {M : zM} {p_sort : Int32} {p_to : Int32} {p_shop : Int32} {p_t : Int32} {r : Int32} (h : qM_bought M p_sort p_to p_shop p_t = some r) : zF S 167 (0, [(0, .ref 86), (1, .int p_sort), (2, .int p_to), (3, .int p_shop), (4, .int p_t)], [], zh, M) (some (.int r)) (M) := by
  unfold qM_bought at h
  refine zF_go (n := 6) (ps := []) (s' := (6, [(0, .ref 86), (1, .int p_sort), (2, .int p_to), (3, .int p_shop), (4, .int p_t)], [.int 1, .int ((p_to >>> (p_shop &&& 31)) &&& 1)], zh, M)) rfl trivial ?_
  obtain ⟨w8, g18, h⟩ := zb_some h
  have hk19 : zF S 167 (30, [(0, .ref 86), (1, .int p_sort), (3, .int p_shop), (4, .int p_t)], [.int w8], zh, M) (some (.int r)) (M) := by
    refine zF_go (n := 2) (ps := []) (s' := (34, [(5, .int w8), (0, .ref 86), (1, .int p_sort), (3, .int p_shop), (4, .int p_t)], [.int w8], zh, M)) rfl trivial ?_
    refine zF_eq (t := 55) (u := (37, [(5, .int w8), (0, .ref 86), (1, .int p_sort), (3, .int p_shop), (4, .int p_t)], [], zh, M)) rfl (fun c20 => ?_) (fun c20 => ?_)
    · rw [if_pos c20] at h
      refine zF_go (n := 1) (ps := []) (s' := (56, [(5, .int w8), (0, .ref 86), (1, .int p_sort), (3, .int p_shop), (4, .int p_t)], [.int 0], zh, M)) rfl trivial ?_
      cases h
      exact zF_ret rfl trivial
    · rw [if_neg c20] at h
      refine zF_go (n := 7) (ps := []) (s' := (46, [(5, .int w8), (0, .ref 86), (1, .int p_sort), (3, .int p_shop), (4, .int p_t)], [.int p_t, .int p_shop, .ref 86, .int p_t, .int p_shop, .int p_sort, .ref 86], zh, M)) rfl trivial ?_
      obtain ⟨x16, e21, h⟩ := zb_some h
      refine zF_call (y' := 144) (as := [.ref 86, .int p_shop, .int p_t]) (u := (49, [(5, .int w8), (0, .ref 86), (1, .int p_sort), (3, .int p_shop), (4, .int p_t)], [.int p_t, .int p_shop, .int p_sort, .ref 86], zh, M)) rfl ⟨rfl, rfl⟩ rfl (qM_priceOf_ok (S := S) (M := M) e21) ?_
      show zF S 167 (49, [(5, .int w8), (0, .ref 86), (1, .int p_sort), (3, .int p_shop), (4, .int p_t)], [.int x16, .int p_t, .int p_shop, .int p_sort, .ref 86], zh, M) _ _
      obtain ⟨x17, e22, h⟩ := zb_some h
      refine zF_call (y' := 158) (as := [.ref 86, .int p_sort, .int p_shop, .int p_t, .int x16]) (u := (52, [(5, .int w8), (0, .ref 86), (1, .int p_sort), (3, .int p_shop), (4, .int p_t)], [], zh, M)) rfl ⟨rfl, rfl⟩ rfl (qM_wanted_ok (S := S) (M := M) e22) ?_
      show zF S 167 (52, [(5, .int w8), (0, .ref 86), (1, .int p_sort), (3, .int p_shop), (4, .int p_t)], [.int x17], zh, M) _ _
      refine zF_go (n := 1) (ps := []) (s' := (56, [(5, .int w8), (0, .ref 86), (1, .int p_sort), (3, .int p_shop), (4, .int p_t)], [.int x17], zh, M)) rfl trivial ?_
      cases h
      exact zF_ret rfl trivial
  refine zlj_e g18 (fun k => ∀ (_ : Unit), k () = some w8 → zF S 167 (29, [(0, .ref 86), (1, .int p_sort), (3, .int p_shop), (4, .int p_t)], [], zh, M) (some (.int r)) (M)) ?_ ?_
  · intro _ g18
    try dsimp only at g18
    refine zF_go (n := 1) (ps := []) (s' := (30, [(0, .ref 86), (1, .int p_sort), (3, .int p_shop), (4, .int p_t)], [.int 0], zh, M)) rfl trivial ?_
    cases g18
    exact zF_as hk19 rfl
  · intro k12 hk12 g18
    try dsimp only at g18
    refine zF_ne (t := 29) (u := (9, [(0, .ref 86), (1, .int p_sort), (2, .int p_to), (3, .int p_shop), (4, .int p_t)], [], zh, M)) rfl (fun c23 => ?_) (fun c23 => ?_)
    · rw [if_neg c23] at g18
      exact zF_as (hk12 () g18) rfl
    · rw [if_pos c23] at g18
      refine zF_go (n := 2) (ps := []) (s' := (11, [(0, .ref 86), (1, .int p_sort), (2, .int p_to), (3, .int p_shop), (4, .int p_t)], [.int 3, .int p_to], zh, M)) rfl trivial ?_
      refine zlj_e g18 (fun k => ∀ (_ : Unit), k () = some w8 → zF S 167 (25, [(0, .ref 86), (1, .int p_sort), (3, .int p_shop), (4, .int p_t)], [], zh, M) (some (.int r)) (M)) ?_ ?_
      · intro _ g18
        try dsimp only at g18
        refine zF_go (n := 2) (ps := []) (s' := (30, [(0, .ref 86), (1, .int p_sort), (3, .int p_shop), (4, .int p_t)], [.int 1], zh, M)) rfl trivial ?_
        cases g18
        exact zF_as hk19 rfl
      · intro k14 hk14 g18
        try dsimp only at g18
        refine zF_lt (t := 25) (u := (14, [(0, .ref 86), (1, .int p_sort), (2, .int p_to), (3, .int p_shop), (4, .int p_t)], [], zh, M)) rfl (fun c24 => ?_) (fun c24 => ?_)
        · rw [if_pos c24] at g18
          exact zF_as (hk14 () g18) rfl
        · rw [if_neg c24] at g18
          refine zF_go (n := 3) (ps := []) (s' := (18, [(0, .ref 86), (1, .int p_sort), (2, .int p_to), (3, .int p_shop), (4, .int p_t)], [.int p_t, .int p_sort, .ref 86], zh, M)) rfl trivial ?_
          obtain ⟨x15, e25, g18⟩ := zb_some g18
          refine zF_call (y' := 162) (as := [.ref 86, .int p_sort, .int p_t]) (u := (21, [(0, .ref 86), (1, .int p_sort), (2, .int p_to), (3, .int p_shop), (4, .int p_t)], [], zh, M)) rfl ⟨rfl, rfl⟩ rfl (qM_shopOf_ok (S := S) (M := M) e25) ?_
          show zF S 167 (21, [(0, .ref 86), (1, .int p_sort), (2, .int p_to), (3, .int p_shop), (4, .int p_t)], [.int x15], zh, M) _ _
          refine zF_go (n := 1) (ps := []) (s' := (22, [(0, .ref 86), (1, .int p_sort), (2, .int p_to), (3, .int p_shop), (4, .int p_t)], [.int p_shop, .int x15], zh, M)) rfl trivial ?_
          refine zF_ne (t := 29) (u := (25, [(0, .ref 86), (1, .int p_sort), (2, .int p_to), (3, .int p_shop), (4, .int p_t)], [], zh, M)) rfl (fun c26 => ?_) (fun c26 => ?_)
          · rw [if_neg c26] at g18
            exact zF_as (hk12 () g18) rfl
          · rw [if_pos c26] at g18
            exact zF_as (hk14 () g18) rfl
noncomputable def qM_buys (M : zM) (p_sort : Int32) (p_shop : Int32) (p_thing : Int32) : Option (Int32) :=
  zb (qM_isSort M p_sort) fun x1 =>
  if x1 = 0 then
    (some (-1))
  else
    (zb (qM_isShop p_shop) fun x2 =>
    if x2 = 0 then
      (some (-1))
    else
      (zb (qM_isThing M p_thing) fun x3 =>
      if x3 = 0 then
        (some (-1))
      else
        (zb (qM_goesTo M p_sort) fun x4 =>
        zb (qM_bought M p_sort x4 p_shop p_thing) fun x5 =>
        some x5)))
set_option maxRecDepth 20000 in
set_option maxHeartbeats 4000000 in
theorem qM_buys_ok {S : zSc} {M : zM} {p_sort : Int32} {p_shop : Int32} {p_thing : Int32} {r : Int32} (h : qM_buys M p_sort p_shop p_thing = some r) : zF S 168 (0, [(0, .ref 86), (1, .int p_sort), (2, .int p_shop), (3, .int p_thing)], [], zh, M) (some (.int r)) (M) := by
  unfold qM_buys at h
  refine zF_go (n := 2) (ps := []) (s' := (2, [(0, .ref 86), (1, .int p_sort), (2, .int p_shop), (3, .int p_thing)], [.int p_sort, .ref 86], zh, M)) rfl trivial ?_
  obtain ⟨x1, e6, h⟩ := zb_some h
  refine zF_call (y' := 146) (as := [.ref 86, .int p_sort]) (u := (5, [(0, .ref 86), (1, .int p_sort), (2, .int p_shop), (3, .int p_thing)], [], zh, M)) rfl ⟨rfl, rfl⟩ rfl (qM_isSort_ok (S := S) (M := M) e6) ?_
  show zF S 168 (5, [(0, .ref 86), (1, .int p_sort), (2, .int p_shop), (3, .int p_thing)], [.int x1], zh, M) _ _
  refine zF_eq (t := 38) (u := (8, [(0, .ref 86), (1, .int p_sort), (2, .int p_shop), (3, .int p_thing)], [], zh, M)) rfl (fun c7 => ?_) (fun c7 => ?_)
  · rw [if_pos c7] at h
    refine zF_go (n := 1) (ps := []) (s' := (39, [], [.int (-1)], zh, M)) rfl trivial ?_
    cases h
    exact zF_ret rfl trivial
  · rw [if_neg c7] at h
    refine zF_go (n := 1) (ps := []) (s' := (9, [(0, .ref 86), (1, .int p_sort), (2, .int p_shop), (3, .int p_thing)], [.int p_shop], zh, M)) rfl trivial ?_
    obtain ⟨x2, e8, h⟩ := zb_some h
    refine zF_call (y' := 136) (as := [.int p_shop]) (u := (12, [(0, .ref 86), (1, .int p_sort), (2, .int p_shop), (3, .int p_thing)], [], zh, M)) rfl ⟨rfl, rfl⟩ rfl (qM_isShop_ok (S := S) (M := M) e8) ?_
    show zF S 168 (12, [(0, .ref 86), (1, .int p_sort), (2, .int p_shop), (3, .int p_thing)], [.int x2], zh, M) _ _
    refine zF_eq (t := 38) (u := (15, [(0, .ref 86), (1, .int p_sort), (2, .int p_shop), (3, .int p_thing)], [], zh, M)) rfl (fun c9 => ?_) (fun c9 => ?_)
    · rw [if_pos c9] at h
      refine zF_go (n := 1) (ps := []) (s' := (39, [], [.int (-1)], zh, M)) rfl trivial ?_
      cases h
      exact zF_ret rfl trivial
    · rw [if_neg c9] at h
      refine zF_go (n := 2) (ps := []) (s' := (17, [(0, .ref 86), (1, .int p_sort), (2, .int p_shop), (3, .int p_thing)], [.int p_thing, .ref 86], zh, M)) rfl trivial ?_
      obtain ⟨x3, e10, h⟩ := zb_some h
      refine zF_call (y' := 137) (as := [.ref 86, .int p_thing]) (u := (20, [(0, .ref 86), (1, .int p_sort), (2, .int p_shop), (3, .int p_thing)], [], zh, M)) rfl ⟨rfl, rfl⟩ rfl (qM_isThing_ok (S := S) (M := M) e10) ?_
      show zF S 168 (20, [(0, .ref 86), (1, .int p_sort), (2, .int p_shop), (3, .int p_thing)], [.int x3], zh, M) _ _
      refine zF_eq (t := 38) (u := (23, [(0, .ref 86), (1, .int p_sort), (2, .int p_shop), (3, .int p_thing)], [], zh, M)) rfl (fun c11 => ?_) (fun c11 => ?_)
      · rw [if_pos c11] at h
        refine zF_go (n := 1) (ps := []) (s' := (39, [], [.int (-1)], zh, M)) rfl trivial ?_
        cases h
        exact zF_ret rfl trivial
      · rw [if_neg c11] at h
        refine zF_go (n := 4) (ps := []) (s' := (27, [(0, .ref 86), (1, .int p_sort), (2, .int p_shop), (3, .int p_thing)], [.int p_sort, .ref 86, .int p_sort, .ref 86], zh, M)) rfl trivial ?_
        obtain ⟨x4, e12, h⟩ := zb_some h
        refine zF_call (y' := 165) (as := [.ref 86, .int p_sort]) (u := (30, [(0, .ref 86), (1, .int p_sort), (2, .int p_shop), (3, .int p_thing)], [.int p_sort, .ref 86], zh, M)) rfl ⟨rfl, rfl⟩ rfl (qM_goesTo_ok (S := S) (M := M) e12) ?_
        show zF S 168 (30, [(0, .ref 86), (1, .int p_sort), (2, .int p_shop), (3, .int p_thing)], [.int x4, .int p_sort, .ref 86], zh, M) _ _
        refine zF_go (n := 2) (ps := []) (s' := (32, [(0, .ref 86), (1, .int p_sort), (2, .int p_shop), (3, .int p_thing)], [.int p_thing, .int p_shop, .int x4, .int p_sort, .ref 86], zh, M)) rfl trivial ?_
        obtain ⟨x5, e13, h⟩ := zb_some h
        refine zF_call (y' := 167) (as := [.ref 86, .int p_sort, .int x4, .int p_shop, .int p_thing]) (u := (35, [(0, .ref 86), (1, .int p_sort), (2, .int p_shop), (3, .int p_thing)], [], zh, M)) rfl ⟨rfl, rfl⟩ rfl (qM_bought_ok (S := S) (M := M) e13) ?_
        show zF S 168 (35, [(0, .ref 86), (1, .int p_sort), (2, .int p_shop), (3, .int p_thing)], [.int x5], zh, M) _ _
        refine zF_go (n := 1) (ps := []) (s' := (39, [(0, .ref 86), (1, .int p_sort), (2, .int p_shop), (3, .int p_thing)], [.int x5], zh, M)) rfl trivial ?_
        cases h
        exact zF_ret rfl trivial
end ZT
