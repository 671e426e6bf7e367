section ZT
noncomputable def qM_lures_L40 (M5 : zM) (p_shop : Int32) (x4 : Int32) (rec8 : (Int32 × Int32) → Option (Int32 × zM)) (v : Int32 × Int32) : Option (Int32 × zM) := match v with
  | (v4_6, v5_7) =>
    if v5_7 < (M5 86 6) then
      (zb (qM_isBelow M5 p_shop v5_7) fun x10 =>
      if x10 = 0 then
        (rec8 ((v4_6 ||| 0), (v5_7 + 1)))
      else
        (rec8 ((v4_6 ||| (1 <<< (v5_7 &&& 31))), (v5_7 + 1))))
    else
      (zb (qM_lay M5 p_shop x4) fun M9 =>
      some (v4_6, M9))
noncomputable def qM_lures (M : zM) (p_shop : Int32) : Option (Int32 × zM) :=
  zb (qM_isShop p_shop) fun x1 =>
  if x1 = 0 then
    (some ((-1), M))
  else
    (zb2 (qM_bestOf M p_shop) fun x2 M3 =>
    if x2 < 0 then
      (some ((-5), M3))
    else
      (zb (qM_rowOf M3 p_shop) fun x4 =>
      zb (qM_lay M3 p_shop x2) fun M5 =>
      zlp (qM_lures_L40 M5 p_shop x4) zfu (0, 0)))
set_option maxRecDepth 20000 in
set_option maxHeartbeats 4000000 in
theorem qM_lures_ok {S : zSc} {M : zM} {p_shop : Int32} {r : Int32 × zM} (h : qM_lures M p_shop = some r) : zF S 185 (0, [(0, .ref 86), (1, .int p_shop)], [], zh, M) (some (.int r.1)) (r.2) := by
  unfold qM_lures at h
  refine zF_go (n := 1) (ps := []) (s' := (1, [(0, .ref 86), (1, .int p_shop)], [.int p_shop], zh, M)) rfl trivial ?_
  obtain ⟨x1, e11, h⟩ := zb_some h
  refine zF_call (y' := 136) (as := [.int p_shop]) (u := (4, [(0, .ref 86), (1, .int p_shop)], [], zh, M)) rfl ⟨rfl, rfl⟩ rfl (qM_isShop_ok (S := S) (M := M) e11) ?_
  show zF S 185 (4, [(0, .ref 86), (1, .int p_shop)], [.int x1], zh, M) _ _
  refine zF_ne (t := 9) (u := (7, [(0, .ref 86), (1, .int p_shop)], [], zh, M)) rfl (fun c12 => ?_) (fun c12 => ?_)
  · rw [if_neg c12] at h
    refine zF_go (n := 2) (ps := []) (s' := (11, [(0, .ref 86), (1, .int p_shop)], [.int p_shop, .ref 86], zh, M)) rfl trivial ?_
    obtain ⟨x2, M3, e13, h⟩ := zb2_some h
    refine zF_call (y' := 179) (as := [.ref 86, .int p_shop]) (u := (14, [(0, .ref 86), (1, .int p_shop)], [], zh, M)) rfl ⟨rfl, rfl⟩ rfl (qM_bestOf_ok (S := S) (M := M) e13) ?_
    show zF S 185 (14, [(0, .ref 86), (1, .int p_shop)], [.int x2], zh, M3) _ _
    refine zF_go (n := 2) (ps := []) (s' := (16, [(2, .int x2), (0, .ref 86), (1, .int p_shop)], [.int x2], zh, M3)) rfl trivial ?_
    refine zF_ge (t := 22) (u := (19, [(2, .int x2), (0, .ref 86), (1, .int p_shop)], [], zh, M3)) rfl (fun c14 => ?_) (fun c14 => ?_)
    · rw [if_neg c14] at h
      refine zF_go (n := 2) (ps := []) (s' := (24, [(2, .int x2), (0, .ref 86), (1, .int p_shop)], [.int p_shop, .ref 86], zh, M3)) rfl trivial ?_
      obtain ⟨x4, e15, h⟩ := zb_some h
      refine zF_call (y' := 174) (as := [.ref 86, .int p_shop]) (u := (27, [(2, .int x2), (0, .ref 86), (1, .int p_shop)], [], zh, M3)) rfl ⟨rfl, rfl⟩ rfl (qM_rowOf_ok (S := S) (M := M3) e15) ?_
      show zF S 185 (27, [(2, .int x2), (0, .ref 86), (1, .int p_shop)], [.int x4], zh, M3) _ _
      refine zF_go (n := 4) (ps := []) (s' := (31, [(3, .int x4), (2, .int x2), (0, .ref 86), (1, .int p_shop)], [.int x2, .int p_shop, .ref 86], zh, M3)) rfl trivial ?_
      obtain ⟨M5, e16, h⟩ := zb_some h
      refine zF_call (y' := 176) (as := [.ref 86, .int p_shop, .int x2]) (u := (34, [(3, .int x4), (2, .int x2), (0, .ref 86), (1, .int p_shop)], [], zh, M3)) rfl ⟨rfl, rfl⟩ rfl (qM_lay_ok (S := S) (M := M3) e16) ?_
      show zF S 185 (34, [(3, .int x4), (2, .int x2), (0, .ref 86), (1, .int p_shop)], [], zh, M5) _ _
      refine zF_go (n := 4) (ps := []) (s' := (40, [(5, .int 0), (4, .int 0), (3, .int x4), (2, .int x2), (0, .ref 86), (1, .int p_shop)], [], zh, M5)) rfl trivial ?_
      refine zF_same (s' := (40, [(0, .ref 86), (1, .int p_shop), (3, .int x4), (4, .int 0), (5, .int 0)], [], zh, M5)) rfl ?_
      refine zlp_ind (P := fun (v : Int32 × Int32) r => zF S 185 (40, [(0, .ref 86), (1, .int p_shop), (3, .int x4), (4, .int v.1), (5, .int v.2)], [], zh, M5) (some (.int r.1)) (r.2)) ?_ _ _ _ h
      intro rec8 hrec8 v r h
      obtain ⟨v4_6, v5_7⟩ := v
      unfold qM_lures_L40 at h
      dsimp only at h
      show zF S 185 (40, [(0, .ref 86), (1, .int p_shop), (3, .int x4), (4, .int v4_6), (5, .int v5_7)], [], zh, M5) _ _
      refine zF_go (n := 3) (ps := []) (s' := (46, [(0, .ref 86), (1, .int p_shop), (3, .int x4), (4, .int v4_6), (5, .int v5_7)], [.int (M5 86 6), .int v5_7], zh, M5)) rfl trivial ?_
      refine zF_ge (t := 78) (u := (49, [(0, .ref 86), (1, .int p_shop), (3, .int x4), (4, .int v4_6), (5, .int v5_7)], [], zh, M5)) rfl (fun c17 => ?_) (fun c17 => ?_)
      · rw [if_neg c17] at h
        refine zF_go (n := 3) (ps := []) (s' := (81, [(0, .ref 86), (1, .int p_shop), (3, .int x4), (4, .int v4_6), (5, .int v5_7)], [.int x4, .int p_shop, .ref 86], zh, M5)) rfl trivial ?_
        obtain ⟨M9, e18, h⟩ := zb_some h
        refine zF_call (y' := 176) (as := [.ref 86, .int p_shop, .int x4]) (u := (84, [(0, .ref 86), (1, .int p_shop), (3, .int x4), (4, .int v4_6), (5, .int v5_7)], [], zh, M5)) rfl ⟨rfl, rfl⟩ rfl (qM_lay_ok (S := S) (M := M5) e18) ?_
        show zF S 185 (84, [(0, .ref 86), (1, .int p_shop), (3, .int x4), (4, .int v4_6), (5, .int v5_7)], [], zh, M9) _ _
        refine zF_go (n := 1) (ps := []) (s' := (86, [(0, .ref 86), (1, .int p_shop), (3, .int x4), (4, .int v4_6), (5, .int v5_7)], [.int v4_6], zh, M9)) rfl trivial ?_
        cases h
        exact zF_ret rfl trivial
      · rw [if_pos c17] at h
        refine zF_go (n := 4) (ps := []) (s' := (55, [(0, .ref 86), (1, .int p_shop), (3, .int x4), (4, .int v4_6), (5, .int v5_7)], [.int v5_7, .int p_shop, .ref 86, .int v4_6], zh, M5)) rfl trivial ?_
        obtain ⟨x10, e19, h⟩ := zb_some h
        refine zF_call (y' := 145) (as := [.ref 86, .int p_shop, .int v5_7]) (u := (58, [(0, .ref 86), (1, .int p_shop), (3, .int x4), (4, .int v4_6), (5, .int v5_7)], [.int v4_6], zh, M5)) rfl ⟨rfl, rfl⟩ rfl (qM_isBelow_ok (S := S) (M := M5) e19) ?_
        show zF S 185 (58, [(0, .ref 86), (1, .int p_shop), (3, .int x4), (4, .int v4_6), (5, .int v5_7)], [.int x10, .int v4_6], zh, M5) _ _
        refine zF_eq (t := 68) (u := (61, [(0, .ref 86), (1, .int p_shop), (3, .int x4), (4, .int v4_6), (5, .int v5_7)], [.int v4_6], zh, M5)) rfl (fun c20 => ?_) (fun c20 => ?_)
        · rw [if_pos c20] at h
          refine zF_go (n := 1) (ps := []) (s' := (69, [(0, .ref 86), (1, .int p_shop), (3, .int x4), (4, .int v4_6), (5, .int v5_7)], [.int 0, .int v4_6], zh, M5)) rfl trivial ?_
          refine zF_go (n := 4) (ps := []) (s' := (40, [(5, .int (v5_7 + 1)), (4, .int (v4_6 ||| 0)), (0, .ref 86), (1, .int p_shop), (3, .int x4)], [], zh, M5)) rfl trivial ?_
          exact zF_as (hrec8 _ _ h) rfl
        · rw [if_neg c20] at h
          refine zF_go (n := 4) (ps := []) (s' := (69, [(0, .ref 86), (1, .int p_shop), (3, .int x4), (4, .int v4_6), (5, .int v5_7)], [.int (1 <<< (v5_7 &&& 31)), .int v4_6], zh, M5)) rfl trivial ?_
          refine zF_go (n := 4) (ps := []) (s' := (40, [(5, .int (v5_7 + 1)), (4, .int (v4_6 ||| (1 <<< (v5_7 &&& 31)))), (0, .ref 86), (1, .int p_shop), (3, .int x4)], [], zh, M5)) rfl trivial ?_
          exact zF_as (hrec8 _ _ h) rfl
    · rw [if_pos c14] at h
      refine zF_go (n := 1) (ps := []) (s' := (21, [(2, .int x2), (0, .ref 86), (1, .int p_shop)], [.int (-5)], zh, M3)) rfl trivial ?_
      cases h
      exact zF_ret rfl trivial
  · rw [if_pos c12] at h
    refine zF_go (n := 1) (ps := []) (s' := (8, [(0, .ref 86), (1, .int p_shop)], [.int (-1)], zh, M)) rfl trivial ?_
    cases h
    exact zF_ret rfl trivial
noncomputable def qS_brings (M : zM) (p_shop : Int32) (p_thing : Int32) : Option (Int64 × zM) :=
  zb (qS_noShop p_shop) fun x1 =>
  if x1 = 0 then
    (zb (qS_noThing M p_thing) fun x2 =>
    if x2 = 0 then
      (zb (qS_lookAsItIs M) fun M3 =>
      zb2 (qW_leftOf M3 p_shop) fun x4 M5 =>
      zq (vp_in p_thing 4) <| zq (vp_in ((p_shop * 4) + p_thing) 8) <| zb2 (qW_leftOf (zw M5 68 ((p_shop * 4) + p_thing).toNatClampNeg ((M5 64 p_thing.toNatClampNeg) - 1)) p_shop) fun x6 M7 =>
      some ((x4.toInt64 - x6.toInt64), M7))
    else
      (some ((-1000000000000000001), M)))
  else
    (some ((-1000000000000000001), M))
set_option maxRecDepth 20000 in
set_option maxHeartbeats 4000000 in
theorem qS_brings_ok {S : zSc} {M : zM} {p_shop : Int32} {p_thing : Int32} {r : Int64 × zM} (h : qS_brings M p_shop p_thing = some r) : zF S 109 (0, [(0, .ref 1), (1, .int p_shop), (2, .int p_thing)], [], zh, M) (some (.long r.1)) (r.2) := by
  unfold qS_brings at h
  refine zF_go (n := 1) (ps := []) (s' := (1, [(0, .ref 1), (1, .int p_shop), (2, .int p_thing)], [.int p_shop], zh, M)) rfl trivial ?_
  obtain ⟨x1, e8, h⟩ := zb_some h
  refine zF_call (y' := 126) (as := [.int p_shop]) (u := (4, [(0, .ref 1), (1, .int p_shop), (2, .int p_thing)], [], zh, M)) rfl ⟨rfl, rfl⟩ rfl (qS_noShop_ok (S := S) (M := M) e8) ?_
  show zF S 109 (4, [(0, .ref 1), (1, .int p_shop), (2, .int p_thing)], [.int x1], zh, M) _ _
  refine zF_ne (t := 15) (u := (7, [(0, .ref 1), (1, .int p_shop), (2, .int p_thing)], [], zh, M)) rfl (fun c9 => ?_) (fun c9 => ?_)
  · rw [if_neg c9] at h
    refine zF_go (n := 1) (ps := []) (s' := (18, [], [.long (-1000000000000000001)], zh, M)) rfl trivial ?_
    cases h
    exact zF_ret rfl trivial
  · rw [if_pos c9] at h
    refine zF_go (n := 2) (ps := []) (s' := (9, [(0, .ref 1), (1, .int p_shop), (2, .int p_thing)], [.int p_thing, .ref 1], zh, M)) rfl trivial ?_
    obtain ⟨x2, e10, h⟩ := zb_some h
    refine zF_call (y' := 128) (as := [.ref 1, .int p_thing]) (u := (12, [(0, .ref 1), (1, .int p_shop), (2, .int p_thing)], [], zh, M)) rfl ⟨rfl, rfl⟩ rfl (qS_noThing_ok (S := S) (M := M) e10) ?_
    show zF S 109 (12, [(0, .ref 1), (1, .int p_shop), (2, .int p_thing)], [.int x2], zh, M) _ _
    refine zF_eq (t := 19) (u := (15, [(0, .ref 1), (1, .int p_shop), (2, .int p_thing)], [], zh, M)) rfl (fun c11 => ?_) (fun c11 => ?_)
    · rw [if_pos c11] at h
      refine zF_go (n := 1) (ps := []) (s' := (20, [(0, .ref 1), (1, .int p_shop), (2, .int p_thing)], [.ref 1], zh, M)) rfl trivial ?_
      obtain ⟨M3, e12, h⟩ := zb_some h
      refine zF_call (y' := 132) (as := [.ref 1]) (u := (23, [(0, .ref 1), (1, .int p_shop), (2, .int p_thing)], [], zh, M)) rfl ⟨rfl, rfl⟩ rfl (qS_lookAsItIs_ok (S := S) (M := M) e12) ?_
      show zF S 109 (23, [(0, .ref 1), (1, .int p_shop), (2, .int p_thing)], [], zh, M3) _ _
      refine zF_go (n := 3) (ps := []) (s' := (28, [(0, .ref 1), (1, .int p_shop), (2, .int p_thing)], [.int p_shop, .ref 70], zh, M3)) rfl trivial ?_
      obtain ⟨x4, M5, e13, h⟩ := zb2_some h
      refine zF_call (y' := 78) (as := [.ref 70, .int p_shop]) (u := (31, [(0, .ref 1), (1, .int p_shop), (2, .int p_thing)], [], zh, M3)) rfl ⟨rfl, rfl⟩ rfl (qW_leftOf_ok (S := S) (M := M3) e13) ?_
      show zF S 109 (31, [(0, .ref 1), (1, .int p_shop), (2, .int p_thing)], [.int x4], zh, M5) _ _
      obtain ⟨g14, h⟩ := zq_some h
      obtain ⟨g15, h⟩ := zq_some h
      refine zF_go (n := 22) (ps := [vp_in p_thing 4, vp_in ((p_shop * 4) + p_thing) 8]) (s' := (63, [(3, .long x4.toInt64), (0, .ref 1), (1, .int p_shop), (2, .int p_thing)], [.int p_shop, .ref 70, .long x4.toInt64], zh, (zw M5 68 ((p_shop * 4) + p_thing).toNatClampNeg ((M5 64 p_thing.toNatClampNeg) - 1)))) rfl ⟨g14, g15, trivial⟩ ?_
      obtain ⟨x6, M7, e16, h⟩ := zb2_some h
      refine zF_call (y' := 78) (as := [.ref 70, .int p_shop]) (u := (66, [(3, .long x4.toInt64), (0, .ref 1), (1, .int p_shop), (2, .int p_thing)], [.long x4.toInt64], zh, (zw M5 68 ((p_shop * 4) + p_thing).toNatClampNeg ((M5 64 p_thing.toNatClampNeg) - 1)))) rfl ⟨rfl, rfl⟩ rfl (qW_leftOf_ok (S := S) (M := (zw M5 68 ((p_shop * 4) + p_thing).toNatClampNeg ((M5 64 p_thing.toNatClampNeg) - 1))) e16) ?_
      show zF S 109 (66, [(3, .long x4.toInt64), (0, .ref 1), (1, .int p_shop), (2, .int p_thing)], [.int x6, .long x4.toInt64], zh, M7) _ _
      refine zF_go (n := 2) (ps := []) (s' := (68, [(3, .long x4.toInt64), (0, .ref 1), (1, .int p_shop), (2, .int p_thing)], [.long (x4.toInt64 - x6.toInt64)], zh, M7)) rfl trivial ?_
      cases h
      exact zF_ret rfl trivial
    · rw [if_neg c11] at h
      refine zF_go (n := 1) (ps := []) (s' := (18, [], [.long (-1000000000000000001)], zh, M)) rfl trivial ?_
      cases h
      exact zF_ret rfl trivial
noncomputable def qM_brings (M : zM) (p_shop : Int32) (p_thing : Int32) : Option (Int64 × zM) :=
  zb (qM_isShop p_shop) fun x1 =>
  if x1 = 0 then
    (some ((-1000000000000000001), M))
  else
    (zb (qM_isThing M p_thing) fun x2 =>
    if x2 = 0 then
      (some ((-1000000000000000001), M))
    else
      (zq (vp_in ((4 * p_shop) + p_thing) 8) <| zb (qM_leftOf M p_shop) fun x3 =>
      zq (vp_in p_thing 4) <| zq (vp_in ((4 * p_shop) + p_thing) 8) <| zb (qM_leftOf (zw M 89 ((4 * p_shop) + p_thing).toNatClampNeg ((M 92 p_thing.toNatClampNeg) - 1)) p_shop) fun x4 =>
      zq (vp_in ((4 * p_shop) + p_thing) 8) <| some ((x3 - x4).toInt64, (zw (zw M 89 ((4 * p_shop) + p_thing).toNatClampNeg ((M 92 p_thing.toNatClampNeg) - 1)) 89 ((4 * p_shop) + p_thing).toNatClampNeg (M 89 ((4 * p_shop) + p_thing).toNatClampNeg)))))
set_option maxRecDepth 20000 in
set_option maxHeartbeats 4000000 in
theorem qM_brings_ok {S : zSc} {M : zM} {p_shop : Int32} {p_thing : Int32} {r : Int64 × zM} (h : qM_brings M p_shop p_thing = some r) : zF S 186 (0, [(0, .ref 86), (1, .int p_shop), (2, .int p_thing)], [], zh, M) (some (.long r.1)) (r.2) := by
  unfold qM_brings at h
  refine zF_go (n := 1) (ps := []) (s' := (1, [(0, .ref 86), (1, .int p_shop), (2, .int p_thing)], [.int p_shop], zh, M)) rfl trivial ?_
  obtain ⟨x1, e5, h⟩ := zb_some h
  refine zF_call (y' := 136) (as := [.int p_shop]) (u := (4, [(0, .ref 86), (1, .int p_shop), (2, .int p_thing)], [], zh, M)) rfl ⟨rfl, rfl⟩ rfl (qM_isShop_ok (S := S) (M := M) e5) ?_
  show zF S 186 (4, [(0, .ref 86), (1, .int p_shop), (2, .int p_thing)], [.int x1], zh, M) _ _
  refine zF_eq (t := 15) (u := (7, [(0, .ref 86), (1, .int p_shop), (2, .int p_thing)], [], zh, M)) rfl (fun c6 => ?_) (fun c6 => ?_)
  · rw [if_pos c6] at h
    refine zF_go (n := 1) (ps := []) (s' := (18, [], [.long (-1000000000000000001)], zh, M)) rfl trivial ?_
    cases h
    exact zF_ret rfl trivial
  · rw [if_neg c6] at h
    refine zF_go (n := 2) (ps := []) (s' := (9, [(0, .ref 86), (1, .int p_shop), (2, .int p_thing)], [.int p_thing, .ref 86], zh, M)) rfl trivial ?_
    obtain ⟨x2, e7, h⟩ := zb_some h
    refine zF_call (y' := 137) (as := [.ref 86, .int p_thing]) (u := (12, [(0, .ref 86), (1, .int p_shop), (2, .int p_thing)], [], zh, M)) rfl ⟨rfl, rfl⟩ rfl (qM_isThing_ok (S := S) (M := M) e7) ?_
    show zF S 186 (12, [(0, .ref 86), (1, .int p_shop), (2, .int p_thing)], [.int x2], zh, M) _ _
    refine zF_ne (t := 19) (u := (15, [(0, .ref 86), (1, .int p_shop), (2, .int p_thing)], [], zh, M)) rfl (fun c8 => ?_) (fun c8 => ?_)
    · rw [if_neg c8] at h
      obtain ⟨g9, h⟩ := zq_some h
      refine zF_go (n := 13) (ps := [vp_in ((4 * p_shop) + p_thing) 8]) (s' := (35, [(4, .int (M 89 ((4 * p_shop) + p_thing).toNatClampNeg)), (3, .int ((4 * p_shop) + p_thing)), (0, .ref 86), (1, .int p_shop), (2, .int p_thing)], [.int p_shop, .ref 86], zh, M)) rfl ⟨g9, trivial⟩ ?_
      obtain ⟨x3, e10, h⟩ := zb_some h
      refine zF_call (y' := 172) (as := [.ref 86, .int p_shop]) (u := (38, [(4, .int (M 89 ((4 * p_shop) + p_thing).toNatClampNeg)), (3, .int ((4 * p_shop) + p_thing)), (0, .ref 86), (1, .int p_shop), (2, .int p_thing)], [], zh, M)) rfl ⟨rfl, rfl⟩ rfl (qM_leftOf_ok (S := S) (M := M) e10) ?_
      show zF S 186 (38, [(4, .int (M 89 ((4 * p_shop) + p_thing).toNatClampNeg)), (3, .int ((4 * p_shop) + p_thing)), (0, .ref 86), (1, .int p_shop), (2, .int p_thing)], [.int x3], zh, M) _ _
      obtain ⟨g11, h⟩ := zq_some h
      obtain ⟨g12, h⟩ := zq_some h
      refine zF_go (n := 13) (ps := [vp_in p_thing 4, vp_in ((4 * p_shop) + p_thing) 8]) (s' := (56, [(5, .int x3), (4, .int (M 89 ((4 * p_shop) + p_thing).toNatClampNeg)), (3, .int ((4 * p_shop) + p_thing)), (0, .ref 86), (1, .int p_shop), (2, .int p_thing)], [.int p_shop, .ref 86], zh, (zw M 89 ((4 * p_shop) + p_thing).toNatClampNeg ((M 92 p_thing.toNatClampNeg) - 1)))) rfl ⟨g11, g12, trivial⟩ ?_
      obtain ⟨x4, e13, h⟩ := zb_some h
      refine zF_call (y' := 172) (as := [.ref 86, .int p_shop]) (u := (59, [(5, .int x3), (4, .int (M 89 ((4 * p_shop) + p_thing).toNatClampNeg)), (3, .int ((4 * p_shop) + p_thing)), (0, .ref 86), (1, .int p_shop), (2, .int p_thing)], [], zh, (zw M 89 ((4 * p_shop) + p_thing).toNatClampNeg ((M 92 p_thing.toNatClampNeg) - 1)))) rfl ⟨rfl, rfl⟩ rfl (qM_leftOf_ok (S := S) (M := (zw M 89 ((4 * p_shop) + p_thing).toNatClampNeg ((M 92 p_thing.toNatClampNeg) - 1))) e13) ?_
      show zF S 186 (59, [(5, .int x3), (4, .int (M 89 ((4 * p_shop) + p_thing).toNatClampNeg)), (3, .int ((4 * p_shop) + p_thing)), (0, .ref 86), (1, .int p_shop), (2, .int p_thing)], [.int x4], zh, (zw M 89 ((4 * p_shop) + p_thing).toNatClampNeg ((M 92 p_thing.toNatClampNeg) - 1))) _ _
      obtain ⟨g14, h⟩ := zq_some h
      refine zF_go (n := 10) (ps := [vp_in ((4 * p_shop) + p_thing) 8]) (s' := (75, [(6, .int x4), (5, .int x3), (4, .int (M 89 ((4 * p_shop) + p_thing).toNatClampNeg)), (3, .int ((4 * p_shop) + p_thing)), (0, .ref 86), (1, .int p_shop), (2, .int p_thing)], [.long (x3 - x4).toInt64], zh, (zw (zw M 89 ((4 * p_shop) + p_thing).toNatClampNeg ((M 92 p_thing.toNatClampNeg) - 1)) 89 ((4 * p_shop) + p_thing).toNatClampNeg (M 89 ((4 * p_shop) + p_thing).toNatClampNeg)))) rfl ⟨g14, trivial⟩ ?_
      cases h
      exact zF_ret rfl trivial
    · rw [if_pos c8] at h
      refine zF_go (n := 1) (ps := []) (s' := (18, [], [.long (-1000000000000000001)], zh, M)) rfl trivial ?_
      cases h
      exact zF_ret rfl trivial
noncomputable def qW_buysBelowAlone_L11 (M2 : zM) (p_shop : Int32) (rec5 : (Int32 × Int32) → Option (Int32 × zM)) (v : Int32 × Int32) : Option (Int32 × zM) := match v with
  | (v3_3, v4_4) =>
    if v4_4 < (M2 63 0) then
      (zq (vp_in ((p_shop * 4) + v4_4) 8) <| if (0 : Int32) < (M2 74 ((p_shop * 4) + v4_4).toNatClampNeg) then
        (zb (qG_isBelow M2 p_shop v4_4) fun x6 =>
        if x6 = 0 then
          (some (0, M2))
        else
          (rec5 (1, (v4_4 + 1))))
      else
        (rec5 (v3_3, (v4_4 + 1))))
    else
      (zq (v3_3 = 0 ∨ v3_3 = 1) <| some (v3_3, M2))
noncomputable def qW_buysBelowAlone (M : zM) (p_sort : Int32) (p_shop : Int32) : Option (Int32 × zM) :=
  zb2 (qW_send M p_sort) fun x1 M2 =>
  zlp (qW_buysBelowAlone_L11 M2 p_shop) zfu (0, 0)
set_option maxRecDepth 20000 in
set_option maxHeartbeats 4000000 in
theorem qW_buysBelowAlone_ok {S : zSc} {M : zM} {p_sort : Int32} {p_shop : Int32} {r : Int32 × zM} (h : qW_buysBelowAlone M p_sort p_shop = some r) : zF S 81 (0, [(0, .ref 70), (1, .int p_sort), (2, .int p_shop)], [], zh, M) (some (.int r.1)) (r.2) := by
  unfold qW_buysBelowAlone at h
  refine zF_go (n := 2) (ps := []) (s' := (2, [(0, .ref 70), (1, .int p_sort), (2, .int p_shop)], [.int p_sort, .ref 70], zh, M)) rfl trivial ?_
  obtain ⟨x1, M2, e7, h⟩ := zb2_some h
  refine zF_call (y' := 75) (as := [.ref 70, .int p_sort]) (u := (5, [(0, .ref 70), (1, .int p_sort), (2, .int p_shop)], [], zh, M)) rfl ⟨rfl, rfl⟩ rfl (qW_send_ok (S := S) (M := M) e7) ?_
  show zF S 81 (5, [(0, .ref 70), (1, .int p_sort), (2, .int p_shop)], [.int x1], zh, M2) _ _
  refine zF_go (n := 5) (ps := []) (s' := (11, [(4, .int 0), (3, .int 0), (0, .ref 70), (1, .int p_sort), (2, .int p_shop)], [], zh, M2)) rfl trivial ?_
  refine zF_same (s' := (11, [(0, .ref 70), (2, .int p_shop), (3, .int 0), (4, .int 0)], [], zh, M2)) rfl ?_
  refine zlp_ind (P := fun (v : Int32 × Int32) r => zF S 81 (11, [(0, .ref 70), (2, .int p_shop), (3, .int v.1), (4, .int v.2)], [], zh, M2) (some (.int r.1)) (r.2)) ?_ _ _ _ h
  intro rec5 hrec5 v r h
  obtain ⟨v3_3, v4_4⟩ := v
  unfold qW_buysBelowAlone_L11 at h
  dsimp only at h
  show zF S 81 (11, [(0, .ref 70), (2, .int p_shop), (3, .int v3_3), (4, .int v4_4)], [], zh, M2) _ _
  refine zF_go (n := 4) (ps := []) (s' := (20, [(0, .ref 70), (2, .int p_shop), (3, .int v3_3), (4, .int v4_4)], [.int (M2 63 0), .int v4_4], zh, M2)) rfl trivial ?_
  refine zF_ge (t := 60) (u := (23, [(0, .ref 70), (2, .int p_shop), (3, .int v3_3), (4, .int v4_4)], [], zh, M2)) rfl (fun c8 => ?_) (fun c8 => ?_)
  · rw [if_neg c8] at h
    refine zF_go (n := 1) (ps := []) (s' := (61, [(0, .ref 70), (2, .int p_shop), (3, .int v3_3), (4, .int v4_4)], [.int v3_3], zh, M2)) rfl trivial ?_
    obtain ⟨g9, h⟩ := zq_some h
    cases h
    exact zF_ret rfl ⟨g9, trivial⟩
  · rw [if_pos c8] at h
    obtain ⟨g10, h⟩ := zq_some h
    refine zF_go (n := 8) (ps := [vp_in ((p_shop * 4) + v4_4) 8]) (s' := (34, [(0, .ref 70), (2, .int p_shop), (3, .int v3_3), (4, .int v4_4)], [.int (M2 74 ((p_shop * 4) + v4_4).toNatClampNeg)], zh, M2)) rfl ⟨g10, trivial⟩ ?_
    refine zF_le (t := 54) (u := (37, [(0, .ref 70), (2, .int p_shop), (3, .int v3_3), (4, .int v4_4)], [], zh, M2)) rfl (fun c11 => ?_) (fun c11 => ?_)
    · rw [if_neg c11] at h
      refine zF_go (n := 2) (ps := []) (s' := (11, [(4, .int (v4_4 + 1)), (0, .ref 70), (2, .int p_shop), (3, .int v3_3)], [], zh, M2)) rfl trivial ?_
      exact zF_as (hrec5 _ _ h) rfl
    · rw [if_pos c11] at h
      refine zF_go (n := 4) (ps := []) (s' := (44, [(0, .ref 70), (2, .int p_shop), (3, .int v3_3), (4, .int v4_4)], [.int v4_4, .int p_shop, .ref 63], zh, M2)) rfl trivial ?_
      obtain ⟨x6, e12, h⟩ := zb_some h
      refine zF_call (y' := 22) (as := [.ref 63, .int p_shop, .int v4_4]) (u := (47, [(0, .ref 70), (2, .int p_shop), (3, .int v3_3), (4, .int v4_4)], [], zh, M2)) rfl ⟨rfl, rfl⟩ rfl (qG_isBelow_ok (S := S) (M := M2) e12) ?_
      show zF S 81 (47, [(0, .ref 70), (2, .int p_shop), (3, .int v3_3), (4, .int v4_4)], [.int x6], zh, M2) _ _
      refine zF_ne (t := 52) (u := (50, [(0, .ref 70), (2, .int p_shop), (3, .int v3_3), (4, .int v4_4)], [], zh, M2)) rfl (fun c13 => ?_) (fun c13 => ?_)
      · rw [if_neg c13] at h
        refine zF_go (n := 2) (ps := []) (s' := (54, [(3, .int 1), (0, .ref 70), (2, .int p_shop), (4, .int v4_4)], [], zh, M2)) rfl trivial ?_
        refine zF_go (n := 2) (ps := []) (s' := (11, [(4, .int (v4_4 + 1)), (0, .ref 70), (2, .int p_shop), (3, .int 1)], [], zh, M2)) rfl trivial ?_
        exact zF_as (hrec5 _ _ h) rfl
      · rw [if_pos c13] at h
        refine zF_go (n := 1) (ps := []) (s' := (51, [(0, .ref 70), (2, .int p_shop), (3, .int v3_3), (4, .int v4_4)], [.int 0], zh, M2)) rfl trivial ?_
        cases h
        exact zF_ret rfl ⟨(Or.inl rfl), trivial⟩
noncomputable def qS_only_L17 (p_shop : Int32) (rec6 : (Int32 × Int32 × zM) → Option (Int32 × zM)) (v : Int32 × Int32 × zM) : Option (Int32 × zM) := match v with
  | (v2_3, v3_4, M5) =>
    if v3_4 < (M5 10 0) then
      (zb2 (qW_buysBelowAlone M5 v3_4 p_shop) fun x7 M8 =>
      if x7 = 0 then
        (rec6 (v2_3, (v3_4 + 1), M8))
      else
        (rec6 ((v2_3 ||| (1 <<< (v3_4 &&& 31))), (v3_4 + 1), M8)))
    else
      (some (v2_3, M5))
noncomputable def qS_only (M : zM) (p_shop : Int32) : Option (Int32 × zM) :=
  zb (qS_noShop p_shop) fun x1 =>
  if x1 = 0 then
    (zb (qS_lookAsItIs M) fun M2 =>
    zlp (qS_only_L17 p_shop) zfu (0, 0, M2))
  else
    (some ((-1), M))
set_option maxRecDepth 20000 in
set_option maxHeartbeats 4000000 in
theorem qS_only_ok {S : zSc} {M : zM} {p_shop : Int32} {r : Int32 × zM} (h : qS_only M p_shop = some r) : zF S 110 (0, [(0, .ref 1), (1, .int p_shop)], [], zh, M) (some (.int r.1)) (r.2) := by
  unfold qS_only at h
  refine zF_go (n := 1) (ps := []) (s' := (1, [(0, .ref 1), (1, .int p_shop)], [.int p_shop], zh, M)) rfl trivial ?_
  obtain ⟨x1, e9, h⟩ := zb_some h
  refine zF_call (y' := 126) (as := [.int p_shop]) (u := (4, [(0, .ref 1), (1, .int p_shop)], [], zh, M)) rfl ⟨rfl, rfl⟩ rfl (qS_noShop_ok (S := S) (M := M) e9) ?_
  show zF S 110 (4, [(0, .ref 1), (1, .int p_shop)], [.int x1], zh, M) _ _
  refine zF_eq (t := 9) (u := (7, [(0, .ref 1), (1, .int p_shop)], [], zh, M)) rfl (fun c10 => ?_) (fun c10 => ?_)
  · rw [if_pos c10] at h
    refine zF_go (n := 1) (ps := []) (s' := (10, [(0, .ref 1), (1, .int p_shop)], [.ref 1], zh, M)) rfl trivial ?_
    obtain ⟨M2, e11, h⟩ := zb_some h
    refine zF_call (y' := 132) (as := [.ref 1]) (u := (13, [(0, .ref 1), (1, .int p_shop)], [], zh, M)) rfl ⟨rfl, rfl⟩ rfl (qS_lookAsItIs_ok (S := S) (M := M) e11) ?_
    show zF S 110 (13, [(0, .ref 1), (1, .int p_shop)], [], zh, M2) _ _
    refine zF_go (n := 4) (ps := []) (s' := (17, [(3, .int 0), (2, .int 0), (0, .ref 1), (1, .int p_shop)], [], zh, M2)) rfl trivial ?_
    refine zF_same (s' := (17, [(0, .ref 1), (1, .int p_shop), (2, .int 0), (3, .int 0)], [], zh, M2)) rfl ?_
    refine zlp_ind (P := fun (v : Int32 × Int32 × zM) r => zF S 110 (17, [(0, .ref 1), (1, .int p_shop), (2, .int v.1), (3, .int v.2.1)], [], zh, v.2.2) (some (.int r.1)) (r.2)) ?_ _ _ _ h
    intro rec6 hrec6 v r h
    obtain ⟨v2_3, v3_4, M5⟩ := v
    unfold qS_only_L17 at h
    dsimp only at h
    show zF S 110 (17, [(0, .ref 1), (1, .int p_shop), (2, .int v2_3), (3, .int v3_4)], [], zh, M5) _ _
    refine zF_go (n := 5) (ps := []) (s' := (28, [(0, .ref 1), (1, .int p_shop), (2, .int v2_3), (3, .int v3_4)], [.int (M5 10 0), .int v3_4], zh, M5)) rfl trivial ?_
    refine zF_ge (t := 55) (u := (31, [(0, .ref 1), (1, .int p_shop), (2, .int v2_3), (3, .int v3_4)], [], zh, M5)) rfl (fun c12 => ?_) (fun c12 => ?_)
    · rw [if_neg c12] at h
      refine zF_go (n := 1) (ps := []) (s' := (56, [(0, .ref 1), (1, .int p_shop), (2, .int v2_3), (3, .int v3_4)], [.int v2_3], zh, M5)) rfl trivial ?_
      cases h
      exact zF_ret rfl trivial
    · rw [if_pos c12] at h
      refine zF_go (n := 4) (ps := []) (s' := (37, [(0, .ref 1), (1, .int p_shop), (2, .int v2_3), (3, .int v3_4)], [.int p_shop, .int v3_4, .ref 70], zh, M5)) rfl trivial ?_
      obtain ⟨x7, M8, e13, h⟩ := zb2_some h
      refine zF_call (y' := 81) (as := [.ref 70, .int v3_4, .int p_shop]) (u := (40, [(0, .ref 1), (1, .int p_shop), (2, .int v2_3), (3, .int v3_4)], [], zh, M5)) rfl ⟨rfl, rfl⟩ rfl (qW_buysBelowAlone_ok (S := S) (M := M5) e13) ?_
      show zF S 110 (40, [(0, .ref 1), (1, .int p_shop), (2, .int v2_3), (3, .int v3_4)], [.int x7], zh, M8) _ _
      refine zF_eq (t := 49) (u := (43, [(0, .ref 1), (1, .int p_shop), (2, .int v2_3), (3, .int v3_4)], [], zh, M8)) rfl (fun c14 => ?_) (fun c14 => ?_)
      · rw [if_pos c14] at h
        refine zF_go (n := 2) (ps := []) (s' := (17, [(3, .int (v3_4 + 1)), (0, .ref 1), (1, .int p_shop), (2, .int v2_3)], [], zh, M8)) rfl trivial ?_
        exact zF_as (hrec6 _ _ h) rfl
      · rw [if_neg c14] at h
        refine zF_go (n := 6) (ps := []) (s' := (49, [(2, .int (v2_3 ||| (1 <<< (v3_4 &&& 31)))), (0, .ref 1), (1, .int p_shop), (3, .int v3_4)], [], zh, M8)) rfl trivial ?_
        refine zF_go (n := 2) (ps := []) (s' := (17, [(3, .int (v3_4 + 1)), (0, .ref 1), (1, .int p_shop), (2, .int (v2_3 ||| (1 <<< (v3_4 &&& 31))))], [], zh, M8)) rfl trivial ?_
        exact zF_as (hrec6 _ _ h) rfl
  · rw [if_neg c10] at h
    refine zF_go (n := 1) (ps := []) (s' := (8, [(0, .ref 1), (1, .int p_shop)], [.int (-1)], zh, M)) rfl trivial ?_
    cases h
    exact zF_ret rfl trivial
noncomputable def qM_only_L37 (M : zM) (v3_3 : Int32) (x5 : Int32) (p_shop : Int32) (rec4 : (Int32 × Int32) → Option (Int32)) (v2_2 : Int32) (rec9 : (Int32 × Int32 × Int32) → Option (Int32)) (v : Int32 × Int32 × Int32) : Option (Int32) := match v with
  | (v5_6, v6_7, v7_8) =>
    if v7_8 < (M 86 6) then
      (zb (qM_bought M v3_3 x5 p_shop v7_8) fun x10 =>
      zb (zlj (fun (_ : Unit) =>
          some 1) fun k14 =>
        if v5_6 = 0 then
          (if ((if (0 : Int32) < x10 then 1 else 0) : Int32) = 0 then
            (some 0)
          else
            (k14 ()))
        else
          (k14 ())) fun (w13 : Int32) =>
      if v6_7 = 0 then
        (rec9 (w13, 0, (v7_8 + 1)))
      else
        (if ((if (0 : Int32) < x10 then 1 else 0) : Int32) = 0 then
          (rec9 (w13, 1, (v7_8 + 1)))
        else
          (zb (qM_isBelow M p_shop v7_8) fun x15 =>
          if x15 = 0 then
            (rec9 (w13, 0, (v7_8 + 1)))
          else
            (rec9 (w13, 1, (v7_8 + 1))))))
    else
      (if v5_6 = 0 then
        (rec4 ((v2_2 ||| 0), (v3_3 + 1)))
      else
        (if v6_7 = 0 then
          (rec4 ((v2_2 ||| 0), (v3_3 + 1)))
        else
          (rec4 ((v2_2 ||| (1 <<< (v3_3 &&& 31))), (v3_3 + 1)))))
noncomputable def qM_only_L13 (M : zM) (p_shop : Int32) (rec4 : (Int32 × Int32) → Option (Int32)) (v : Int32 × Int32) : Option (Int32) := match v with
  | (v2_2, v3_3) =>
    if v3_3 < (M 86 14) then
      (zb (qM_goesTo M v3_3) fun x5 =>
      zlp (qM_only_L37 M v3_3 x5 p_shop rec4 v2_2) zfu (0, 1, 0))
    else
      (some v2_2)
noncomputable def qM_only (M : zM) (p_shop : Int32) : Option (Int32) :=
  zb (qM_isShop p_shop) fun x1 =>
  if x1 = 0 then
    (some (-1))
  else
    (zlp (qM_only_L13 M p_shop) zfu (0, 0))
set_option maxRecDepth 20000 in
set_option maxHeartbeats 4000000 in
theorem qM_only_ok {S : zSc} {M : zM} {p_shop : Int32} {r : Int32} (h : qM_only M p_shop = some r) : zF S 187 (0, [(0, .ref 86), (1, .int p_shop)], [], zh, M) (some (.int r)) (M) := by
  unfold qM_only at h
  refine zF_go (n := 1) (ps := []) (s' := (1, [(0, .ref 86), (1, .int p_shop)], [.int p_shop], zh, M)) rfl trivial ?_
  obtain ⟨x1, e16, h⟩ := zb_some h
  refine zF_call (y' := 136) (as := [.int p_shop]) (u := (4, [(0, .ref 86), (1, .int p_shop)], [], zh, M)) rfl ⟨rfl, rfl⟩ rfl (qM_isShop_ok (S := S) (M := M) e16) ?_
  show zF S 187 (4, [(0, .ref 86), (1, .int p_shop)], [.int x1], zh, M) _ _
  refine zF_ne (t := 9) (u := (7, [(0, .ref 86), (1, .int p_shop)], [], zh, M)) rfl (fun c17 => ?_) (fun c17 => ?_)
  · rw [if_neg c17] at h
    refine zF_go (n := 4) (ps := []) (s' := (13, [(3, .int 0), (2, .int 0), (0, .ref 86), (1, .int p_shop)], [], zh, M)) rfl trivial ?_
    refine zF_same (s' := (13, [(0, .ref 86), (1, .int p_shop), (2, .int 0), (3, .int 0)], [], zh, M)) rfl ?_
    refine zlp_ind (P := fun (v : Int32 × Int32) r => zF S 187 (13, [(0, .ref 86), (1, .int p_shop), (2, .int v.1), (3, .int v.2)], [], zh, M) (some (.int r)) (M)) ?_ _ _ _ h
    intro rec4 hrec4 v r h
    obtain ⟨v2_2, v3_3⟩ := v
    unfold qM_only_L13 at h
    dsimp only at h
    show zF S 187 (13, [(0, .ref 86), (1, .int p_shop), (2, .int v2_2), (3, .int v3_3)], [], zh, M) _ _
    refine zF_go (n := 3) (ps := []) (s' := (18, [(0, .ref 86), (1, .int p_shop), (2, .int v2_2), (3, .int v3_3)], [.int (M 86 14), .int v3_3], zh, M)) rfl trivial ?_
    refine zF_ge (t := 142) (u := (21, [(0, .ref 86), (1, .int p_shop), (2, .int v2_2), (3, .int v3_3)], [], zh, M)) rfl (fun c18 => ?_) (fun c18 => ?_)
    · rw [if_neg c18] at h
      refine zF_go (n := 1) (ps := []) (s' := (143, [(0, .ref 86), (1, .int p_shop), (2, .int v2_2), (3, .int v3_3)], [.int v2_2], zh, M)) rfl trivial ?_
      cases h
      exact zF_ret rfl trivial
    · rw [if_pos c18] at h
      refine zF_go (n := 2) (ps := []) (s' := (23, [(0, .ref 86), (1, .int p_shop), (2, .int v2_2), (3, .int v3_3)], [.int v3_3, .ref 86], zh, M)) rfl trivial ?_
      obtain ⟨x5, e19, h⟩ := zb_some h
      refine zF_call (y' := 165) (as := [.ref 86, .int v3_3]) (u := (26, [(0, .ref 86), (1, .int p_shop), (2, .int v2_2), (3, .int v3_3)], [], zh, M)) rfl ⟨rfl, rfl⟩ rfl (qM_goesTo_ok (S := S) (M := M) e19) ?_
      show zF S 187 (26, [(0, .ref 86), (1, .int p_shop), (2, .int v2_2), (3, .int v3_3)], [.int x5], zh, M) _ _
      refine zF_go (n := 7) (ps := []) (s' := (37, [(7, .int 0), (6, .int 1), (5, .int 0), (4, .int x5), (0, .ref 86), (1, .int p_shop), (2, .int v2_2), (3, .int v3_3)], [], zh, M)) rfl trivial ?_
      refine zF_same (s' := (37, [(0, .ref 86), (1, .int p_shop), (2, .int v2_2), (3, .int v3_3), (4, .int x5), (5, .int 0), (6, .int 1), (7, .int 0)], [], zh, M)) rfl ?_
      refine zlp_ind (P := fun (v : Int32 × Int32 × Int32) r => zF S 187 (37, [(0, .ref 86), (1, .int p_shop), (2, .int v2_2), (3, .int v3_3), (4, .int x5), (5, .int v.1), (6, .int v.2.1), (7, .int v.2.2)], [], zh, M) (some (.int r)) (M)) ?_ _ _ _ h
      intro rec9 hrec9 v r h
      obtain ⟨v5_6, v6_7, v7_8⟩ := v
      unfold qM_only_L37 at h
      dsimp only at h
      show zF S 187 (37, [(0, .ref 86), (1, .int p_shop), (2, .int v2_2), (3, .int v3_3), (4, .int x5), (5, .int v5_6), (6, .int v6_7), (7, .int v7_8)], [], zh, M) _ _
      refine zF_go (n := 3) (ps := []) (s' := (43, [(0, .ref 86), (1, .int p_shop), (2, .int v2_2), (3, .int v3_3), (4, .int x5), (5, .int v5_6), (6, .int v6_7), (7, .int v7_8)], [.int (M 86 6), .int v7_8], zh, M)) rfl trivial ?_
      refine zF_ge (t := 116) (u := (46, [(0, .ref 86), (1, .int p_shop), (2, .int v2_2), (3, .int v3_3), (4, .int x5), (5, .int v5_6), (6, .int v6_7), (7, .int v7_8)], [], zh, M)) rfl (fun c20 => ?_) (fun c20 => ?_)
      · rw [if_neg c20] at h
        refine zF_go (n := 2) (ps := []) (s' := (119, [(0, .ref 86), (1, .int p_shop), (2, .int v2_2), (3, .int v3_3), (4, .int x5), (5, .int v5_6), (6, .int v6_7), (7, .int v7_8)], [.int v5_6, .int v2_2], zh, M)) rfl trivial ?_
        refine zF_eq (t := 133) (u := (122, [(0, .ref 86), (1, .int p_shop), (2, .int v2_2), (3, .int v3_3), (4, .int x5), (5, .int v5_6), (6, .int v6_7), (7, .int v7_8)], [.int v2_2], zh, M)) rfl (fun c21 => ?_) (fun c21 => ?_)
        · rw [if_pos c21] at h
          refine zF_go (n := 1) (ps := []) (s' := (134, [(0, .ref 86), (1, .int p_shop), (3, .int v3_3)], [.int 0, .int v2_2], zh, M)) rfl trivial ?_
          refine zF_go (n := 4) (ps := []) (s' := (13, [(3, .int (v3_3 + 1)), (2, .int (v2_2 ||| 0)), (0, .ref 86), (1, .int p_shop)], [], zh, M)) rfl trivial ?_
          exact zF_as (hrec4 _ _ h) rfl
        · rw [if_neg c21] at h
          refine zF_go (n := 1) (ps := []) (s' := (124, [(0, .ref 86), (1, .int p_shop), (2, .int v2_2), (3, .int v3_3), (4, .int x5), (5, .int v5_6), (6, .int v6_7), (7, .int v7_8)], [.int v6_7, .int v2_2], zh, M)) rfl trivial ?_
          refine zF_eq (t := 133) (u := (127, [(0, .ref 86), (1, .int p_shop), (2, .int v2_2), (3, .int v3_3), (4, .int x5), (5, .int v5_6), (6, .int v6_7), (7, .int v7_8)], [.int v2_2], zh, M)) rfl (fun c22 => ?_) (fun c22 => ?_)
          · rw [if_pos c22] at h
            refine zF_go (n := 1) (ps := []) (s' := (134, [(0, .ref 86), (1, .int p_shop), (3, .int v3_3)], [.int 0, .int v2_2], zh, M)) rfl trivial ?_
            refine zF_go (n := 4) (ps := []) (s' := (13, [(3, .int (v3_3 + 1)), (2, .int (v2_2 ||| 0)), (0, .ref 86), (1, .int p_shop)], [], zh, M)) rfl trivial ?_
            exact zF_as (hrec4 _ _ h) rfl
          · rw [if_neg c22] at h
            refine zF_go (n := 4) (ps := []) (s' := (134, [(0, .ref 86), (1, .int p_shop), (2, .int v2_2), (3, .int v3_3), (4, .int x5), (5, .int v5_6), (6, .int v6_7), (7, .int v7_8)], [.int (1 <<< (v3_3 &&& 31)), .int v2_2], zh, M)) rfl trivial ?_
            refine zF_go (n := 4) (ps := []) (s' := (13, [(3, .int (v3_3 + 1)), (2, .int (v2_2 ||| (1 <<< (v3_3 &&& 31)))), (0, .ref 86), (1, .int p_shop)], [], zh, M)) rfl trivial ?_
            exact zF_as (hrec4 _ _ h) rfl
      · rw [if_pos c20] at h
        refine zF_go (n := 5) (ps := []) (s' := (53, [(0, .ref 86), (1, .int p_shop), (2, .int v2_2), (3, .int v3_3), (4, .int x5), (5, .int v5_6), (6, .int v6_7), (7, .int v7_8)], [.int v7_8, .int p_shop, .int x5, .int v3_3, .ref 86], zh, M)) rfl trivial ?_
        obtain ⟨x10, e23, h⟩ := zb_some h
        refine zF_call (y' := 167) (as := [.ref 86, .int v3_3, .int x5, .int p_shop, .int v7_8]) (u := (56, [(0, .ref 86), (1, .int p_shop), (2, .int v2_2), (3, .int v3_3), (4, .int x5), (5, .int v5_6), (6, .int v6_7), (7, .int v7_8)], [], zh, M)) rfl ⟨rfl, rfl⟩ rfl (qM_bought_ok (S := S) (M := M) e23) ?_
        show zF S 187 (56, [(0, .ref 86), (1, .int p_shop), (2, .int v2_2), (3, .int v3_3), (4, .int x5), (5, .int v5_6), (6, .int v6_7), (7, .int v7_8)], [.int x10], zh, M) _ _
        have hk24 : zF S 187 (64, [(0, .ref 86), (1, .int p_shop), (2, .int v2_2), (3, .int v3_3), (4, .int x5), (5, .int v5_6), (6, .int v6_7), (7, .int v7_8)], [.int (if (0 : Int32) < x10 then 1 else 0)], zh, M) (some (.int r)) (M) := by
          refine zF_go (n := 2) (ps := []) (s' := (68, [(8, .int (if (0 : Int32) < x10 then 1 else 0)), (0, .ref 86), (1, .int p_shop), (2, .int v2_2), (3, .int v3_3), (4, .int x5), (5, .int v5_6), (6, .int v6_7), (7, .int v7_8)], [.int v5_6], zh, M)) rfl trivial ?_
          obtain ⟨w13, g25, h⟩ := zb_some h
          have hk26 : zF S 187 (81, [(0, .ref 86), (1, .int p_shop), (2, .int v2_2), (3, .int v3_3), (4, .int x5), (6, .int v6_7), (7, .int v7_8), (8, .int (if (0 : Int32) < x10 then 1 else 0))], [.int w13], zh, M) (some (.int r)) (M) := by
            refine zF_go (n := 2) (ps := []) (s' := (85, [(5, .int w13), (0, .ref 86), (1, .int p_shop), (2, .int v2_2), (3, .int v3_3), (4, .int x5), (6, .int v6_7), (7, .int v7_8), (8, .int (if (0 : Int32) < x10 then 1 else 0))], [.int v6_7], zh, M)) rfl trivial ?_
            refine zF_eq (t := 107) (u := (88, [(5, .int w13), (0, .ref 86), (1, .int p_shop), (2, .int v2_2), (3, .int v3_3), (4, .int x5), (6, .int v6_7), (7, .int v7_8), (8, .int (if (0 : Int32) < x10 then 1 else 0))], [], zh, M)) rfl (fun c27 => ?_) (fun c27 => ?_)
            · rw [if_pos c27] at h
              refine zF_go (n := 1) (ps := []) (s' := (108, [(0, .ref 86), (1, .int p_shop), (2, .int v2_2), (3, .int v3_3), (4, .int x5), (5, .int w13), (7, .int v7_8)], [.int 0], zh, M)) rfl trivial ?_
              refine zF_go (n := 3) (ps := []) (s' := (37, [(7, .int (v7_8 + 1)), (6, .int 0), (0, .ref 86), (1, .int p_shop), (2, .int v2_2), (3, .int v3_3), (4, .int x5), (5, .int w13)], [], zh, M)) rfl trivial ?_
              exact zF_as (hrec9 _ _ h) rfl
            · rw [if_neg c27] at h
              refine zF_go (n := 1) (ps := []) (s' := (90, [(5, .int w13), (0, .ref 86), (1, .int p_shop), (2, .int v2_2), (3, .int v3_3), (4, .int x5), (6, .int v6_7), (7, .int v7_8), (8, .int (if (0 : Int32) < x10 then 1 else 0))], [.int (if (0 : Int32) < x10 then 1 else 0)], zh, M)) rfl trivial ?_
              refine zF_eq (t := 103) (u := (93, [(5, .int w13), (0, .ref 86), (1, .int p_shop), (2, .int v2_2), (3, .int v3_3), (4, .int x5), (6, .int v6_7), (7, .int v7_8), (8, .int (if (0 : Int32) < x10 then 1 else 0))], [], zh, M)) rfl (fun c28 => ?_) (fun c28 => ?_)
              · rw [if_pos c28] at h
                refine zF_go (n := 2) (ps := []) (s' := (108, [(0, .ref 86), (1, .int p_shop), (2, .int v2_2), (3, .int v3_3), (4, .int x5), (5, .int w13), (7, .int v7_8)], [.int 1], zh, M)) rfl trivial ?_
                refine zF_go (n := 3) (ps := []) (s' := (37, [(7, .int (v7_8 + 1)), (6, .int 1), (0, .ref 86), (1, .int p_shop), (2, .int v2_2), (3, .int v3_3), (4, .int x5), (5, .int w13)], [], zh, M)) rfl trivial ?_
                exact zF_as (hrec9 _ _ h) rfl
              · rw [if_neg c28] at h
                refine zF_go (n := 3) (ps := []) (s' := (97, [(5, .int w13), (0, .ref 86), (1, .int p_shop), (2, .int v2_2), (3, .int v3_3), (4, .int x5), (6, .int v6_7), (7, .int v7_8), (8, .int (if (0 : Int32) < x10 then 1 else 0))], [.int v7_8, .int p_shop, .ref 86], zh, M)) rfl trivial ?_
                obtain ⟨x15, e29, h⟩ := zb_some h
                refine zF_call (y' := 145) (as := [.ref 86, .int p_shop, .int v7_8]) (u := (100, [(5, .int w13), (0, .ref 86), (1, .int p_shop), (2, .int v2_2), (3, .int v3_3), (4, .int x5), (6, .int v6_7), (7, .int v7_8), (8, .int (if (0 : Int32) < x10 then 1 else 0))], [], zh, M)) rfl ⟨rfl, rfl⟩ rfl (qM_isBelow_ok (S := S) (M := M) e29) ?_
                show zF S 187 (100, [(5, .int w13), (0, .ref 86), (1, .int p_shop), (2, .int v2_2), (3, .int v3_3), (4, .int x5), (6, .int v6_7), (7, .int v7_8), (8, .int (if (0 : Int32) < x10 then 1 else 0))], [.int x15], zh, M) _ _
                refine zF_eq (t := 107) (u := (103, [(5, .int w13), (0, .ref 86), (1, .int p_shop), (2, .int v2_2), (3, .int v3_3), (4, .int x5), (6, .int v6_7), (7, .int v7_8), (8, .int (if (0 : Int32) < x10 then 1 else 0))], [], zh, M)) rfl (fun c30 => ?_) (fun c30 => ?_)
                · rw [if_pos c30] at h
                  refine zF_go (n := 1) (ps := []) (s' := (108, [(0, .ref 86), (1, .int p_shop), (2, .int v2_2), (3, .int v3_3), (4, .int x5), (5, .int w13), (7, .int v7_8)], [.int 0], zh, M)) rfl trivial ?_
                  refine zF_go (n := 3) (ps := []) (s' := (37, [(7, .int (v7_8 + 1)), (6, .int 0), (0, .ref 86), (1, .int p_shop), (2, .int v2_2), (3, .int v3_3), (4, .int x5), (5, .int w13)], [], zh, M)) rfl trivial ?_
                  exact zF_as (hrec9 _ _ h) rfl
                · rw [if_neg c30] at h
                  refine zF_go (n := 2) (ps := []) (s' := (108, [(0, .ref 86), (1, .int p_shop), (2, .int v2_2), (3, .int v3_3), (4, .int x5), (5, .int w13), (7, .int v7_8)], [.int 1], zh, M)) rfl trivial ?_
                  refine zF_go (n := 3) (ps := []) (s' := (37, [(7, .int (v7_8 + 1)), (6, .int 1), (0, .ref 86), (1, .int p_shop), (2, .int v2_2), (3, .int v3_3), (4, .int x5), (5, .int w13)], [], zh, M)) rfl trivial ?_
                  exact zF_as (hrec9 _ _ h) rfl
          refine zlj_e g25 (fun k => ∀ (_ : Unit), k () = some w13 → zF S 187 (76, [(0, .ref 86), (1, .int p_shop), (2, .int v2_2), (3, .int v3_3), (4, .int x5), (6, .int v6_7), (7, .int v7_8), (8, .int (if (0 : Int32) < x10 then 1 else 0))], [], zh, M) (some (.int r)) (M)) ?_ ?_
          · intro _ g25
            try dsimp only at g25
            refine zF_go (n := 2) (ps := []) (s' := (81, [(0, .ref 86), (1, .int p_shop), (2, .int v2_2), (3, .int v3_3), (4, .int x5), (6, .int v6_7), (7, .int v7_8), (8, .int (if (0 : Int32) < x10 then 1 else 0))], [.int 1], zh, M)) rfl trivial ?_
            cases g25
            exact zF_as hk26 rfl
          · intro k14 hk14 g25
            try dsimp only at g25
            refine zF_ne (t := 76) (u := (71, [(8, .int (if (0 : Int32) < x10 then 1 else 0)), (0, .ref 86), (1, .int p_shop), (2, .int v2_2), (3, .int v3_3), (4, .int x5), (5, .int v5_6), (6, .int v6_7), (7, .int v7_8)], [], zh, M)) rfl (fun c31 => ?_) (fun c31 => ?_)
            · rw [if_neg c31] at g25
              exact zF_as (hk14 () g25) rfl
            · rw [if_pos c31] at g25
              refine zF_go (n := 1) (ps := []) (s' := (73, [(8, .int (if (0 : Int32) < x10 then 1 else 0)), (0, .ref 86), (1, .int p_shop), (2, .int v2_2), (3, .int v3_3), (4, .int x5), (5, .int v5_6), (6, .int v6_7), (7, .int v7_8)], [.int (if (0 : Int32) < x10 then 1 else 0)], zh, M)) rfl trivial ?_
              refine zF_eq (t := 80) (u := (76, [(8, .int (if (0 : Int32) < x10 then 1 else 0)), (0, .ref 86), (1, .int p_shop), (2, .int v2_2), (3, .int v3_3), (4, .int x5), (5, .int v5_6), (6, .int v6_7), (7, .int v7_8)], [], zh, M)) rfl (fun c32 => ?_) (fun c32 => ?_)
              · rw [if_pos c32] at g25
                refine zF_go (n := 1) (ps := []) (s' := (81, [(8, .int (if (0 : Int32) < x10 then 1 else 0)), (0, .ref 86), (1, .int p_shop), (2, .int v2_2), (3, .int v3_3), (4, .int x5), (5, .int v5_6), (6, .int v6_7), (7, .int v7_8)], [.int 0], zh, M)) rfl trivial ?_
                cases g25
                exact zF_as hk26 rfl
              · rw [if_neg c32] at g25
                exact zF_as (hk14 () g25) rfl
        refine zF_le (t := 63) (u := (59, [(0, .ref 86), (1, .int p_shop), (2, .int v2_2), (3, .int v3_3), (4, .int x5), (5, .int v5_6), (6, .int v6_7), (7, .int v7_8)], [], zh, M)) rfl (fun c33 => ?_) (fun c33 => ?_)
        · skip
          refine zF_go (n := 1) (ps := []) (s' := (64, [(0, .ref 86), (1, .int p_shop), (2, .int v2_2), (3, .int v3_3), (4, .int x5), (5, .int v5_6), (6, .int v6_7), (7, .int v7_8)], [.int 0], zh, M)) rfl trivial ?_
          simp only [if_neg c33] at hk24
          try simp only [if_neg c33]
          exact zF_as hk24 rfl
        · skip
          refine zF_go (n := 2) (ps := []) (s' := (64, [(0, .ref 86), (1, .int p_shop), (2, .int v2_2), (3, .int v3_3), (4, .int x5), (5, .int v5_6), (6, .int v6_7), (7, .int v7_8)], [.int 1], zh, M)) rfl trivial ?_
          simp only [if_pos c33] at hk24
          try simp only [if_pos c33]
          exact zF_as hk24 rfl
  · rw [if_pos c17] at h
    refine zF_go (n := 1) (ps := []) (s' := (8, [(0, .ref 86), (1, .int p_shop)], [.int (-1)], zh, M)) rfl trivial ?_
    cases h
    exact zF_ret rfl trivial
noncomputable def qJ_fill_75_L5 (p_a1 : Int32) (rec3 : (Int32 × zM) → Option (zM)) (v : Int32 × zM) : Option (zM) := match v with
  | (v2_1, M2) =>
    if v2_1 < (Int32.ofNat 2) then
      (zq (vp_in v2_1 2) <| rec3 ((v2_1 + 1), (zw M2 75 v2_1.toNatClampNeg p_a1)))
    else
      (some M2)
noncomputable def qJ_fill_75 (M : zM) (p_a1 : Int32) : Option (zM) :=
  zlp (qJ_fill_75_L5 p_a1) zfu (0, M)
set_option maxRecDepth 20000 in
set_option maxHeartbeats 4000000 in
theorem qJ_fill_75_ok {S : zSc} {M : zM} {p_a1 : Int32} {r : zM} (h : qJ_fill_75 M p_a1 = some r) : zF S 211 (0, [(0, .ref 75), (1, .int p_a1)], [], zh, M) (none) (r) := by
  unfold qJ_fill_75 at h
  refine zF_go (n := 5) (ps := []) (s' := (5, [(3, .int (Int32.ofNat 2)), (2, .int 0), (0, .ref 75), (1, .int p_a1)], [], zh, M)) rfl trivial ?_
  refine zF_same (s' := (5, [(0, .ref 75), (1, .int p_a1), (2, .int 0), (3, .int (Int32.ofNat 2))], [], zh, M)) rfl ?_
  refine zlp_ind (P := fun (v : Int32 × zM) r => zF S 211 (5, [(0, .ref 75), (1, .int p_a1), (2, .int v.1), (3, .int (Int32.ofNat 2))], [], zh, v.2) (none) (r)) ?_ _ _ _ h
  intro rec3 hrec3 v r h
  obtain ⟨v2_1, M2⟩ := v
  unfold qJ_fill_75_L5 at h
  dsimp only at h
  show zF S 211 (5, [(0, .ref 75), (1, .int p_a1), (2, .int v2_1), (3, .int (Int32.ofNat 2))], [], zh, M2) _ _
  refine zF_go (n := 2) (ps := []) (s' := (7, [(0, .ref 75), (1, .int p_a1), (2, .int v2_1), (3, .int (Int32.ofNat 2))], [.int (Int32.ofNat 2), .int v2_1], zh, M2)) rfl trivial ?_
  refine zF_ge (t := 20) (u := (10, [(0, .ref 75), (1, .int p_a1), (2, .int v2_1), (3, .int (Int32.ofNat 2))], [], zh, M2)) rfl (fun c4 => ?_) (fun c4 => ?_)
  · rw [if_neg c4] at h
    cases h
    exact zF_ret rfl trivial
  · rw [if_pos c4] at h
    obtain ⟨g5, h⟩ := zq_some h
    refine zF_go (n := 6) (ps := [vp_in v2_1 2]) (s' := (5, [(2, .int (v2_1 + 1)), (0, .ref 75), (1, .int p_a1), (3, .int (Int32.ofNat 2))], [], zh, (zw M2 75 v2_1.toNatClampNeg p_a1))) rfl ⟨g5, trivial⟩ ?_
    exact zF_as (hrec3 _ _ h) rfl
noncomputable def qW_tally_L10 (rec4 : (Int32 × zM) → Option (zM)) (v : Int32 × zM) : Option (zM) := match v with
  | (v1_2, M3) =>
    if v1_2 < (M3 10 0) then
      (zb2 (qW_send M3 v1_2) fun x5 M6 =>
      if x5 = 0 then
        (rec4 ((v1_2 + 1), M6))
      else
        (zb (qW_brought M6 v1_2 0) fun x7 =>
        zb (qW_brought (zw M6 75 (0 : Int32).toNatClampNeg ((M6 75 (0 : Int32).toNatClampNeg) + x7)) v1_2 1) fun x8 =>
        rec4 ((v1_2 + 1), (zw (zw M6 75 (0 : Int32).toNatClampNeg ((M6 75 (0 : Int32).toNatClampNeg) + x7)) 75 (1 : Int32).toNatClampNeg (((zw M6 75 (0 : Int32).toNatClampNeg ((M6 75 (0 : Int32).toNatClampNeg) + x7)) 75 (1 : Int32).toNatClampNeg) + x8)))))
    else
      (some M3)
noncomputable def qW_tally (M : zM) : Option (zM) :=
  zb (qJ_fill_75 M 0) fun M1 =>
  zlp (qW_tally_L10) zfu (0, M1)
set_option maxRecDepth 20000 in
set_option maxHeartbeats 4000000 in
theorem qW_tally_ok {S : zSc} {M : zM} {r : zM} (h : qW_tally M = some r) : zF S 77 (0, [(0, .ref 70)], [], zh, M) (none) (r) := by
  unfold qW_tally at h
  refine zF_go (n := 3) (ps := []) (s' := (5, [(0, .ref 70)], [.int 0, .ref 75], zh, M)) rfl trivial ?_
  obtain ⟨M1, e9, h⟩ := zb_some h
  refine zF_call (y' := 211) (as := [.ref 75, .int 0]) (u := (8, [(0, .ref 70)], [], zh, M)) rfl ⟨rfl, rfl⟩ rfl (qJ_fill_75_ok (S := S) (M := M) e9) ?_
  show zF S 77 (8, [(0, .ref 70)], [], zh, M1) _ _
  refine zF_go (n := 2) (ps := []) (s' := (10, [(1, .int 0), (0, .ref 70)], [], zh, M1)) rfl trivial ?_
  refine zF_same (s' := (10, [(0, .ref 70), (1, .int 0)], [], zh, M1)) rfl ?_
  refine zlp_ind (P := fun (v : Int32 × zM) r => zF S 77 (10, [(0, .ref 70), (1, .int v.1)], [], zh, v.2) (none) (r)) ?_ _ _ _ h
  intro rec4 hrec4 v r h
  obtain ⟨v1_2, M3⟩ := v
  unfold qW_tally_L10 at h
  dsimp only at h
  show zF S 77 (10, [(0, .ref 70), (1, .int v1_2)], [], zh, M3) _ _
  refine zF_go (n := 4) (ps := []) (s' := (18, [(0, .ref 70), (1, .int v1_2)], [.int (M3 10 0), .int v1_2], zh, M3)) rfl trivial ?_
  refine zF_ge (t := 65) (u := (21, [(0, .ref 70), (1, .int v1_2)], [], zh, M3)) rfl (fun c10 => ?_) (fun c10 => ?_)
  · rw [if_neg c10] at h
    cases h
    exact zF_ret rfl trivial
  · rw [if_pos c10] at h
    refine zF_go (n := 2) (ps := []) (s' := (23, [(0, .ref 70), (1, .int v1_2)], [.int v1_2, .ref 70], zh, M3)) rfl trivial ?_
    obtain ⟨x5, M6, e11, h⟩ := zb2_some h
    refine zF_call (y' := 75) (as := [.ref 70, .int v1_2]) (u := (26, [(0, .ref 70), (1, .int v1_2)], [], zh, M3)) rfl ⟨rfl, rfl⟩ rfl (qW_send_ok (S := S) (M := M3) e11) ?_
    show zF S 77 (26, [(0, .ref 70), (1, .int v1_2)], [.int x5], zh, M6) _ _
    refine zF_eq (t := 59) (u := (29, [(0, .ref 70), (1, .int v1_2)], [], zh, M6)) rfl (fun c12 => ?_) (fun c12 => ?_)
    · rw [if_pos c12] at h
      refine zF_go (n := 2) (ps := []) (s' := (10, [(1, .int (v1_2 + 1)), (0, .ref 70)], [], zh, M6)) rfl trivial ?_
      exact zF_as (hrec4 _ _ h) rfl
    · rw [if_neg c12] at h
      refine zF_go (n := 8) (ps := [vp_in 0 2]) (s' := (39, [(0, .ref 70), (1, .int v1_2)], [.int 0, .int v1_2, .ref 70, .int (M6 75 (0 : Int32).toNatClampNeg), .int 0, .ref 75], zh, M6)) rfl ⟨(by unfold vp_in; decide), trivial⟩ ?_
      obtain ⟨x7, e13, h⟩ := zb_some h
      refine zF_call (y' := 76) (as := [.ref 70, .int v1_2, .int 0]) (u := (42, [(0, .ref 70), (1, .int v1_2)], [.int (M6 75 (0 : Int32).toNatClampNeg), .int 0, .ref 75], zh, M6)) rfl ⟨rfl, rfl⟩ rfl (qW_brought_ok (S := S) (M := M6) e13) ?_
      show zF S 77 (42, [(0, .ref 70), (1, .int v1_2)], [.int x7, .int (M6 75 (0 : Int32).toNatClampNeg), .int 0, .ref 75], zh, M6) _ _
      refine zF_go (n := 10) (ps := [vp_in 0 2, vp_in 1 2]) (s' := (54, [(0, .ref 70), (1, .int v1_2)], [.int 1, .int v1_2, .ref 70, .int ((zw M6 75 (0 : Int32).toNatClampNeg ((M6 75 (0 : Int32).toNatClampNeg) + x7)) 75 (1 : Int32).toNatClampNeg), .int 1, .ref 75], zh, (zw M6 75 (0 : Int32).toNatClampNeg ((M6 75 (0 : Int32).toNatClampNeg) + x7)))) rfl ⟨(by unfold vp_in; decide), (by unfold vp_in; decide), trivial⟩ ?_
      obtain ⟨x8, e14, h⟩ := zb_some h
      refine zF_call (y' := 76) (as := [.ref 70, .int v1_2, .int 1]) (u := (57, [(0, .ref 70), (1, .int v1_2)], [.int ((zw M6 75 (0 : Int32).toNatClampNeg ((M6 75 (0 : Int32).toNatClampNeg) + x7)) 75 (1 : Int32).toNatClampNeg), .int 1, .ref 75], zh, (zw M6 75 (0 : Int32).toNatClampNeg ((M6 75 (0 : Int32).toNatClampNeg) + x7)))) rfl ⟨rfl, rfl⟩ rfl (qW_brought_ok (S := S) (M := (zw M6 75 (0 : Int32).toNatClampNeg ((M6 75 (0 : Int32).toNatClampNeg) + x7))) e14) ?_
      show zF S 77 (57, [(0, .ref 70), (1, .int v1_2)], [.int x8, .int ((zw M6 75 (0 : Int32).toNatClampNeg ((M6 75 (0 : Int32).toNatClampNeg) + x7)) 75 (1 : Int32).toNatClampNeg), .int 1, .ref 75], zh, (zw M6 75 (0 : Int32).toNatClampNeg ((M6 75 (0 : Int32).toNatClampNeg) + x7))) _ _
      refine zF_go (n := 2) (ps := [vp_in 1 2]) (s' := (59, [(0, .ref 70), (1, .int v1_2)], [], zh, (zw (zw M6 75 (0 : Int32).toNatClampNeg ((M6 75 (0 : Int32).toNatClampNeg) + x7)) 75 (1 : Int32).toNatClampNeg (((zw M6 75 (0 : Int32).toNatClampNeg ((M6 75 (0 : Int32).toNatClampNeg) + x7)) 75 (1 : Int32).toNatClampNeg) + x8)))) rfl ⟨(by unfold vp_in; decide), trivial⟩ ?_
      refine zF_go (n := 2) (ps := []) (s' := (10, [(1, .int (v1_2 + 1)), (0, .ref 70)], [], zh, (zw (zw M6 75 (0 : Int32).toNatClampNeg ((M6 75 (0 : Int32).toNatClampNeg) + x7)) 75 (1 : Int32).toNatClampNeg (((zw M6 75 (0 : Int32).toNatClampNeg ((M6 75 (0 : Int32).toNatClampNeg) + x7)) 75 (1 : Int32).toNatClampNeg) + x8)))) rfl trivial ?_
      exact zF_as (hrec4 _ _ h) rfl
noncomputable def qD_fillTables_L21 (v1_1 : Int32) (rec3 : (Int32 × zM) → Option (zM)) (rec7 : (Int32 × zM) → Option (zM)) (v : Int32 × zM) : Option (zM) := match v with
  | (v2_5, M6) =>
    if v2_5 < (M6 78 5) then
      (zb (qG_putRow M6 1 v2_5) fun M8 =>
      zb (qW_tally M8) fun M9 =>
      zq (vp_in ((v1_1 * 81) + v2_5) 6561) <| zq (vp_in ((v1_1 * 81) + v2_5) 6561) <| rec7 ((v2_5 + 1), (zw (zw M9 80 ((v1_1 * 81) + v2_5).toNatClampNeg (M9 75 (0 : Int32).toNatClampNeg)) 81 ((v1_1 * 81) + v2_5).toNatClampNeg (M9 75 (1 : Int32).toNatClampNeg))))
    else
      (rec3 ((v1_1 + 1), M6))
noncomputable def qD_fillTables_L2 (rec3 : (Int32 × zM) → Option (zM)) (v : Int32 × zM) : Option (zM) := match v with
  | (v1_1, M2) =>
    if v1_1 < (M2 78 5) then
      (zb (qG_putRow M2 0 v1_1) fun M4 =>
      zlp (qD_fillTables_L21 v1_1 rec3) zfu (0, M4))
    else
      (some M2)
noncomputable def qD_fillTables (M : zM) : Option (zM) :=
  zlp (qD_fillTables_L2) zfu (0, M)
set_option maxRecDepth 20000 in
set_option maxHeartbeats 4000000 in
theorem qD_fillTables_ok {S : zSc} {M : zM} {r : zM} (h : qD_fillTables M = some r) : zF S 3 (0, [(0, .ref 78)], [], zh, M) (none) (r) := by
  unfold qD_fillTables at h
  refine zF_go (n := 2) (ps := []) (s' := (2, [(1, .int 0), (0, .ref 78)], [], zh, M)) rfl trivial ?_
  refine zF_same (s' := (2, [(0, .ref 78), (1, .int 0)], [], zh, M)) rfl ?_
  refine zlp_ind (P := fun (v : Int32 × zM) r => zF S 3 (2, [(0, .ref 78), (1, .int v.1)], [], zh, v.2) (none) (r)) ?_ _ _ _ h
  intro rec3 hrec3 v r h
  obtain ⟨v1_1, M2⟩ := v
  unfold qD_fillTables_L2 at h
  dsimp only at h
  show zF S 3 (2, [(0, .ref 78), (1, .int v1_1)], [], zh, M2) _ _
  refine zF_go (n := 3) (ps := []) (s' := (7, [(0, .ref 78), (1, .int v1_1)], [.int (M2 78 5), .int v1_1], zh, M2)) rfl trivial ?_
  refine zF_ge (t := 97) (u := (10, [(0, .ref 78), (1, .int v1_1)], [], zh, M2)) rfl (fun c10 => ?_) (fun c10 => ?_)
  · rw [if_neg c10] at h
    cases h
    exact zF_ret rfl trivial
  · rw [if_pos c10] at h
    refine zF_go (n := 4) (ps := []) (s' := (16, [(0, .ref 78), (1, .int v1_1)], [.int v1_1, .int 0, .ref 63], zh, M2)) rfl trivial ?_
    obtain ⟨M4, e11, h⟩ := zb_some h
    refine zF_call (y' := 21) (as := [.ref 63, .int 0, .int v1_1]) (u := (19, [(0, .ref 78), (1, .int v1_1)], [], zh, M2)) rfl ⟨rfl, rfl⟩ rfl (qG_putRow_ok (S := S) (M := M2) e11) ?_
    show zF S 3 (19, [(0, .ref 78), (1, .int v1_1)], [], zh, M4) _ _
    refine zF_go (n := 2) (ps := []) (s' := (21, [(2, .int 0), (0, .ref 78), (1, .int v1_1)], [], zh, M4)) rfl trivial ?_
    refine zF_same (s' := (21, [(0, .ref 78), (1, .int v1_1), (2, .int 0)], [], zh, M4)) rfl ?_
    refine zlp_ind (P := fun (v : Int32 × zM) r => zF S 3 (21, [(0, .ref 78), (1, .int v1_1), (2, .int v.1)], [], zh, v.2) (none) (r)) ?_ _ _ _ h
    intro rec7 hrec7 v r h
    obtain ⟨v2_5, M6⟩ := v
    unfold qD_fillTables_L21 at h
    dsimp only at h
    show zF S 3 (21, [(0, .ref 78), (1, .int v1_1), (2, .int v2_5)], [], zh, M6) _ _
    refine zF_go (n := 3) (ps := []) (s' := (26, [(0, .ref 78), (1, .int v1_1), (2, .int v2_5)], [.int (M6 78 5), .int v2_5], zh, M6)) rfl trivial ?_
    refine zF_ge (t := 91) (u := (29, [(0, .ref 78), (1, .int v1_1), (2, .int v2_5)], [], zh, M6)) rfl (fun c12 => ?_) (fun c12 => ?_)
    · rw [if_neg c12] at h
      refine zF_go (n := 2) (ps := []) (s' := (2, [(1, .int (v1_1 + 1)), (0, .ref 78), (2, .int v2_5)], [], zh, M6)) rfl trivial ?_
      exact zF_as (hrec3 _ _ h) rfl
    · rw [if_pos c12] at h
      refine zF_go (n := 4) (ps := []) (s' := (35, [(0, .ref 78), (1, .int v1_1), (2, .int v2_5)], [.int v2_5, .int 1, .ref 63], zh, M6)) rfl trivial ?_
      obtain ⟨M8, e13, h⟩ := zb_some h
      refine zF_call (y' := 21) (as := [.ref 63, .int 1, .int v2_5]) (u := (38, [(0, .ref 78), (1, .int v1_1), (2, .int v2_5)], [], zh, M6)) rfl ⟨rfl, rfl⟩ rfl (qG_putRow_ok (S := S) (M := M6) e13) ?_
      show zF S 3 (38, [(0, .ref 78), (1, .int v1_1), (2, .int v2_5)], [], zh, M8) _ _
      refine zF_go (n := 2) (ps := []) (s' := (42, [(0, .ref 78), (1, .int v1_1), (2, .int v2_5)], [.ref 70], zh, M8)) rfl trivial ?_
      obtain ⟨M9, e14, h⟩ := zb_some h
      refine zF_call (y' := 77) (as := [.ref 70]) (u := (45, [(0, .ref 78), (1, .int v1_1), (2, .int v2_5)], [], zh, M8)) rfl ⟨rfl, rfl⟩ rfl (qW_tally_ok (S := S) (M := M8) e14) ?_
      show zF S 3 (45, [(0, .ref 78), (1, .int v1_1), (2, .int v2_5)], [], zh, M9) _ _
      obtain ⟨g15, h⟩ := zq_some h
      obtain ⟨g16, h⟩ := zq_some h
      refine zF_go (n := 28) (ps := [vp_in 0 2, vp_in ((v1_1 * 81) + v2_5) 6561, vp_in 1 2, vp_in ((v1_1 * 81) + v2_5) 6561]) (s' := (21, [(2, .int (v2_5 + 1)), (0, .ref 78), (1, .int v1_1)], [], zh, (zw (zw M9 80 ((v1_1 * 81) + v2_5).toNatClampNeg (M9 75 (0 : Int32).toNatClampNeg)) 81 ((v1_1 * 81) + v2_5).toNatClampNeg (M9 75 (1 : Int32).toNatClampNeg)))) rfl ⟨(by unfold vp_in; decide), g15, (by unfold vp_in; decide), g16, trivial⟩ ?_
      exact zF_as (hrec7 _ _ h) rfl
noncomputable def qD_leftBy (M : zM) (p_shop : Int32) (p_own : Int32) (p_others : Int32) : Option (Int32) :=
  if p_shop = 0 then
    (zq (vp_in ((p_own * 81) + p_others) 6561) <| some (M 80 ((p_own * 81) + p_others).toNatClampNeg))
  else
    (zq (vp_in ((p_others * 81) + p_own) 6561) <| some (M 81 ((p_others * 81) + p_own).toNatClampNeg))
set_option maxRecDepth 20000 in
set_option maxHeartbeats 4000000 in
theorem qD_leftBy_ok {S : zSc} {M : zM} {p_shop : Int32} {p_own : Int32} {p_others : Int32} {r : Int32} (h : qD_leftBy M p_shop p_own p_others = some r) : zF S 4 (0, [(0, .ref 78), (1, .int p_shop), (2, .int p_own), (3, .int p_others)], [], zh, M) (some (.int r)) (M) := by
  unfold qD_leftBy at h
  refine zF_go (n := 1) (ps := []) (s' := (1, [(0, .ref 78), (1, .int p_shop), (2, .int p_own), (3, .int p_others)], [.int p_shop], zh, M)) rfl trivial ?_
  refine zF_ne (t := 18) (u := (4, [(0, .ref 78), (1, .int p_shop), (2, .int p_own), (3, .int p_others)], [], zh, M)) rfl (fun c1 => ?_) (fun c1 => ?_)
  · rw [if_neg c1] at h
    obtain ⟨g2, h⟩ := zq_some h
    refine zF_go (n := 8) (ps := [vp_in ((p_others * 81) + p_own) 6561]) (s' := (29, [(0, .ref 78), (1, .int p_shop), (2, .int p_own), (3, .int p_others)], [.int (M 81 ((p_others * 81) + p_own).toNatClampNeg)], zh, M)) rfl ⟨g2, trivial⟩ ?_
    cases h
    exact zF_ret rfl trivial
  · rw [if_pos c1] at h
    obtain ⟨g3, h⟩ := zq_some h
    refine zF_go (n := 9) (ps := [vp_in ((p_own * 81) + p_others) 6561]) (s' := (29, [(0, .ref 78), (1, .int p_shop), (2, .int p_own), (3, .int p_others)], [.int (M 80 ((p_own * 81) + p_others).toNatClampNeg)], zh, M)) rfl ⟨g3, trivial⟩ ?_
    cases h
    exact zF_ret rfl trivial
noncomputable def qD_bestAgainst_L8 (M : zM) (p_shop : Int32) (p_others : Int32) (rec4 : (Int32 × Int32 × Int32) → Option (Int32)) (v : Int32 × Int32 × Int32) : Option (Int32) := match v with
  | (v3_1, v4_2, v5_3) =>
    if v5_3 < (M 78 5) then
      (zq (vp_in ((p_shop * 81) + v5_3) 162) <| if (M 82 ((p_shop * 81) + v5_3).toNatClampNeg) = 0 then
        (rec4 (v3_1, v4_2, (v5_3 + 1)))
      else
        (if v4_2 = 0 then
          (rec4 (v5_3, 1, (v5_3 + 1)))
        else
          (zb (qD_leftBy M p_shop v5_3 p_others) fun x5 =>
          zb (qD_leftBy M p_shop v3_1 p_others) fun x6 =>
          if x6 < x5 then
            (rec4 (v5_3, 1, (v5_3 + 1)))
          else
            (rec4 (v3_1, 1, (v5_3 + 1))))))
    else
      (some v3_1)
noncomputable def qD_bestAgainst (M : zM) (p_shop : Int32) (p_others : Int32) : Option (Int32) :=
  zlp (qD_bestAgainst_L8 M p_shop p_others) zfu (0, 0, 0)
set_option maxRecDepth 20000 in
set_option maxHeartbeats 4000000 in
theorem qD_bestAgainst_ok {S : zSc} {M : zM} {p_shop : Int32} {p_others : Int32} {r : Int32} (h : qD_bestAgainst M p_shop p_others = some r) : zF S 5 (0, [(0, .ref 78), (1, .int p_shop), (2, .int p_others)], [], zh, M) (some (.int r)) (M) := by
  unfold qD_bestAgainst at h
  refine zF_go (n := 6) (ps := []) (s' := (8, [(5, .int 0), (4, .int 0), (3, .int 0), (0, .ref 78), (1, .int p_shop), (2, .int p_others)], [], zh, M)) rfl trivial ?_
  refine zF_same (s' := (8, [(0, .ref 78), (1, .int p_shop), (2, .int p_others), (3, .int 0), (4, .int 0), (5, .int 0)], [], zh, M)) rfl ?_
  refine zlp_ind (P := fun (v : Int32 × Int32 × Int32) r => zF S 5 (8, [(0, .ref 78), (1, .int p_shop), (2, .int p_others), (3, .int v.1), (4, .int v.2.1), (5, .int v.2.2)], [], zh, M) (some (.int r)) (M)) ?_ _ _ _ h
  intro rec4 hrec4 v r h
  obtain ⟨v3_1, v4_2, v5_3⟩ := v
  unfold qD_bestAgainst_L8 at h
  dsimp only at h
  show zF S 5 (8, [(0, .ref 78), (1, .int p_shop), (2, .int p_others), (3, .int v3_1), (4, .int v4_2), (5, .int v5_3)], [], zh, M) _ _
  refine zF_go (n := 3) (ps := []) (s' := (14, [(0, .ref 78), (1, .int p_shop), (2, .int p_others), (3, .int v3_1), (4, .int v4_2), (5, .int v5_3)], [.int (M 78 5), .int v5_3], zh, M)) rfl trivial ?_
  refine zF_ge (t := 67) (u := (17, [(0, .ref 78), (1, .int p_shop), (2, .int p_others), (3, .int v3_1), (4, .int v4_2), (5, .int v5_3)], [], zh, M)) rfl (fun c7 => ?_) (fun c7 => ?_)
  · rw [if_neg c7] at h
    refine zF_go (n := 1) (ps := []) (s' := (68, [(0, .ref 78), (1, .int p_shop), (2, .int p_others), (3, .int v3_1), (4, .int v4_2), (5, .int v5_3)], [.int v3_1], zh, M)) rfl trivial ?_
    cases h
    exact zF_ret rfl trivial
  · rw [if_pos c7] at h
    obtain ⟨g8, h⟩ := zq_some h
    refine zF_go (n := 8) (ps := [vp_in ((p_shop * 81) + v5_3) 162]) (s' := (29, [(0, .ref 78), (1, .int p_shop), (2, .int p_others), (3, .int v3_1), (4, .int v4_2), (5, .int v5_3)], [.int (M 82 ((p_shop * 81) + v5_3).toNatClampNeg)], zh, M)) rfl ⟨g8, trivial⟩ ?_
    refine zF_eq (t := 61) (u := (32, [(0, .ref 78), (1, .int p_shop), (2, .int p_others), (3, .int v3_1), (4, .int v4_2), (5, .int v5_3)], [], zh, M)) rfl (fun c9 => ?_) (fun c9 => ?_)
    · rw [if_pos c9] at h
      refine zF_go (n := 2) (ps := []) (s' := (8, [(5, .int (v5_3 + 1)), (0, .ref 78), (1, .int p_shop), (2, .int p_others), (3, .int v3_1), (4, .int v4_2)], [], zh, M)) rfl trivial ?_
      exact zF_as (hrec4 _ _ h) rfl
    · rw [if_neg c9] at h
      refine zF_go (n := 1) (ps := []) (s' := (34, [(0, .ref 78), (1, .int p_shop), (2, .int p_others), (3, .int v3_1), (4, .int v4_2), (5, .int v5_3)], [.int v4_2], zh, M)) rfl trivial ?_
      refine zF_eq (t := 55) (u := (37, [(0, .ref 78), (1, .int p_shop), (2, .int p_others), (3, .int v3_1), (4, .int v4_2), (5, .int v5_3)], [], zh, M)) rfl (fun c10 => ?_) (fun c10 => ?_)
      · rw [if_pos c10] at h
        refine zF_go (n := 2) (ps := []) (s' := (58, [(3, .int v5_3), (0, .ref 78), (1, .int p_shop), (2, .int p_others), (5, .int v5_3)], [], zh, M)) rfl trivial ?_
        refine zF_go (n := 2) (ps := []) (s' := (61, [(4, .int 1), (0, .ref 78), (1, .int p_shop), (2, .int p_others), (3, .int v5_3), (5, .int v5_3)], [], zh, M)) rfl trivial ?_
        refine zF_go (n := 2) (ps := []) (s' := (8, [(5, .int (v5_3 + 1)), (0, .ref 78), (1, .int p_shop), (2, .int p_others), (3, .int v5_3), (4, .int 1)], [], zh, M)) rfl trivial ?_
        exact zF_as (hrec4 _ _ h) rfl
      · rw [if_neg c10] at h
        refine zF_go (n := 4) (ps := []) (s' := (42, [(0, .ref 78), (1, .int p_shop), (2, .int p_others), (3, .int v3_1), (4, .int v4_2), (5, .int v5_3)], [.int p_others, .int v5_3, .int p_shop, .ref 78], zh, M)) rfl trivial ?_
        obtain ⟨x5, e11, h⟩ := zb_some h
        refine zF_call (y' := 4) (as := [.ref 78, .int p_shop, .int v5_3, .int p_others]) (u := (45, [(0, .ref 78), (1, .int p_shop), (2, .int p_others), (3, .int v3_1), (4, .int v4_2), (5, .int v5_3)], [], zh, M)) rfl ⟨rfl, rfl⟩ rfl (qD_leftBy_ok (S := S) (M := M) e11) ?_
        show zF S 5 (45, [(0, .ref 78), (1, .int p_shop), (2, .int p_others), (3, .int v3_1), (4, .int v4_2), (5, .int v5_3)], [.int x5], zh, M) _ _
        refine zF_go (n := 4) (ps := []) (s' := (49, [(0, .ref 78), (1, .int p_shop), (2, .int p_others), (3, .int v3_1), (4, .int v4_2), (5, .int v5_3)], [.int p_others, .int v3_1, .int p_shop, .ref 78, .int x5], zh, M)) rfl trivial ?_
        obtain ⟨x6, e12, h⟩ := zb_some h
        refine zF_call (y' := 4) (as := [.ref 78, .int p_shop, .int v3_1, .int p_others]) (u := (52, [(0, .ref 78), (1, .int p_shop), (2, .int p_others), (3, .int v3_1), (4, .int v4_2), (5, .int v5_3)], [.int x5], zh, M)) rfl ⟨rfl, rfl⟩ rfl (qD_leftBy_ok (S := S) (M := M) e12) ?_
        show zF S 5 (52, [(0, .ref 78), (1, .int p_shop), (2, .int p_others), (3, .int v3_1), (4, .int v4_2), (5, .int v5_3)], [.int x6, .int x5], zh, M) _ _
        refine zF_le (t := 58) (u := (55, [(0, .ref 78), (1, .int p_shop), (2, .int p_others), (3, .int v3_1), (4, .int v4_2), (5, .int v5_3)], [], zh, M)) rfl (fun c13 => ?_) (fun c13 => ?_)
        · rw [if_neg c13] at h
          refine zF_go (n := 2) (ps := []) (s' := (61, [(4, .int 1), (0, .ref 78), (1, .int p_shop), (2, .int p_others), (3, .int v3_1), (5, .int v5_3)], [], zh, M)) rfl trivial ?_
          refine zF_go (n := 2) (ps := []) (s' := (8, [(5, .int (v5_3 + 1)), (0, .ref 78), (1, .int p_shop), (2, .int p_others), (3, .int v3_1), (4, .int 1)], [], zh, M)) rfl trivial ?_
          exact zF_as (hrec4 _ _ h) rfl
        · rw [if_pos c13] at h
          refine zF_go (n := 2) (ps := []) (s' := (58, [(3, .int v5_3), (0, .ref 78), (1, .int p_shop), (2, .int p_others), (5, .int v5_3)], [], zh, M)) rfl trivial ?_
          refine zF_go (n := 2) (ps := []) (s' := (61, [(4, .int 1), (0, .ref 78), (1, .int p_shop), (2, .int p_others), (3, .int v5_3), (5, .int v5_3)], [], zh, M)) rfl trivial ?_
          refine zF_go (n := 2) (ps := []) (s' := (8, [(5, .int (v5_3 + 1)), (0, .ref 78), (1, .int p_shop), (2, .int p_others), (3, .int v5_3), (4, .int 1)], [], zh, M)) rfl trivial ?_
          exact zF_as (hrec4 _ _ h) rfl
noncomputable def qD_prepare_L36 (v2_5 : Int32) (p_law : Int32) (rec7 : (Int32 × zM) → Option (zM)) (rec17 : (Int32 × zM) → Option (zM)) (v : Int32 × zM) : Option (zM) := match v with
  | (v3_15, M16) =>
    if v3_15 < (M16 78 5) then
      (zb (qG_putRow M16 v2_5 v3_15) fun M18 =>
      zb (qG_isLawful M18 v2_5 p_law) fun x19 =>
      zq (vp_in ((v2_5 * 81) + v3_15) 162) <| zq (x19 = 0 ∨ x19 = 1) <| rec17 ((v3_15 + 1), (zw M18 82 ((v2_5 * 81) + v3_15).toNatClampNeg x19)))
    else
      (rec7 ((v2_5 + 1), M16))
noncomputable def qD_prepare_L94 (v2_8 : Int32) (rec10 : (Int32 × zM) → Option (zM)) (rec13 : (Int32 × zM) → Option (zM)) (v : Int32 × zM) : Option (zM) := match v with
  | (v3_11, M12) =>
    if v3_11 < (M12 78 5) then
      (zb (qD_bestAgainst M12 v2_8 v3_11) fun x14 =>
      zq (vp_in ((v2_8 * 81) + v3_11) 162) <| rec13 ((v3_11 + 1), (zw M12 83 ((v2_8 * 81) + v3_11).toNatClampNeg x14)))
    else
      (rec10 ((v2_8 + 1), M12))
noncomputable def qD_prepare_L87 (rec10 : (Int32 × zM) → Option (zM)) (v : Int32 × zM) : Option (zM) := match v with
  | (v2_8, M9) =>
    if v2_8 < 2 then
      (zlp (qD_prepare_L94 v2_8 rec10) zfu (0, M9))
    else
      (some M9)
noncomputable def qD_prepare_L29 (p_law : Int32) (rec7 : (Int32 × zM) → Option (zM)) (v : Int32 × zM) : Option (zM) := match v with
  | (v2_5, M6) =>
    if v2_5 < 2 then
      (zlp (qD_prepare_L36 v2_5 p_law rec7) zfu (0, M6))
    else
      (zlp (qD_prepare_L87) zfu (0, M6))
noncomputable def qD_prepare (M : zM) (p_law : Int32) : Option (zM) :=
  zb (qG_rowCount_63 M) fun x1 =>
  zb (if ((zw M 78 5 x1) 78 6) = 0 then
      (zb (qD_fillTables (zw M 78 5 x1)) fun M4 =>
      some (zw M4 78 6 1))
    else
      (some (zw M 78 5 x1))) fun (M3 : zM) =>
  zlp (qD_prepare_L29 p_law) zfu (0, M3)
set_option maxRecDepth 20000 in
set_option maxHeartbeats 4000000 in
theorem qD_prepare_ok {S : zSc} {M : zM} {p_law : Int32} {r : zM} (h : qD_prepare M p_law = some r) : zF S 2 (0, [(0, .ref 78), (1, .int p_law)], [], zh, M) (none) (r) := by
  unfold qD_prepare at h
  refine zF_go (n := 3) (ps := []) (s' := (5, [(0, .ref 78), (1, .int p_law)], [.ref 63, .ref 78], zh, M)) rfl trivial ?_
  obtain ⟨x1, e20, h⟩ := zb_some h
  refine zF_call (y' := 19) (as := [.ref 63]) (u := (8, [(0, .ref 78), (1, .int p_law)], [.ref 78], zh, M)) rfl ⟨rfl, rfl⟩ rfl (qG_rowCount_63_ok (S := S) (M := M) e20) ?_
  show zF S 2 (8, [(0, .ref 78), (1, .int p_law)], [.int x1, .ref 78], zh, M) _ _
  refine zF_go (n := 3) (ps := []) (s' := (15, [(0, .ref 78), (1, .int p_law)], [.int ((zw M 78 5 x1) 78 6)], zh, (zw M 78 5 x1))) rfl trivial ?_
  obtain ⟨M3, g21, h⟩ := zb_some h
  have hk22 : zF S 2 (27, [(0, .ref 78), (1, .int p_law)], [], zh, M3) (none) (r) := by
    refine zF_go (n := 2) (ps := []) (s' := (29, [(2, .int 0), (0, .ref 78), (1, .int p_law)], [], zh, M3)) rfl trivial ?_
    refine zF_same (s' := (29, [(0, .ref 78), (1, .int p_law), (2, .int 0)], [], zh, M3)) rfl ?_
    refine zlp_ind (P := fun (v : Int32 × zM) r => zF S 2 (29, [(0, .ref 78), (1, .int p_law), (2, .int v.1)], [], zh, v.2) (none) (r)) ?_ _ _ _ h
    intro rec7 hrec7 v r h
    obtain ⟨v2_5, M6⟩ := v
    unfold qD_prepare_L29 at h
    dsimp only at h
    show zF S 2 (29, [(0, .ref 78), (1, .int p_law), (2, .int v2_5)], [], zh, M6) _ _
    refine zF_go (n := 2) (ps := []) (s' := (31, [(0, .ref 78), (1, .int p_law), (2, .int v2_5)], [.int 2, .int v2_5], zh, M6)) rfl trivial ?_
    refine zF_ge (t := 85) (u := (34, [(0, .ref 78), (1, .int p_law), (2, .int v2_5)], [], zh, M6)) rfl (fun c23 => ?_) (fun c23 => ?_)
    · rw [if_neg c23] at h
      refine zF_go (n := 2) (ps := []) (s' := (87, [(2, .int 0), (0, .ref 78), (1, .int p_law)], [], zh, M6)) rfl trivial ?_
      refine zF_same (s' := (87, [(0, .ref 78), (2, .int 0)], [], zh, M6)) rfl ?_
      refine zlp_ind (P := fun (v : Int32 × zM) r => zF S 2 (87, [(0, .ref 78), (2, .int v.1)], [], zh, v.2) (none) (r)) ?_ _ _ _ h
      intro rec10 hrec10 v r h
      obtain ⟨v2_8, M9⟩ := v
      unfold qD_prepare_L87 at h
      dsimp only at h
      show zF S 2 (87, [(0, .ref 78), (2, .int v2_8)], [], zh, M9) _ _
      refine zF_go (n := 2) (ps := []) (s' := (89, [(0, .ref 78), (2, .int v2_8)], [.int 2, .int v2_8], zh, M9)) rfl trivial ?_
      refine zF_ge (t := 131) (u := (92, [(0, .ref 78), (2, .int v2_8)], [], zh, M9)) rfl (fun c24 => ?_) (fun c24 => ?_)
      · rw [if_neg c24] at h
        cases h
        exact zF_ret rfl trivial
      · rw [if_pos c24] at h
        refine zF_go (n := 2) (ps := []) (s' := (94, [(3, .int 0), (0, .ref 78), (2, .int v2_8)], [], zh, M9)) rfl trivial ?_
        refine zF_same (s' := (94, [(0, .ref 78), (2, .int v2_8), (3, .int 0)], [], zh, M9)) rfl ?_
        refine zlp_ind (P := fun (v : Int32 × zM) r => zF S 2 (94, [(0, .ref 78), (2, .int v2_8), (3, .int v.1)], [], zh, v.2) (none) (r)) ?_ _ _ _ h
        intro rec13 hrec13 v r h
        obtain ⟨v3_11, M12⟩ := v
        unfold qD_prepare_L94 at h
        dsimp only at h
        show zF S 2 (94, [(0, .ref 78), (2, .int v2_8), (3, .int v3_11)], [], zh, M12) _ _
        refine zF_go (n := 3) (ps := []) (s' := (99, [(0, .ref 78), (2, .int v2_8), (3, .int v3_11)], [.int (M12 78 5), .int v3_11], zh, M12)) rfl trivial ?_
        refine zF_ge (t := 125) (u := (102, [(0, .ref 78), (2, .int v2_8), (3, .int v3_11)], [], zh, M12)) rfl (fun c25 => ?_) (fun c25 => ?_)
        · rw [if_neg c25] at h
          refine zF_go (n := 2) (ps := []) (s' := (87, [(2, .int (v2_8 + 1)), (0, .ref 78), (3, .int v3_11)], [], zh, M12)) rfl trivial ?_
          exact zF_as (hrec10 _ _ h) rfl
        · rw [if_pos c25] at h
          refine zF_go (n := 10) (ps := []) (s' := (115, [(0, .ref 78), (2, .int v2_8), (3, .int v3_11)], [.int v3_11, .int v2_8, .ref 78, .int ((v2_8 * 81) + v3_11), .ref 83], zh, M12)) rfl trivial ?_
          obtain ⟨x14, e26, h⟩ := zb_some h
          refine zF_call (y' := 5) (as := [.ref 78, .int v2_8, .int v3_11]) (u := (118, [(0, .ref 78), (2, .int v2_8), (3, .int v3_11)], [.int ((v2_8 * 81) + v3_11), .ref 83], zh, M12)) rfl ⟨rfl, rfl⟩ rfl (qD_bestAgainst_ok (S := S) (M := M12) e26) ?_
          show zF S 2 (118, [(0, .ref 78), (2, .int v2_8), (3, .int v3_11)], [.int x14, .int ((v2_8 * 81) + v3_11), .ref 83], zh, M12) _ _
          obtain ⟨g27, h⟩ := zq_some h
          refine zF_go (n := 3) (ps := [vp_in ((v2_8 * 81) + v3_11) 162]) (s' := (94, [(3, .int (v3_11 + 1)), (0, .ref 78), (2, .int v2_8)], [], zh, (zw M12 83 ((v2_8 * 81) + v3_11).toNatClampNeg x14))) rfl ⟨g27, trivial⟩ ?_
          exact zF_as (hrec13 _ _ h) rfl
    · rw [if_pos c23] at h
      refine zF_go (n := 2) (ps := []) (s' := (36, [(3, .int 0), (0, .ref 78), (1, .int p_law), (2, .int v2_5)], [], zh, M6)) rfl trivial ?_
      refine zF_same (s' := (36, [(0, .ref 78), (1, .int p_law), (2, .int v2_5), (3, .int 0)], [], zh, M6)) rfl ?_
      refine zlp_ind (P := fun (v : Int32 × zM) r => zF S 2 (36, [(0, .ref 78), (1, .int p_law), (2, .int v2_5), (3, .int v.1)], [], zh, v.2) (none) (r)) ?_ _ _ _ h
      intro rec17 hrec17 v r h
      obtain ⟨v3_15, M16⟩ := v
      unfold qD_prepare_L36 at h
      dsimp only at h
      show zF S 2 (36, [(0, .ref 78), (1, .int p_law), (2, .int v2_5), (3, .int v3_15)], [], zh, M16) _ _
      refine zF_go (n := 3) (ps := []) (s' := (41, [(0, .ref 78), (1, .int p_law), (2, .int v2_5), (3, .int v3_15)], [.int (M16 78 5), .int v3_15], zh, M16)) rfl trivial ?_
      refine zF_ge (t := 79) (u := (44, [(0, .ref 78), (1, .int p_law), (2, .int v2_5), (3, .int v3_15)], [], zh, M16)) rfl (fun c28 => ?_) (fun c28 => ?_)
      · rw [if_neg c28] at h
        refine zF_go (n := 2) (ps := []) (s' := (29, [(2, .int (v2_5 + 1)), (0, .ref 78), (1, .int p_law), (3, .int v3_15)], [], zh, M16)) rfl trivial ?_
        exact zF_as (hrec7 _ _ h) rfl
      · rw [if_pos c28] at h
        refine zF_go (n := 4) (ps := []) (s' := (50, [(0, .ref 78), (1, .int p_law), (2, .int v2_5), (3, .int v3_15)], [.int v3_15, .int v2_5, .ref 63], zh, M16)) rfl trivial ?_
        obtain ⟨M18, e29, h⟩ := zb_some h
        refine zF_call (y' := 21) (as := [.ref 63, .int v2_5, .int v3_15]) (u := (53, [(0, .ref 78), (1, .int p_law), (2, .int v2_5), (3, .int v3_15)], [], zh, M16)) rfl ⟨rfl, rfl⟩ rfl (qG_putRow_ok (S := S) (M := M16) e29) ?_
        show zF S 2 (53, [(0, .ref 78), (1, .int p_law), (2, .int v2_5), (3, .int v3_15)], [], zh, M18) _ _
        refine zF_go (n := 11) (ps := []) (s' := (69, [(0, .ref 78), (1, .int p_law), (2, .int v2_5), (3, .int v3_15)], [.int p_law, .int v2_5, .ref 63, .int ((v2_5 * 81) + v3_15), .ref 82], zh, M18)) rfl trivial ?_
        obtain ⟨x19, e30, h⟩ := zb_some h
        refine zF_call (y' := 24) (as := [.ref 63, .int v2_5, .int p_law]) (u := (72, [(0, .ref 78), (1, .int p_law), (2, .int v2_5), (3, .int v3_15)], [.int ((v2_5 * 81) + v3_15), .ref 82], zh, M18)) rfl ⟨rfl, rfl⟩ rfl (qG_isLawful_ok (S := S) (M := M18) e30) ?_
        show zF S 2 (72, [(0, .ref 78), (1, .int p_law), (2, .int v2_5), (3, .int v3_15)], [.int x19, .int ((v2_5 * 81) + v3_15), .ref 82], zh, M18) _ _
        obtain ⟨g31, h⟩ := zq_some h
        obtain ⟨g32, h⟩ := zq_some h
        refine zF_go (n := 3) (ps := [vp_in ((v2_5 * 81) + v3_15) 162, x19 = 0 ∨ x19 = 1]) (s' := (36, [(3, .int (v3_15 + 1)), (0, .ref 78), (1, .int p_law), (2, .int v2_5)], [], zh, (zw M18 82 ((v2_5 * 81) + v3_15).toNatClampNeg x19))) rfl ⟨g31, g32, trivial⟩ ?_
        exact zF_as (hrec17 _ _ h) rfl
  refine zF_ne (t := 27) (u := (18, [(0, .ref 78), (1, .int p_law)], [], zh, (zw M 78 5 x1))) rfl (fun c33 => ?_) (fun c33 => ?_)
  · rw [if_neg c33] at g21
    cases g21
    exact zF_as hk22 rfl
  · rw [if_pos c33] at g21
    refine zF_go (n := 1) (ps := []) (s' := (19, [(0, .ref 78), (1, .int p_law)], [.ref 78], zh, (zw M 78 5 x1))) rfl trivial ?_
    obtain ⟨M4, e34, g21⟩ := zb_some g21
    refine zF_call (y' := 3) (as := [.ref 78]) (u := (22, [(0, .ref 78), (1, .int p_law)], [], zh, (zw M 78 5 x1))) rfl ⟨rfl, rfl⟩ rfl (qD_fillTables_ok (S := S) (M := (zw M 78 5 x1)) e34) ?_
    show zF S 2 (22, [(0, .ref 78), (1, .int p_law)], [], zh, M4) _ _
    refine zF_go (n := 3) (ps := [(1 : Int32) = 0 ∨ (1 : Int32) = 1]) (s' := (27, [(0, .ref 78), (1, .int p_law)], [], zh, (zw M4 78 6 1))) rfl ⟨(Or.inr rfl), trivial⟩ ?_
    cases g21
    exact zF_as hk22 rfl
noncomputable def qD_couldHaveMore (M : zM) (p_shop : Int32) (p_own : Int32) (p_others : Int32) : Option (Int32) :=
  zq (vp_in ((p_shop * 81) + p_others) 162) <| zb (qD_leftBy M p_shop (M 83 ((p_shop * 81) + p_others).toNatClampNeg) p_others) fun x1 =>
  zb (qD_leftBy M p_shop p_own p_others) fun x2 =>
  if x2 < x1 then
    (some 1)
  else
    (some 0)
set_option maxRecDepth 20000 in
set_option maxHeartbeats 4000000 in
theorem qD_couldHaveMore_ok {S : zSc} {M : zM} {p_shop : Int32} {p_own : Int32} {p_others : Int32} {r : Int32} (h : qD_couldHaveMore M p_shop p_own p_others = some r) : zF S 6 (0, [(0, .ref 78), (1, .int p_shop), (2, .int p_own), (3, .int p_others)], [], zh, M) (some (.int r)) (M) := by
  unfold qD_couldHaveMore at h
  obtain ⟨g3, h⟩ := zq_some h
  refine zF_go (n := 13) (ps := [vp_in ((p_shop * 81) + p_others) 162]) (s' := (18, [(4, .int (M 83 ((p_shop * 81) + p_others).toNatClampNeg)), (0, .ref 78), (1, .int p_shop), (2, .int p_own), (3, .int p_others)], [.int p_others, .int (M 83 ((p_shop * 81) + p_others).toNatClampNeg), .int p_shop, .ref 78], zh, M)) rfl ⟨g3, trivial⟩ ?_
  obtain ⟨x1, e4, h⟩ := zb_some h
  refine zF_call (y' := 4) (as := [.ref 78, .int p_shop, .int (M 83 ((p_shop * 81) + p_others).toNatClampNeg), .int p_others]) (u := (21, [(4, .int (M 83 ((p_shop * 81) + p_others).toNatClampNeg)), (0, .ref 78), (1, .int p_shop), (2, .int p_own), (3, .int p_others)], [], zh, M)) rfl ⟨rfl, rfl⟩ rfl (qD_leftBy_ok (S := S) (M := M) e4) ?_
  show zF S 6 (21, [(4, .int (M 83 ((p_shop * 81) + p_others).toNatClampNeg)), (0, .ref 78), (1, .int p_shop), (2, .int p_own), (3, .int p_others)], [.int x1], zh, M) _ _
  refine zF_go (n := 4) (ps := []) (s' := (25, [(4, .int (M 83 ((p_shop * 81) + p_others).toNatClampNeg)), (0, .ref 78), (1, .int p_shop), (2, .int p_own), (3, .int p_others)], [.int p_others, .int p_own, .int p_shop, .ref 78, .int x1], zh, M)) rfl trivial ?_
  obtain ⟨x2, e5, h⟩ := zb_some h
  refine zF_call (y' := 4) (as := [.ref 78, .int p_shop, .int p_own, .int p_others]) (u := (28, [(4, .int (M 83 ((p_shop * 81) + p_others).toNatClampNeg)), (0, .ref 78), (1, .int p_shop), (2, .int p_own), (3, .int p_others)], [.int x1], zh, M)) rfl ⟨rfl, rfl⟩ rfl (qD_leftBy_ok (S := S) (M := M) e5) ?_
  show zF S 6 (28, [(4, .int (M 83 ((p_shop * 81) + p_others).toNatClampNeg)), (0, .ref 78), (1, .int p_shop), (2, .int p_own), (3, .int p_others)], [.int x2, .int x1], zh, M) _ _
  refine zF_le (t := 35) (u := (31, [(4, .int (M 83 ((p_shop * 81) + p_others).toNatClampNeg)), (0, .ref 78), (1, .int p_shop), (2, .int p_own), (3, .int p_others)], [], zh, M)) rfl (fun c6 => ?_) (fun c6 => ?_)
  · rw [if_neg c6] at h
    refine zF_go (n := 1) (ps := []) (s' := (36, [(4, .int (M 83 ((p_shop * 81) + p_others).toNatClampNeg)), (0, .ref 78), (1, .int p_shop), (2, .int p_own), (3, .int p_others)], [.int 0], zh, M)) rfl trivial ?_
    cases h
    exact zF_ret rfl ⟨(Or.inl rfl), trivial⟩
  · rw [if_pos c6] at h
    refine zF_go (n := 2) (ps := []) (s' := (36, [(4, .int (M 83 ((p_shop * 81) + p_others).toNatClampNeg)), (0, .ref 78), (1, .int p_shop), (2, .int p_own), (3, .int p_others)], [.int 1], zh, M)) rfl trivial ?_
    cases h
    exact zF_ret rfl ⟨(Or.inr rfl), trivial⟩
noncomputable def qD_isRest (M : zM) (p_here : Int32) (p_there : Int32) : Option (Int32) :=
  zq (vp_in p_here 162) <| if (M 82 p_here.toNatClampNeg) = 0 then
    (some 0)
  else
    (zq (vp_in (81 + p_there) 162) <| if (M 82 (81 + p_there).toNatClampNeg) = 0 then
      (some 0)
    else
      (zb (qD_couldHaveMore M 0 p_here p_there) fun x1 =>
      if x1 = 0 then
        (zb (qD_couldHaveMore M 1 p_there p_here) fun x2 =>
        if x2 = 0 then
          (some 1)
        else
          (some 0))
      else
        (some 0)))
set_option maxRecDepth 20000 in
set_option maxHeartbeats 4000000 in
theorem qD_isRest_ok {S : zSc} {M : zM} {p_here : Int32} {p_there : Int32} {r : Int32} (h : qD_isRest M p_here p_there = some r) : zF S 7 (0, [(0, .ref 78), (1, .int p_here), (2, .int p_there)], [], zh, M) (some (.int r)) (M) := by
  unfold qD_isRest at h
  obtain ⟨g3, h⟩ := zq_some h
  refine zF_go (n := 4) (ps := [vp_in p_here 162]) (s' := (6, [(0, .ref 78), (1, .int p_here), (2, .int p_there)], [.int (M 82 p_here.toNatClampNeg)], zh, M)) rfl ⟨g3, trivial⟩ ?_
  refine zF_eq (t := 45) (u := (9, [(0, .ref 78), (1, .int p_here), (2, .int p_there)], [], zh, M)) rfl (fun c4 => ?_) (fun c4 => ?_)
  · rw [if_pos c4] at h
    refine zF_go (n := 1) (ps := []) (s' := (46, [], [.int 0], zh, M)) rfl trivial ?_
    cases h
    exact zF_ret rfl ⟨(Or.inl rfl), trivial⟩
  · rw [if_neg c4] at h
    obtain ⟨g5, h⟩ := zq_some h
    refine zF_go (n := 6) (ps := [vp_in (81 + p_there) 162]) (s' := (18, [(0, .ref 78), (1, .int p_here), (2, .int p_there)], [.int (M 82 (81 + p_there).toNatClampNeg)], zh, M)) rfl ⟨g5, trivial⟩ ?_
    refine zF_eq (t := 45) (u := (21, [(0, .ref 78), (1, .int p_here), (2, .int p_there)], [], zh, M)) rfl (fun c6 => ?_) (fun c6 => ?_)
    · rw [if_pos c6] at h
      refine zF_go (n := 1) (ps := []) (s' := (46, [], [.int 0], zh, M)) rfl trivial ?_
      cases h
      exact zF_ret rfl ⟨(Or.inl rfl), trivial⟩
    · rw [if_neg c6] at h
      refine zF_go (n := 4) (ps := []) (s' := (25, [(0, .ref 78), (1, .int p_here), (2, .int p_there)], [.int p_there, .int p_here, .int 0, .ref 78], zh, M)) rfl trivial ?_
      obtain ⟨x1, e7, h⟩ := zb_some h
      refine zF_call (y' := 6) (as := [.ref 78, .int 0, .int p_here, .int p_there]) (u := (28, [(0, .ref 78), (1, .int p_here), (2, .int p_there)], [], zh, M)) rfl ⟨rfl, rfl⟩ rfl (qD_couldHaveMore_ok (S := S) (M := M) e7) ?_
      show zF S 7 (28, [(0, .ref 78), (1, .int p_here), (2, .int p_there)], [.int x1], zh, M) _ _
      refine zF_ne (t := 45) (u := (31, [(0, .ref 78), (1, .int p_here), (2, .int p_there)], [], zh, M)) rfl (fun c8 => ?_) (fun c8 => ?_)
      · rw [if_neg c8] at h
        refine zF_go (n := 1) (ps := []) (s' := (46, [], [.int 0], zh, M)) rfl trivial ?_
        cases h
        exact zF_ret rfl ⟨(Or.inl rfl), trivial⟩
      · rw [if_pos c8] at h
        refine zF_go (n := 4) (ps := []) (s' := (35, [(0, .ref 78), (1, .int p_here), (2, .int p_there)], [.int p_here, .int p_there, .int 1, .ref 78], zh, M)) rfl trivial ?_
        obtain ⟨x2, e9, h⟩ := zb_some h
        refine zF_call (y' := 6) (as := [.ref 78, .int 1, .int p_there, .int p_here]) (u := (38, [(0, .ref 78), (1, .int p_here), (2, .int p_there)], [], zh, M)) rfl ⟨rfl, rfl⟩ rfl (qD_couldHaveMore_ok (S := S) (M := M) e9) ?_
        show zF S 7 (38, [(0, .ref 78), (1, .int p_here), (2, .int p_there)], [.int x2], zh, M) _ _
        refine zF_ne (t := 45) (u := (41, [(0, .ref 78), (1, .int p_here), (2, .int p_there)], [], zh, M)) rfl (fun c10 => ?_) (fun c10 => ?_)
        · rw [if_neg c10] at h
          refine zF_go (n := 1) (ps := []) (s' := (46, [], [.int 0], zh, M)) rfl trivial ?_
          cases h
          exact zF_ret rfl ⟨(Or.inl rfl), trivial⟩
        · rw [if_pos c10] at h
          refine zF_go (n := 2) (ps := []) (s' := (46, [(0, .ref 78), (1, .int p_here), (2, .int p_there)], [.int 1], zh, M)) rfl trivial ?_
          cases h
          exact zF_ret rfl ⟨(Or.inr rfl), trivial⟩
noncomputable def qD_findRest_L15 (M : zM) (v3_2 : Int32) (p_i : Int32) (rec3 : (Int32 × Int32) → Option (Int32)) (rec6 : (Int32 × Int32) → Option (Int32)) (v : Int32 × Int32) : Option (Int32) := match v with
  | (v2_4, v4_5) =>
    if v4_5 < (M 78 5) then
      (zb (qD_isRest M v3_2 v4_5) fun x7 =>
      if x7 = 0 then
        (rec6 (v2_4, (v4_5 + 1)))
      else
        (if v2_4 = p_i then
          (some ((v3_2 * 100) + v4_5))
        else
          (rec6 ((v2_4 + 1), (v4_5 + 1)))))
    else
      (rec3 (v2_4, (v3_2 + 1)))
noncomputable def qD_findRest_L4 (M : zM) (p_i : Int32) (rec3 : (Int32 × Int32) → Option (Int32)) (v : Int32 × Int32) : Option (Int32) := match v with
  | (v2_1, v3_2) =>
    if v3_2 < (M 78 5) then
      (zlp (qD_findRest_L15 M v3_2 p_i rec3) zfu (v2_1, 0))
    else
      (some (-6))
noncomputable def qD_findRest (M : zM) (p_i : Int32) : Option (Int32) :=
  zlp (qD_findRest_L4 M p_i) zfu (0, 0)
set_option maxRecDepth 20000 in
set_option maxHeartbeats 4000000 in
theorem qD_findRest_ok {S : zSc} {M : zM} {p_i : Int32} {r : Int32} (h : qD_findRest M p_i = some r) : zF S 9 (0, [(0, .ref 78), (1, .int p_i)], [], zh, M) (some (.int r)) (M) := by
  unfold qD_findRest at h
  refine zF_go (n := 4) (ps := []) (s' := (4, [(3, .int 0), (2, .int 0), (0, .ref 78), (1, .int p_i)], [], zh, M)) rfl trivial ?_
  refine zF_same (s' := (4, [(0, .ref 78), (1, .int p_i), (2, .int 0), (3, .int 0)], [], zh, M)) rfl ?_
  refine zlp_ind (P := fun (v : Int32 × Int32) r => zF S 9 (4, [(0, .ref 78), (1, .int p_i), (2, .int v.1), (3, .int v.2)], [], zh, M) (some (.int r)) (M)) ?_ _ _ _ h
  intro rec3 hrec3 v r h
  obtain ⟨v2_1, v3_2⟩ := v
  unfold qD_findRest_L4 at h
  dsimp only at h
  show zF S 9 (4, [(0, .ref 78), (1, .int p_i), (2, .int v2_1), (3, .int v3_2)], [], zh, M) _ _
  refine zF_go (n := 3) (ps := []) (s' := (9, [(0, .ref 78), (1, .int p_i), (2, .int v2_1), (3, .int v3_2)], [.int (M 78 5), .int v3_2], zh, M)) rfl trivial ?_
  refine zF_ge (t := 62) (u := (12, [(0, .ref 78), (1, .int p_i), (2, .int v2_1), (3, .int v3_2)], [], zh, M)) rfl (fun c8 => ?_) (fun c8 => ?_)
  · rw [if_neg c8] at h
    refine zF_go (n := 1) (ps := []) (s' := (64, [(0, .ref 78), (1, .int p_i), (2, .int v2_1), (3, .int v3_2)], [.int (-6)], zh, M)) rfl trivial ?_
    cases h
    exact zF_ret rfl trivial
  · rw [if_pos c8] at h
    refine zF_go (n := 2) (ps := []) (s' := (15, [(4, .int 0), (0, .ref 78), (1, .int p_i), (2, .int v2_1), (3, .int v3_2)], [], zh, M)) rfl trivial ?_
    refine zF_same (s' := (15, [(0, .ref 78), (1, .int p_i), (2, .int v2_1), (3, .int v3_2), (4, .int 0)], [], zh, M)) rfl ?_
    refine zlp_ind (P := fun (v : Int32 × Int32) r => zF S 9 (15, [(0, .ref 78), (1, .int p_i), (2, .int v.1), (3, .int v3_2), (4, .int v.2)], [], zh, M) (some (.int r)) (M)) ?_ _ _ _ h
    intro rec6 hrec6 v r h
    obtain ⟨v2_4, v4_5⟩ := v
    unfold qD_findRest_L15 at h
    dsimp only at h
    show zF S 9 (15, [(0, .ref 78), (1, .int p_i), (2, .int v2_4), (3, .int v3_2), (4, .int v4_5)], [], zh, M) _ _
    refine zF_go (n := 3) (ps := []) (s' := (21, [(0, .ref 78), (1, .int p_i), (2, .int v2_4), (3, .int v3_2), (4, .int v4_5)], [.int (M 78 5), .int v4_5], zh, M)) rfl trivial ?_
    refine zF_ge (t := 56) (u := (24, [(0, .ref 78), (1, .int p_i), (2, .int v2_4), (3, .int v3_2), (4, .int v4_5)], [], zh, M)) rfl (fun c9 => ?_) (fun c9 => ?_)
    · rw [if_neg c9] at h
      refine zF_go (n := 2) (ps := []) (s' := (4, [(3, .int (v3_2 + 1)), (0, .ref 78), (1, .int p_i), (2, .int v2_4), (4, .int v4_5)], [], zh, M)) rfl trivial ?_
      exact zF_as (hrec3 _ _ h) rfl
    · rw [if_pos c9] at h
      refine zF_go (n := 3) (ps := []) (s' := (28, [(0, .ref 78), (1, .int p_i), (2, .int v2_4), (3, .int v3_2), (4, .int v4_5)], [.int v4_5, .int v3_2, .ref 78], zh, M)) rfl trivial ?_
      obtain ⟨x7, e10, h⟩ := zb_some h
      refine zF_call (y' := 7) (as := [.ref 78, .int v3_2, .int v4_5]) (u := (31, [(0, .ref 78), (1, .int p_i), (2, .int v2_4), (3, .int v3_2), (4, .int v4_5)], [], zh, M)) rfl ⟨rfl, rfl⟩ rfl (qD_isRest_ok (S := S) (M := M) e10) ?_
      show zF S 9 (31, [(0, .ref 78), (1, .int p_i), (2, .int v2_4), (3, .int v3_2), (4, .int v4_5)], [.int x7], zh, M) _ _
      refine zF_eq (t := 50) (u := (34, [(0, .ref 78), (1, .int p_i), (2, .int v2_4), (3, .int v3_2), (4, .int v4_5)], [], zh, M)) rfl (fun c11 => ?_) (fun c11 => ?_)
      · rw [if_pos c11] at h
        refine zF_go (n := 2) (ps := []) (s' := (15, [(4, .int (v4_5 + 1)), (0, .ref 78), (1, .int p_i), (2, .int v2_4), (3, .int v3_2)], [], zh, M)) rfl trivial ?_
        exact zF_as (hrec6 _ _ h) rfl
      · rw [if_neg c11] at h
        refine zF_go (n := 2) (ps := []) (s' := (36, [(0, .ref 78), (1, .int p_i), (2, .int v2_4), (3, .int v3_2), (4, .int v4_5)], [.int p_i, .int v2_4], zh, M)) rfl trivial ?_
        refine zF_ne (t := 47) (u := (39, [(0, .ref 78), (1, .int p_i), (2, .int v2_4), (3, .int v3_2), (4, .int v4_5)], [], zh, M)) rfl (fun c12 => ?_) (fun c12 => ?_)
        · rw [if_neg c12] at h
          refine zF_go (n := 1) (ps := []) (s' := (50, [(2, .int (v2_4 + 1)), (0, .ref 78), (1, .int p_i), (3, .int v3_2), (4, .int v4_5)], [], zh, M)) rfl trivial ?_
          refine zF_go (n := 2) (ps := []) (s' := (15, [(4, .int (v4_5 + 1)), (0, .ref 78), (1, .int p_i), (2, .int (v2_4 + 1)), (3, .int v3_2)], [], zh, M)) rfl trivial ?_
          exact zF_as (hrec6 _ _ h) rfl
        · rw [if_pos c12] at h
          refine zF_go (n := 5) (ps := []) (s' := (46, [(0, .ref 78), (1, .int p_i), (2, .int v2_4), (3, .int v3_2), (4, .int v4_5)], [.int ((v3_2 * 100) + v4_5)], zh, M)) rfl trivial ?_
          cases h
          exact zF_ret rfl trivial
noncomputable def qD_countRests_L14 (M : zM) (v2_2 : Int32) (rec3 : (Int32 × Int32) → Option (Int32)) (rec6 : (Int32 × Int32) → Option (Int32)) (v : Int32 × Int32) : Option (Int32) := match v with
  | (v1_4, v3_5) =>
    if v3_5 < (M 78 5) then
      (zb (qD_isRest M v2_2 v3_5) fun x7 =>
      if x7 = 0 then
        (rec6 (v1_4, (v3_5 + 1)))
      else
        (rec6 ((v1_4 + 1), (v3_5 + 1))))
    else
      (rec3 (v1_4, (v2_2 + 1)))
noncomputable def qD_countRests_L4 (M : zM) (rec3 : (Int32 × Int32) → Option (Int32)) (v : Int32 × Int32) : Option (Int32) := match v with
  | (v1_1, v2_2) =>
    if v2_2 < (M 78 5) then
      (zlp (qD_countRests_L14 M v2_2 rec3) zfu (v1_1, 0))
    else
      (some v1_1)
noncomputable def qD_countRests (M : zM) : Option (Int32) :=
  zlp (qD_countRests_L4 M) zfu (0, 0)
set_option maxRecDepth 20000 in
set_option maxHeartbeats 4000000 in
theorem qD_countRests_ok {S : zSc} {M : zM} {r : Int32} (h : qD_countRests M = some r) : zF S 8 (0, [(0, .ref 78)], [], zh, M) (some (.int r)) (M) := by
  unfold qD_countRests at h
  refine zF_go (n := 4) (ps := []) (s' := (4, [(2, .int 0), (1, .int 0), (0, .ref 78)], [], zh, M)) rfl trivial ?_
  refine zF_same (s' := (4, [(0, .ref 78), (1, .int 0), (2, .int 0)], [], zh, M)) rfl ?_
  refine zlp_ind (P := fun (v : Int32 × Int32) r => zF S 8 (4, [(0, .ref 78), (1, .int v.1), (2, .int v.2)], [], zh, M) (some (.int r)) (M)) ?_ _ _ _ h
  intro rec3 hrec3 v r h
  obtain ⟨v1_1, v2_2⟩ := v
  unfold qD_countRests_L4 at h
  dsimp only at h
  show zF S 8 (4, [(0, .ref 78), (1, .int v1_1), (2, .int v2_2)], [], zh, M) _ _
  refine zF_go (n := 3) (ps := []) (s' := (9, [(0, .ref 78), (1, .int v1_1), (2, .int v2_2)], [.int (M 78 5), .int v2_2], zh, M)) rfl trivial ?_
  refine zF_ge (t := 46) (u := (12, [(0, .ref 78), (1, .int v1_1), (2, .int v2_2)], [], zh, M)) rfl (fun c8 => ?_) (fun c8 => ?_)
  · rw [if_neg c8] at h
    refine zF_go (n := 1) (ps := []) (s' := (47, [(0, .ref 78), (1, .int v1_1), (2, .int v2_2)], [.int v1_1], zh, M)) rfl trivial ?_
    cases h
    exact zF_ret rfl trivial
  · rw [if_pos c8] at h
    refine zF_go (n := 2) (ps := []) (s' := (14, [(3, .int 0), (0, .ref 78), (1, .int v1_1), (2, .int v2_2)], [], zh, M)) rfl trivial ?_
    refine zF_same (s' := (14, [(0, .ref 78), (1, .int v1_1), (2, .int v2_2), (3, .int 0)], [], zh, M)) rfl ?_
    refine zlp_ind (P := fun (v : Int32 × Int32) r => zF S 8 (14, [(0, .ref 78), (1, .int v.1), (2, .int v2_2), (3, .int v.2)], [], zh, M) (some (.int r)) (M)) ?_ _ _ _ h
    intro rec6 hrec6 v r h
    obtain ⟨v1_4, v3_5⟩ := v
    unfold qD_countRests_L14 at h
    dsimp only at h
    show zF S 8 (14, [(0, .ref 78), (1, .int v1_4), (2, .int v2_2), (3, .int v3_5)], [], zh, M) _ _
    refine zF_go (n := 3) (ps := []) (s' := (19, [(0, .ref 78), (1, .int v1_4), (2, .int v2_2), (3, .int v3_5)], [.int (M 78 5), .int v3_5], zh, M)) rfl trivial ?_
    refine zF_ge (t := 40) (u := (22, [(0, .ref 78), (1, .int v1_4), (2, .int v2_2), (3, .int v3_5)], [], zh, M)) rfl (fun c9 => ?_) (fun c9 => ?_)
    · rw [if_neg c9] at h
      refine zF_go (n := 2) (ps := []) (s' := (4, [(2, .int (v2_2 + 1)), (0, .ref 78), (1, .int v1_4), (3, .int v3_5)], [], zh, M)) rfl trivial ?_
      exact zF_as (hrec3 _ _ h) rfl
    · rw [if_pos c9] at h
      refine zF_go (n := 3) (ps := []) (s' := (25, [(0, .ref 78), (1, .int v1_4), (2, .int v2_2), (3, .int v3_5)], [.int v3_5, .int v2_2, .ref 78], zh, M)) rfl trivial ?_
      obtain ⟨x7, e10, h⟩ := zb_some h
      refine zF_call (y' := 7) (as := [.ref 78, .int v2_2, .int v3_5]) (u := (28, [(0, .ref 78), (1, .int v1_4), (2, .int v2_2), (3, .int v3_5)], [], zh, M)) rfl ⟨rfl, rfl⟩ rfl (qD_isRest_ok (S := S) (M := M) e10) ?_
      show zF S 8 (28, [(0, .ref 78), (1, .int v1_4), (2, .int v2_2), (3, .int v3_5)], [.int x7], zh, M) _ _
      refine zF_eq (t := 34) (u := (31, [(0, .ref 78), (1, .int v1_4), (2, .int v2_2), (3, .int v3_5)], [], zh, M)) rfl (fun c11 => ?_) (fun c11 => ?_)
      · rw [if_pos c11] at h
        refine zF_go (n := 2) (ps := []) (s' := (14, [(3, .int (v3_5 + 1)), (0, .ref 78), (1, .int v1_4), (2, .int v2_2)], [], zh, M)) rfl trivial ?_
        exact zF_as (hrec6 _ _ h) rfl
      · rw [if_neg c11] at h
        refine zF_go (n := 1) (ps := []) (s' := (34, [(1, .int (v1_4 + 1)), (0, .ref 78), (2, .int v2_2), (3, .int v3_5)], [], zh, M)) rfl trivial ?_
        refine zF_go (n := 2) (ps := []) (s' := (14, [(3, .int (v3_5 + 1)), (0, .ref 78), (1, .int (v1_4 + 1)), (2, .int v2_2)], [], zh, M)) rfl trivial ?_
        exact zF_as (hrec6 _ _ h) rfl
noncomputable def qS_rest (M : zM) (p_i : Int32) : Option (Int32 × zM) :=
  zb (qS_forbidsAll M 0 (M 2 3)) fun x1 =>
  if x1 = 0 then
    (zb (qS_forbidsAll M 1 (M 2 3)) fun x2 =>
    if x2 = 0 then
      (zb (qS_lookAsItIs M) fun M3 =>
      zb (qD_prepare M3 (M3 2 3)) fun M4 =>
      if p_i = (-1) then
        (zb (qD_countRests M4) fun x6 =>
        some (x6, M4))
      else
        (zb (qD_findRest M4 p_i) fun x5 =>
        some (x5, M4)))
    else
      (some ((-5), M)))
  else
    (some ((-5), M))
set_option maxRecDepth 20000 in
set_option maxHeartbeats 4000000 in
theorem qS_rest_ok {S : zSc} {M : zM} {p_i : Int32} {r : Int32 × zM} (h : qS_rest M p_i = some r) : zF S 111 (0, [(0, .ref 1), (1, .int p_i)], [], zh, M) (some (.int r.1)) (r.2) := by
  unfold qS_rest at h
  refine zF_go (n := 5) (ps := []) (s' := (9, [(0, .ref 1), (1, .int p_i)], [.int (M 2 3), .int 0, .ref 1], zh, M)) rfl trivial ?_
  obtain ⟨x1, e7, h⟩ := zb_some h
  refine zF_call (y' := 130) (as := [.ref 1, .int 0, .int (M 2 3)]) (u := (12, [(0, .ref 1), (1, .int p_i)], [], zh, M)) rfl ⟨rfl, rfl⟩ rfl (qS_forbidsAll_ok (S := S) (M := M) e7) ?_
  show zF S 111 (12, [(0, .ref 1), (1, .int p_i)], [.int x1], zh, M) _ _
  refine zF_ne (t := 30) (u := (15, [(0, .ref 1), (1, .int p_i)], [], zh, M)) rfl (fun c8 => ?_) (fun c8 => ?_)
  · rw [if_neg c8] at h
    refine zF_go (n := 1) (ps := []) (s' := (32, [], [.int (-5)], zh, M)) rfl trivial ?_
    cases h
    exact zF_ret rfl trivial
  · rw [if_pos c8] at h
    refine zF_go (n := 5) (ps := []) (s' := (24, [(0, .ref 1), (1, .int p_i)], [.int (M 2 3), .int 1, .ref 1], zh, M)) rfl trivial ?_
    obtain ⟨x2, e9, h⟩ := zb_some h
    refine zF_call (y' := 130) (as := [.ref 1, .int 1, .int (M 2 3)]) (u := (27, [(0, .ref 1), (1, .int p_i)], [], zh, M)) rfl ⟨rfl, rfl⟩ rfl (qS_forbidsAll_ok (S := S) (M := M) e9) ?_
    show zF S 111 (27, [(0, .ref 1), (1, .int p_i)], [.int x2], zh, M) _ _
    refine zF_eq (t := 33) (u := (30, [(0, .ref 1), (1, .int p_i)], [], zh, M)) rfl (fun c10 => ?_) (fun c10 => ?_)
    · rw [if_pos c10] at h
      refine zF_go (n := 1) (ps := []) (s' := (34, [(0, .ref 1), (1, .int p_i)], [.ref 1], zh, M)) rfl trivial ?_
      obtain ⟨M3, e11, h⟩ := zb_some h
      refine zF_call (y' := 132) (as := [.ref 1]) (u := (37, [(0, .ref 1), (1, .int p_i)], [], zh, M)) rfl ⟨rfl, rfl⟩ rfl (qS_lookAsItIs_ok (S := S) (M := M) e11) ?_
      show zF S 111 (37, [(0, .ref 1), (1, .int p_i)], [], zh, M3) _ _
      refine zF_go (n := 5) (ps := []) (s' := (48, [(0, .ref 1), (1, .int p_i)], [.int (M3 2 3), .ref 78], zh, M3)) rfl trivial ?_
      obtain ⟨M4, e12, h⟩ := zb_some h
      refine zF_call (y' := 2) (as := [.ref 78, .int (M3 2 3)]) (u := (51, [(0, .ref 1), (1, .int p_i)], [], zh, M3)) rfl ⟨rfl, rfl⟩ rfl (qD_prepare_ok (S := S) (M := M3) e12) ?_
      show zF S 111 (51, [(0, .ref 1), (1, .int p_i)], [], zh, M4) _ _
      refine zF_go (n := 2) (ps := []) (s' := (53, [(0, .ref 1), (1, .int p_i)], [.int (-1), .int p_i], zh, M4)) rfl trivial ?_
      refine zF_ne (t := 66) (u := (56, [(0, .ref 1), (1, .int p_i)], [], zh, M4)) rfl (fun c13 => ?_) (fun c13 => ?_)
      · rw [if_neg c13] at h
        refine zF_go (n := 3) (ps := []) (s' := (71, [(0, .ref 1), (1, .int p_i)], [.int p_i, .ref 78], zh, M4)) rfl trivial ?_
        obtain ⟨x5, e14, h⟩ := zb_some h
        refine zF_call (y' := 9) (as := [.ref 78, .int p_i]) (u := (74, [(0, .ref 1), (1, .int p_i)], [], zh, M4)) rfl ⟨rfl, rfl⟩ rfl (qD_findRest_ok (S := S) (M := M4) e14) ?_
        show zF S 111 (74, [(0, .ref 1), (1, .int p_i)], [.int x5], zh, M4) _ _
        cases h
        exact zF_ret rfl trivial
      · rw [if_pos c13] at h
        refine zF_go (n := 2) (ps := []) (s' := (60, [(0, .ref 1), (1, .int p_i)], [.ref 78], zh, M4)) rfl trivial ?_
        obtain ⟨x6, e15, h⟩ := zb_some h
        refine zF_call (y' := 8) (as := [.ref 78]) (u := (63, [(0, .ref 1), (1, .int p_i)], [], zh, M4)) rfl ⟨rfl, rfl⟩ rfl (qD_countRests_ok (S := S) (M := M4) e15) ?_
        show zF S 111 (63, [(0, .ref 1), (1, .int p_i)], [.int x6], zh, M4) _ _
        refine zF_go (n := 1) (ps := []) (s' := (74, [(0, .ref 1), (1, .int p_i)], [.int x6], zh, M4)) rfl trivial ?_
        cases h
        exact zF_ret rfl trivial
    · rw [if_neg c10] at h
      refine zF_go (n := 1) (ps := []) (s' := (32, [], [.int (-5)], zh, M)) rfl trivial ?_
      cases h
      exact zF_ret rfl trivial
noncomputable def qM_at (p_shop : Int32) (p_one : Int32) (p_two : Int32) : Option (Int32) :=
  some (((6561 * p_shop) + (81 * p_one)) + p_two)
set_option maxRecDepth 20000 in
set_option maxHeartbeats 4000000 in
theorem qM_at_ok {S : zSc} {M : zM} {p_shop : Int32} {p_one : Int32} {p_two : Int32} {r : Int32} (h : qM_at p_shop p_one p_two = some r) : zF S 188 (0, [(0, .int p_shop), (1, .int p_one), (2, .int p_two)], [], zh, M) (some (.int r)) (M) := by
  unfold qM_at at h
  refine zF_go (n := 9) (ps := []) (s' := (12, [(0, .int p_shop), (1, .int p_one), (2, .int p_two)], [.int (((6561 * p_shop) + (81 * p_one)) + p_two)], zh, M)) rfl trivial ?_
  cases h
  exact zF_ret rfl trivial
end ZT
