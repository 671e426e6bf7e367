section ZT
noncomputable def qM_sort (M : zM) (p_many : Int32) (p_far : Int32) (p_other : Int32) (p_way : Int32) : Option (Int32 × zM) :=
  zb (qM_in p_many.toInt64 1 99) fun x1 =>
  if x1 = 0 then
    (some ((-2), M))
  else
    (zb (qM_isPrice p_far) fun x2 =>
    if x2 = 0 then
      (some ((-2), M))
    else
      (zb (qM_isPrice p_other) fun x3 =>
      if x3 = 0 then
        (some ((-2), M))
      else
        (zb (qM_in p_way.toInt64 0 2) fun x4 =>
        if x4 = 0 then
          (some ((-2), M))
        else
          (if (M 86 14) = 5 then
            (some ((-4), M))
          else
            (zq (vp_in (M 86 14) 5) <| zq (vp_in (2 * (M 86 14)) 10) <| zq (vp_in ((2 * (M 86 14)) + 1) 10) <| zq (vp_in (M 86 14) 5) <| zq (vp_in (M 86 14) 5) <| zb (qM_clearList (zw (zw (zw (zw (zw M 93 (M 86 14).toNatClampNeg p_many) 94 (2 * (M 86 14)).toNatClampNeg p_far) 94 ((2 * (M 86 14)) + 1).toNatClampNeg p_other) 95 (M 86 14).toNatClampNeg p_way) 96 (M 86 14).toNatClampNeg 0) (M 86 14)) fun M5 =>
            some ((((zw M5 86 14 ((M5 86 14) + 1)) 86 14) - 1), (zw M5 86 14 ((M5 86 14) + 1))))))))
set_option maxRecDepth 20000 in
set_option maxHeartbeats 4000000 in
theorem qM_sort_ok {S : zSc} {M : zM} {p_many : Int32} {p_far : Int32} {p_other : Int32} {p_way : Int32} {r : Int32 × zM} (h : qM_sort M p_many p_far p_other p_way = some r) : zF S 148 (0, [(0, .ref 86), (1, .int p_many), (2, .int p_far), (3, .int p_other), (4, .int p_way)], [], zh, M) (some (.int r.1)) (r.2) := by
  unfold qM_sort at h
  refine zF_go (n := 4) (ps := []) (s' := (6, [(0, .ref 86), (1, .int p_many), (2, .int p_far), (3, .int p_other), (4, .int p_way)], [.long 99, .long 1, .long p_many.toInt64], zh, M)) rfl trivial ?_
  obtain ⟨x1, e6, h⟩ := zb_some h
  refine zF_call (y' := 134) (as := [.long p_many.toInt64, .long 1, .long 99]) (u := (9, [(0, .ref 86), (1, .int p_many), (2, .int p_far), (3, .int p_other), (4, .int p_way)], [], zh, M)) rfl ⟨rfl, rfl⟩ rfl (qM_in_ok (S := S) (M := M) e6) ?_
  show zF S 148 (9, [(0, .ref 86), (1, .int p_many), (2, .int p_far), (3, .int p_other), (4, .int p_way)], [.int x1], zh, M) _ _
  refine zF_eq (t := 39) (u := (12, [(0, .ref 86), (1, .int p_many), (2, .int p_far), (3, .int p_other), (4, .int p_way)], [], zh, M)) rfl (fun c7 => ?_) (fun c7 => ?_)
  · rw [if_pos c7] at h
    refine zF_go (n := 1) (ps := []) (s' := (41, [], [.int (-2)], zh, M)) rfl trivial ?_
    cases h
    exact zF_ret rfl trivial
  · rw [if_neg c7] at h
    refine zF_go (n := 1) (ps := []) (s' := (13, [(0, .ref 86), (1, .int p_many), (2, .int p_far), (3, .int p_other), (4, .int p_way)], [.int p_far], zh, M)) rfl trivial ?_
    obtain ⟨x2, e8, h⟩ := zb_some h
    refine zF_call (y' := 139) (as := [.int p_far]) (u := (16, [(0, .ref 86), (1, .int p_many), (2, .int p_far), (3, .int p_other), (4, .int p_way)], [], zh, M)) rfl ⟨rfl, rfl⟩ rfl (qM_isPrice_ok (S := S) (M := M) e8) ?_
    show zF S 148 (16, [(0, .ref 86), (1, .int p_many), (2, .int p_far), (3, .int p_other), (4, .int p_way)], [.int x2], zh, M) _ _
    refine zF_eq (t := 39) (u := (19, [(0, .ref 86), (1, .int p_many), (2, .int p_far), (3, .int p_other), (4, .int p_way)], [], zh, M)) rfl (fun c9 => ?_) (fun c9 => ?_)
    · rw [if_pos c9] at h
      refine zF_go (n := 1) (ps := []) (s' := (41, [], [.int (-2)], zh, M)) rfl trivial ?_
      cases h
      exact zF_ret rfl trivial
    · rw [if_neg c9] at h
      refine zF_go (n := 1) (ps := []) (s' := (20, [(0, .ref 86), (1, .int p_many), (2, .int p_far), (3, .int p_other), (4, .int p_way)], [.int p_other], zh, M)) rfl trivial ?_
      obtain ⟨x3, e10, h⟩ := zb_some h
      refine zF_call (y' := 139) (as := [.int p_other]) (u := (23, [(0, .ref 86), (1, .int p_many), (2, .int p_far), (3, .int p_other), (4, .int p_way)], [], zh, M)) rfl ⟨rfl, rfl⟩ rfl (qM_isPrice_ok (S := S) (M := M) e10) ?_
      show zF S 148 (23, [(0, .ref 86), (1, .int p_many), (2, .int p_far), (3, .int p_other), (4, .int p_way)], [.int x3], zh, M) _ _
      refine zF_eq (t := 39) (u := (26, [(0, .ref 86), (1, .int p_many), (2, .int p_far), (3, .int p_other), (4, .int p_way)], [], zh, M)) rfl (fun c11 => ?_) (fun c11 => ?_)
      · rw [if_pos c11] at h
        refine zF_go (n := 1) (ps := []) (s' := (41, [], [.int (-2)], zh, M)) rfl trivial ?_
        cases h
        exact zF_ret rfl trivial
      · rw [if_neg c11] at h
        refine zF_go (n := 4) (ps := []) (s' := (33, [(0, .ref 86), (1, .int p_many), (2, .int p_far), (3, .int p_other), (4, .int p_way)], [.long 2, .long 0, .long p_way.toInt64], zh, M)) rfl trivial ?_
        obtain ⟨x4, e12, h⟩ := zb_some h
        refine zF_call (y' := 134) (as := [.long p_way.toInt64, .long 0, .long 2]) (u := (36, [(0, .ref 86), (1, .int p_many), (2, .int p_far), (3, .int p_other), (4, .int p_way)], [], zh, M)) rfl ⟨rfl, rfl⟩ rfl (qM_in_ok (S := S) (M := M) e12) ?_
        show zF S 148 (36, [(0, .ref 86), (1, .int p_many), (2, .int p_far), (3, .int p_other), (4, .int p_way)], [.int x4], zh, M) _ _
        refine zF_ne (t := 42) (u := (39, [(0, .ref 86), (1, .int p_many), (2, .int p_far), (3, .int p_other), (4, .int p_way)], [], zh, M)) rfl (fun c13 => ?_) (fun c13 => ?_)
        · rw [if_neg c13] at h
          refine zF_go (n := 3) (ps := []) (s' := (47, [(0, .ref 86), (1, .int p_many), (2, .int p_far), (3, .int p_other), (4, .int p_way)], [.int 5, .int (M 86 14)], zh, M)) rfl trivial ?_
          refine zF_ne (t := 53) (u := (50, [(0, .ref 86), (1, .int p_many), (2, .int p_far), (3, .int p_other), (4, .int p_way)], [], zh, M)) rfl (fun c14 => ?_) (fun c14 => ?_)
          · rw [if_neg c14] at h
            obtain ⟨g15, h⟩ := zq_some h
            obtain ⟨g16, h⟩ := zq_some h
            obtain ⟨g17, h⟩ := zq_some h
            obtain ⟨g18, h⟩ := zq_some h
            obtain ⟨g19, h⟩ := zq_some h
            refine zF_go (n := 39) (ps := [vp_in (M 86 14) 5, vp_in (2 * (M 86 14)) 10, vp_in ((2 * (M 86 14)) + 1) 10, vp_in (M 86 14) 5, vp_in (M 86 14) 5]) (s' := (115, [(0, .ref 86), (1, .int p_many), (2, .int p_far), (3, .int p_other), (4, .int p_way)], [.int (M 86 14), .ref 86], zh, (zw (zw (zw (zw (zw M 93 (M 86 14).toNatClampNeg p_many) 94 (2 * (M 86 14)).toNatClampNeg p_far) 94 ((2 * (M 86 14)) + 1).toNatClampNeg p_other) 95 (M 86 14).toNatClampNeg p_way) 96 (M 86 14).toNatClampNeg 0))) rfl ⟨g15, g16, g17, g18, g19, trivial⟩ ?_
            obtain ⟨M5, e20, h⟩ := zb_some h
            refine zF_call (y' := 147) (as := [.ref 86, .int (M 86 14)]) (u := (118, [(0, .ref 86), (1, .int p_many), (2, .int p_far), (3, .int p_other), (4, .int p_way)], [], zh, (zw (zw (zw (zw (zw M 93 (M 86 14).toNatClampNeg p_many) 94 (2 * (M 86 14)).toNatClampNeg p_far) 94 ((2 * (M 86 14)) + 1).toNatClampNeg p_other) 95 (M 86 14).toNatClampNeg p_way) 96 (M 86 14).toNatClampNeg 0))) rfl ⟨rfl, rfl⟩ rfl (qM_clearList_ok (S := S) (M := (zw (zw (zw (zw (zw M 93 (M 86 14).toNatClampNeg p_many) 94 (2 * (M 86 14)).toNatClampNeg p_far) 94 ((2 * (M 86 14)) + 1).toNatClampNeg p_other) 95 (M 86 14).toNatClampNeg p_way) 96 (M 86 14).toNatClampNeg 0)) e20) ?_
            show zF S 148 (118, [(0, .ref 86), (1, .int p_many), (2, .int p_far), (3, .int p_other), (4, .int p_way)], [], zh, M5) _ _
            refine zF_go (n := 10) (ps := []) (s' := (134, [(0, .ref 86), (1, .int p_many), (2, .int p_far), (3, .int p_other), (4, .int p_way)], [.int (((zw M5 86 14 ((M5 86 14) + 1)) 86 14) - 1)], zh, (zw M5 86 14 ((M5 86 14) + 1)))) rfl trivial ?_
            cases h
            exact zF_ret rfl trivial
          · rw [if_pos c14] at h
            refine zF_go (n := 1) (ps := []) (s' := (52, [(0, .ref 86), (1, .int p_many), (2, .int p_far), (3, .int p_other), (4, .int p_way)], [.int (-4)], zh, M)) rfl trivial ?_
            cases h
            exact zF_ret rfl trivial
        · rw [if_pos c13] at h
          refine zF_go (n := 1) (ps := []) (s' := (41, [], [.int (-2)], zh, M)) rfl trivial ?_
          cases h
          exact zF_ret rfl trivial
noncomputable def qS_noSort (M : zM) (p_sort : Int32) : Option (Int32) :=
  zb (qS_isOut p_sort 0 ((M 10 0) - 1)) fun x1 =>
  zq (x1 = 0 ∨ x1 = 1) <| some x1
set_option maxRecDepth 20000 in
set_option maxHeartbeats 4000000 in
theorem qS_noSort_ok {S : zSc} {M : zM} {p_sort : Int32} {r : Int32} (h : qS_noSort M p_sort = some r) : zF S 129 (0, [(0, .ref 1), (1, .int p_sort)], [], zh, M) (some (.int r)) (M) := by
  unfold qS_noSort at h
  refine zF_go (n := 8) (ps := []) (s' := (14, [(0, .ref 1), (1, .int p_sort)], [.int ((M 10 0) - 1), .int 0, .int p_sort], zh, M)) rfl trivial ?_
  obtain ⟨x1, e2, h⟩ := zb_some h
  refine zF_call (y' := 125) (as := [.int p_sort, .int 0, .int ((M 10 0) - 1)]) (u := (17, [(0, .ref 1), (1, .int p_sort)], [], zh, M)) rfl ⟨rfl, rfl⟩ rfl (qS_isOut_ok (S := S) (M := M) e2) ?_
  show zF S 129 (17, [(0, .ref 1), (1, .int p_sort)], [.int x1], zh, M) _ _
  obtain ⟨g3, h⟩ := zq_some h
  cases h
  exact zF_ret rfl ⟨g3, trivial⟩
noncomputable def qS_exchange_1_11 (M : zM) (p_place : Int32) (p_v : Int32) : Option (Int32 × zM) :=
  zb (qS_isOut p_place 0 ((Int32.ofNat 5) - 1)) fun x1 =>
  if x1 = 0 then
    (zb (qD_forget M) fun M2 =>
    zq (vp_in p_place 5) <| zq (vp_in p_place 5) <| some ((M2 11 p_place.toNatClampNeg), (zw M2 11 p_place.toNatClampNeg p_v)))
  else
    (some ((-1), M))
set_option maxRecDepth 20000 in
set_option maxHeartbeats 4000000 in
theorem qS_exchange_1_11_ok {S : zSc} {M : zM} {p_place : Int32} {p_v : Int32} {r : Int32 × zM} (h : qS_exchange_1_11 M p_place p_v = some r) : zF S 131 (0, [(0, .ref 1), (1, .ref 11), (2, .int p_place), (3, .int p_v)], [], zh, M) (some (.int r.1)) (r.2) := by
  unfold qS_exchange_1_11 at h
  refine zF_go (n := 6) (ps := []) (s' := (6, [(0, .ref 1), (1, .ref 11), (2, .int p_place), (3, .int p_v)], [.int ((Int32.ofNat 5) - 1), .int 0, .int p_place], zh, M)) rfl trivial ?_
  obtain ⟨x1, e3, h⟩ := zb_some h
  refine zF_call (y' := 125) (as := [.int p_place, .int 0, .int ((Int32.ofNat 5) - 1)]) (u := (9, [(0, .ref 1), (1, .ref 11), (2, .int p_place), (3, .int p_v)], [], zh, M)) rfl ⟨rfl, rfl⟩ rfl (qS_isOut_ok (S := S) (M := M) e3) ?_
  show zF S 131 (9, [(0, .ref 1), (1, .ref 11), (2, .int p_place), (3, .int p_v)], [.int x1], zh, M) _ _
  refine zF_eq (t := 14) (u := (12, [(0, .ref 1), (1, .ref 11), (2, .int p_place), (3, .int p_v)], [], zh, M)) rfl (fun c4 => ?_) (fun c4 => ?_)
  · rw [if_pos c4] at h
    refine zF_go (n := 2) (ps := []) (s' := (18, [(0, .ref 1), (1, .ref 11), (2, .int p_place), (3, .int p_v)], [.ref 78], zh, M)) rfl trivial ?_
    obtain ⟨M2, e5, h⟩ := zb_some h
    refine zF_call (y' := 1) (as := [.ref 78]) (u := (21, [(0, .ref 1), (1, .ref 11), (2, .int p_place), (3, .int p_v)], [], zh, M)) rfl ⟨rfl, rfl⟩ rfl (qD_forget_ok (S := S) (M := M) e5) ?_
    show zF S 131 (21, [(0, .ref 1), (1, .ref 11), (2, .int p_place), (3, .int p_v)], [], zh, M2) _ _
    obtain ⟨g6, h⟩ := zq_some h
    obtain ⟨g7, h⟩ := zq_some h
    refine zF_go (n := 9) (ps := [vp_in p_place 5, vp_in p_place 5]) (s' := (32, [(4, .int (M2 11 p_place.toNatClampNeg)), (0, .ref 1), (1, .ref 11), (2, .int p_place), (3, .int p_v)], [.int (M2 11 p_place.toNatClampNeg)], zh, (zw M2 11 p_place.toNatClampNeg p_v))) rfl ⟨g6, g7, trivial⟩ ?_
    cases h
    exact zF_ret rfl trivial
  · rw [if_neg c4] at h
    refine zF_go (n := 1) (ps := []) (s' := (13, [(0, .ref 1), (1, .ref 11), (2, .int p_place), (3, .int p_v)], [.int (-1)], zh, M)) rfl trivial ?_
    cases h
    exact zF_ret rfl trivial
noncomputable def qS_exchange_1_12 (M : zM) (p_place : Int32) (p_v : Int32) : Option (Int32 × zM) :=
  zb (qS_isOut p_place 0 ((Int32.ofNat 10) - 1)) fun x1 =>
  if x1 = 0 then
    (zb (qD_forget M) fun M2 =>
    zq (vp_in p_place 10) <| zq (vp_in p_place 10) <| some ((M2 12 p_place.toNatClampNeg), (zw M2 12 p_place.toNatClampNeg p_v)))
  else
    (some ((-1), M))
set_option maxRecDepth 20000 in
set_option maxHeartbeats 4000000 in
theorem qS_exchange_1_12_ok {S : zSc} {M : zM} {p_place : Int32} {p_v : Int32} {r : Int32 × zM} (h : qS_exchange_1_12 M p_place p_v = some r) : zF S 131 (0, [(0, .ref 1), (1, .ref 12), (2, .int p_place), (3, .int p_v)], [], zh, M) (some (.int r.1)) (r.2) := by
  unfold qS_exchange_1_12 at h
  refine zF_go (n := 6) (ps := []) (s' := (6, [(0, .ref 1), (1, .ref 12), (2, .int p_place), (3, .int p_v)], [.int ((Int32.ofNat 10) - 1), .int 0, .int p_place], zh, M)) rfl trivial ?_
  obtain ⟨x1, e3, h⟩ := zb_some h
  refine zF_call (y' := 125) (as := [.int p_place, .int 0, .int ((Int32.ofNat 10) - 1)]) (u := (9, [(0, .ref 1), (1, .ref 12), (2, .int p_place), (3, .int p_v)], [], zh, M)) rfl ⟨rfl, rfl⟩ rfl (qS_isOut_ok (S := S) (M := M) e3) ?_
  show zF S 131 (9, [(0, .ref 1), (1, .ref 12), (2, .int p_place), (3, .int p_v)], [.int x1], zh, M) _ _
  refine zF_eq (t := 14) (u := (12, [(0, .ref 1), (1, .ref 12), (2, .int p_place), (3, .int p_v)], [], zh, M)) rfl (fun c4 => ?_) (fun c4 => ?_)
  · rw [if_pos c4] at h
    refine zF_go (n := 2) (ps := []) (s' := (18, [(0, .ref 1), (1, .ref 12), (2, .int p_place), (3, .int p_v)], [.ref 78], zh, M)) rfl trivial ?_
    obtain ⟨M2, e5, h⟩ := zb_some h
    refine zF_call (y' := 1) (as := [.ref 78]) (u := (21, [(0, .ref 1), (1, .ref 12), (2, .int p_place), (3, .int p_v)], [], zh, M)) rfl ⟨rfl, rfl⟩ rfl (qD_forget_ok (S := S) (M := M) e5) ?_
    show zF S 131 (21, [(0, .ref 1), (1, .ref 12), (2, .int p_place), (3, .int p_v)], [], zh, M2) _ _
    obtain ⟨g6, h⟩ := zq_some h
    obtain ⟨g7, h⟩ := zq_some h
    refine zF_go (n := 9) (ps := [vp_in p_place 10, vp_in p_place 10]) (s' := (32, [(4, .int (M2 12 p_place.toNatClampNeg)), (0, .ref 1), (1, .ref 12), (2, .int p_place), (3, .int p_v)], [.int (M2 12 p_place.toNatClampNeg)], zh, (zw M2 12 p_place.toNatClampNeg p_v))) rfl ⟨g6, g7, trivial⟩ ?_
    cases h
    exact zF_ret rfl trivial
  · rw [if_neg c4] at h
    refine zF_go (n := 1) (ps := []) (s' := (13, [(0, .ref 1), (1, .ref 12), (2, .int p_place), (3, .int p_v)], [.int (-1)], zh, M)) rfl trivial ?_
    cases h
    exact zF_ret rfl trivial
noncomputable def qS_exchange_1_13 (M : zM) (p_place : Int32) (p_v : Int32) : Option (Int32 × zM) :=
  zb (qS_isOut p_place 0 ((Int32.ofNat 5) - 1)) fun x1 =>
  if x1 = 0 then
    (zb (qD_forget M) fun M2 =>
    zq (vp_in p_place 5) <| zq (vp_in p_place 5) <| some ((M2 13 p_place.toNatClampNeg), (zw M2 13 p_place.toNatClampNeg p_v)))
  else
    (some ((-1), M))
set_option maxRecDepth 20000 in
set_option maxHeartbeats 4000000 in
theorem qS_exchange_1_13_ok {S : zSc} {M : zM} {p_place : Int32} {p_v : Int32} {r : Int32 × zM} (h : qS_exchange_1_13 M p_place p_v = some r) : zF S 131 (0, [(0, .ref 1), (1, .ref 13), (2, .int p_place), (3, .int p_v)], [], zh, M) (some (.int r.1)) (r.2) := by
  unfold qS_exchange_1_13 at h
  refine zF_go (n := 6) (ps := []) (s' := (6, [(0, .ref 1), (1, .ref 13), (2, .int p_place), (3, .int p_v)], [.int ((Int32.ofNat 5) - 1), .int 0, .int p_place], zh, M)) rfl trivial ?_
  obtain ⟨x1, e3, h⟩ := zb_some h
  refine zF_call (y' := 125) (as := [.int p_place, .int 0, .int ((Int32.ofNat 5) - 1)]) (u := (9, [(0, .ref 1), (1, .ref 13), (2, .int p_place), (3, .int p_v)], [], zh, M)) rfl ⟨rfl, rfl⟩ rfl (qS_isOut_ok (S := S) (M := M) e3) ?_
  show zF S 131 (9, [(0, .ref 1), (1, .ref 13), (2, .int p_place), (3, .int p_v)], [.int x1], zh, M) _ _
  refine zF_eq (t := 14) (u := (12, [(0, .ref 1), (1, .ref 13), (2, .int p_place), (3, .int p_v)], [], zh, M)) rfl (fun c4 => ?_) (fun c4 => ?_)
  · rw [if_pos c4] at h
    refine zF_go (n := 2) (ps := []) (s' := (18, [(0, .ref 1), (1, .ref 13), (2, .int p_place), (3, .int p_v)], [.ref 78], zh, M)) rfl trivial ?_
    obtain ⟨M2, e5, h⟩ := zb_some h
    refine zF_call (y' := 1) (as := [.ref 78]) (u := (21, [(0, .ref 1), (1, .ref 13), (2, .int p_place), (3, .int p_v)], [], zh, M)) rfl ⟨rfl, rfl⟩ rfl (qD_forget_ok (S := S) (M := M) e5) ?_
    show zF S 131 (21, [(0, .ref 1), (1, .ref 13), (2, .int p_place), (3, .int p_v)], [], zh, M2) _ _
    obtain ⟨g6, h⟩ := zq_some h
    obtain ⟨g7, h⟩ := zq_some h
    refine zF_go (n := 9) (ps := [vp_in p_place 5, vp_in p_place 5]) (s' := (32, [(4, .int (M2 13 p_place.toNatClampNeg)), (0, .ref 1), (1, .ref 13), (2, .int p_place), (3, .int p_v)], [.int (M2 13 p_place.toNatClampNeg)], zh, (zw M2 13 p_place.toNatClampNeg p_v))) rfl ⟨g6, g7, trivial⟩ ?_
    cases h
    exact zF_ret rfl trivial
  · rw [if_neg c4] at h
    refine zF_go (n := 1) (ps := []) (s' := (13, [(0, .ref 1), (1, .ref 13), (2, .int p_place), (3, .int p_v)], [.int (-1)], zh, M)) rfl trivial ?_
    cases h
    exact zF_ret rfl trivial
noncomputable def qS_exchange_1_14 (M : zM) (p_place : Int32) (p_v : Int32) : Option (Int32 × zM) :=
  zb (qS_isOut p_place 0 ((Int32.ofNat 5) - 1)) fun x1 =>
  if x1 = 0 then
    (zb (qD_forget M) fun M2 =>
    zq (vp_in p_place 5) <| zq (vp_in p_place 5) <| some ((M2 14 p_place.toNatClampNeg), (zw M2 14 p_place.toNatClampNeg p_v)))
  else
    (some ((-1), M))
set_option maxRecDepth 20000 in
set_option maxHeartbeats 4000000 in
theorem qS_exchange_1_14_ok {S : zSc} {M : zM} {p_place : Int32} {p_v : Int32} {r : Int32 × zM} (h : qS_exchange_1_14 M p_place p_v = some r) : zF S 131 (0, [(0, .ref 1), (1, .ref 14), (2, .int p_place), (3, .int p_v)], [], zh, M) (some (.int r.1)) (r.2) := by
  unfold qS_exchange_1_14 at h
  refine zF_go (n := 6) (ps := []) (s' := (6, [(0, .ref 1), (1, .ref 14), (2, .int p_place), (3, .int p_v)], [.int ((Int32.ofNat 5) - 1), .int 0, .int p_place], zh, M)) rfl trivial ?_
  obtain ⟨x1, e3, h⟩ := zb_some h
  refine zF_call (y' := 125) (as := [.int p_place, .int 0, .int ((Int32.ofNat 5) - 1)]) (u := (9, [(0, .ref 1), (1, .ref 14), (2, .int p_place), (3, .int p_v)], [], zh, M)) rfl ⟨rfl, rfl⟩ rfl (qS_isOut_ok (S := S) (M := M) e3) ?_
  show zF S 131 (9, [(0, .ref 1), (1, .ref 14), (2, .int p_place), (3, .int p_v)], [.int x1], zh, M) _ _
  refine zF_eq (t := 14) (u := (12, [(0, .ref 1), (1, .ref 14), (2, .int p_place), (3, .int p_v)], [], zh, M)) rfl (fun c4 => ?_) (fun c4 => ?_)
  · rw [if_pos c4] at h
    refine zF_go (n := 2) (ps := []) (s' := (18, [(0, .ref 1), (1, .ref 14), (2, .int p_place), (3, .int p_v)], [.ref 78], zh, M)) rfl trivial ?_
    obtain ⟨M2, e5, h⟩ := zb_some h
    refine zF_call (y' := 1) (as := [.ref 78]) (u := (21, [(0, .ref 1), (1, .ref 14), (2, .int p_place), (3, .int p_v)], [], zh, M)) rfl ⟨rfl, rfl⟩ rfl (qD_forget_ok (S := S) (M := M) e5) ?_
    show zF S 131 (21, [(0, .ref 1), (1, .ref 14), (2, .int p_place), (3, .int p_v)], [], zh, M2) _ _
    obtain ⟨g6, h⟩ := zq_some h
    obtain ⟨g7, h⟩ := zq_some h
    refine zF_go (n := 9) (ps := [vp_in p_place 5, vp_in p_place 5]) (s' := (32, [(4, .int (M2 14 p_place.toNatClampNeg)), (0, .ref 1), (1, .ref 14), (2, .int p_place), (3, .int p_v)], [.int (M2 14 p_place.toNatClampNeg)], zh, (zw M2 14 p_place.toNatClampNeg p_v))) rfl ⟨g6, g7, trivial⟩ ?_
    cases h
    exact zF_ret rfl trivial
  · rw [if_neg c4] at h
    refine zF_go (n := 1) (ps := []) (s' := (13, [(0, .ref 1), (1, .ref 14), (2, .int p_place), (3, .int p_v)], [.int (-1)], zh, M)) rfl trivial ?_
    cases h
    exact zF_ret rfl trivial
noncomputable def qS_change (M : zM) (p_sort : Int32) (p_what : Int32) (p_v : Int32) : Option (Int32 × zM) :=
  zb (qS_noSort M p_sort) fun x1 =>
  if x1 = 0 then
    (if p_what = 0 then
      (zb (qS_isOut p_v 1 99) fun x2 =>
      if x2 = 0 then
        (zb2 (qS_exchange_1_11 M p_sort p_v) fun x3 M4 =>
        some (x3, M4))
      else
        (some ((-2), M)))
    else if p_what = 1 then
      (zb (qS_isOut p_v 0 99) fun x5 =>
      if x5 = 0 then
        (zb2 (qS_exchange_1_12 M (((p_sort * 2) + p_what) - 1) p_v) fun x6 M7 =>
        some (x6, M7))
      else
        (some ((-2), M)))
    else if p_what = 2 then
      (zb (qS_isOut p_v 0 99) fun x8 =>
      if x8 = 0 then
        (zb2 (qS_exchange_1_12 M (((p_sort * 2) + p_what) - 1) p_v) fun x9 M10 =>
        some (x9, M10))
      else
        (some ((-2), M)))
    else if p_what = 3 then
      (zb (qS_isOut p_v 0 2) fun x11 =>
      if x11 = 0 then
        (zb2 (qS_exchange_1_13 M p_sort p_v) fun x12 M13 =>
        some (x12, M13))
      else
        (some ((-2), M)))
    else if p_what = 4 then
      (zb (qS_isOut p_v 0 6) fun x14 =>
      if x14 = 0 then
        (zb2 (qS_exchange_1_14 M p_sort p_v) fun x15 M16 =>
        some (x15, M16))
      else
        (some ((-2), M)))
    else 
      (some ((-2), M)))
  else
    (some ((-1), M))
set_option maxRecDepth 20000 in
set_option maxHeartbeats 4000000 in
theorem qS_change_ok {S : zSc} {M : zM} {p_sort : Int32} {p_what : Int32} {p_v : Int32} {r : Int32 × zM} (h : qS_change M p_sort p_what p_v = some r) : zF S 92 (0, [(0, .ref 1), (1, .int p_sort), (2, .int p_what), (3, .int p_v)], [], zh, M) (some (.int r.1)) (r.2) := by
  unfold qS_change at h
  refine zF_go (n := 2) (ps := []) (s' := (2, [(0, .ref 1), (1, .int p_sort), (2, .int p_what), (3, .int p_v)], [.int p_sort, .ref 1], zh, M)) rfl trivial ?_
  obtain ⟨x1, e17, h⟩ := zb_some h
  refine zF_call (y' := 129) (as := [.ref 1, .int p_sort]) (u := (5, [(0, .ref 1), (1, .int p_sort), (2, .int p_what), (3, .int p_v)], [], zh, M)) rfl ⟨rfl, rfl⟩ rfl (qS_noSort_ok (S := S) (M := M) e17) ?_
  show zF S 92 (5, [(0, .ref 1), (1, .int p_sort), (2, .int p_what), (3, .int p_v)], [.int x1], zh, M) _ _
  refine zF_eq (t := 10) (u := (8, [(0, .ref 1), (1, .int p_sort), (2, .int p_what), (3, .int p_v)], [], zh, M)) rfl (fun c18 => ?_) (fun c18 => ?_)
  · rw [if_pos c18] at h
    refine zF_go (n := 1) (ps := []) (s' := (11, [(0, .ref 1), (1, .int p_sort), (2, .int p_what), (3, .int p_v)], [.int p_what], zh, M)) rfl trivial ?_
    by_cases c19 : p_what = 0
    · rw [if_pos c19] at h
      refine zF_sw (t := 44) (lv := [(0, .ref 1), (1, .int p_sort), (2, .int p_what), (3, .int p_v)]) (st := []) (M := M) rfl (by rw [c19]; rfl) ?_
      refine zF_go (n := 3) (ps := []) (s' := (48, [(0, .ref 1), (1, .int p_sort), (2, .int p_what), (3, .int p_v)], [.int 99, .int 1, .int p_v], zh, M)) rfl trivial ?_
      obtain ⟨x2, e20, h⟩ := zb_some h
      refine zF_call (y' := 125) (as := [.int p_v, .int 1, .int 99]) (u := (51, [(0, .ref 1), (1, .int p_sort), (2, .int p_what), (3, .int p_v)], [], zh, M)) rfl ⟨rfl, rfl⟩ rfl (qS_isOut_ok (S := S) (M := M) e20) ?_
      show zF S 92 (51, [(0, .ref 1), (1, .int p_sort), (2, .int p_what), (3, .int p_v)], [.int x2], zh, M) _ _
      refine zF_eq (t := 59) (u := (54, [(0, .ref 1), (1, .int p_sort), (2, .int p_what), (3, .int p_v)], [], zh, M)) rfl (fun c21 => ?_) (fun c21 => ?_)
      · rw [if_pos c21] at h
        refine zF_go (n := 7) (ps := []) (s' := (72, [(0, .ref 1), (1, .int p_sort), (2, .int p_what), (3, .int p_v)], [.int p_v, .int p_sort, .ref 11, .ref 1], zh, M)) rfl trivial ?_
        obtain ⟨x3, M4, e22, h⟩ := zb2_some h
        refine zF_call (y' := 131) (as := [.ref 1, .ref 11, .int p_sort, .int p_v]) (u := (75, [(0, .ref 1), (1, .int p_sort), (2, .int p_what), (3, .int p_v)], [], zh, M)) rfl ⟨rfl, rfl⟩ rfl (qS_exchange_1_11_ok (S := S) (M := M) e22) ?_
        show zF S 92 (75, [(0, .ref 1), (1, .int p_sort), (2, .int p_what), (3, .int p_v)], [.int x3], zh, M4) _ _
        cases h
        exact zF_ret rfl trivial
      · rw [if_neg c21] at h
        refine zF_go (n := 2) (ps := []) (s' := (75, [(0, .ref 1), (1, .int p_sort), (2, .int p_what), (3, .int p_v)], [.int (-2)], zh, M)) rfl trivial ?_
        cases h
        exact zF_ret rfl trivial
    rw [if_neg c19] at h
    by_cases c23 : p_what = 1
    · rw [if_pos c23] at h
      refine zF_sw (t := 76) (lv := [(0, .ref 1), (1, .int p_sort), (2, .int p_what), (3, .int p_v)]) (st := []) (M := M) rfl (by rw [c23]; rfl) ?_
      refine zF_go (n := 3) (ps := []) (s' := (80, [(0, .ref 1), (1, .int p_sort), (2, .int p_what), (3, .int p_v)], [.int 99, .int 0, .int p_v], zh, M)) rfl trivial ?_
      obtain ⟨x5, e24, h⟩ := zb_some h
      refine zF_call (y' := 125) (as := [.int p_v, .int 0, .int 99]) (u := (83, [(0, .ref 1), (1, .int p_sort), (2, .int p_what), (3, .int p_v)], [], zh, M)) rfl ⟨rfl, rfl⟩ rfl (qS_isOut_ok (S := S) (M := M) e24) ?_
      show zF S 92 (83, [(0, .ref 1), (1, .int p_sort), (2, .int p_what), (3, .int p_v)], [.int x5], zh, M) _ _
      refine zF_eq (t := 91) (u := (86, [(0, .ref 1), (1, .int p_sort), (2, .int p_what), (3, .int p_v)], [], zh, M)) rfl (fun c25 => ?_) (fun c25 => ?_)
      · rw [if_pos c25] at h
        refine zF_go (n := 13) (ps := []) (s' := (110, [(0, .ref 1), (1, .int p_sort), (2, .int p_what), (3, .int p_v)], [.int p_v, .int (((p_sort * 2) + p_what) - 1), .ref 12, .ref 1], zh, M)) rfl trivial ?_
        obtain ⟨x6, M7, e26, h⟩ := zb2_some h
        refine zF_call (y' := 131) (as := [.ref 1, .ref 12, .int (((p_sort * 2) + p_what) - 1), .int p_v]) (u := (113, [(0, .ref 1), (1, .int p_sort), (2, .int p_what), (3, .int p_v)], [], zh, M)) rfl ⟨rfl, rfl⟩ rfl (qS_exchange_1_12_ok (S := S) (M := M) e26) ?_
        show zF S 92 (113, [(0, .ref 1), (1, .int p_sort), (2, .int p_what), (3, .int p_v)], [.int x6], zh, M7) _ _
        cases h
        exact zF_ret rfl trivial
      · rw [if_neg c25] at h
        refine zF_go (n := 2) (ps := []) (s' := (113, [(0, .ref 1), (1, .int p_sort), (2, .int p_what), (3, .int p_v)], [.int (-2)], zh, M)) rfl trivial ?_
        cases h
        exact zF_ret rfl trivial
    rw [if_neg c23] at h
    by_cases c27 : p_what = 2
    · rw [if_pos c27] at h
      refine zF_sw (t := 76) (lv := [(0, .ref 1), (1, .int p_sort), (2, .int p_what), (3, .int p_v)]) (st := []) (M := M) rfl (by rw [c27]; rfl) ?_
      refine zF_go (n := 3) (ps := []) (s' := (80, [(0, .ref 1), (1, .int p_sort), (2, .int p_what), (3, .int p_v)], [.int 99, .int 0, .int p_v], zh, M)) rfl trivial ?_
      obtain ⟨x8, e28, h⟩ := zb_some h
      refine zF_call (y' := 125) (as := [.int p_v, .int 0, .int 99]) (u := (83, [(0, .ref 1), (1, .int p_sort), (2, .int p_what), (3, .int p_v)], [], zh, M)) rfl ⟨rfl, rfl⟩ rfl (qS_isOut_ok (S := S) (M := M) e28) ?_
      show zF S 92 (83, [(0, .ref 1), (1, .int p_sort), (2, .int p_what), (3, .int p_v)], [.int x8], zh, M) _ _
      refine zF_eq (t := 91) (u := (86, [(0, .ref 1), (1, .int p_sort), (2, .int p_what), (3, .int p_v)], [], zh, M)) rfl (fun c29 => ?_) (fun c29 => ?_)
      · rw [if_pos c29] at h
        refine zF_go (n := 13) (ps := []) (s' := (110, [(0, .ref 1), (1, .int p_sort), (2, .int p_what), (3, .int p_v)], [.int p_v, .int (((p_sort * 2) + p_what) - 1), .ref 12, .ref 1], zh, M)) rfl trivial ?_
        obtain ⟨x9, M10, e30, h⟩ := zb2_some h
        refine zF_call (y' := 131) (as := [.ref 1, .ref 12, .int (((p_sort * 2) + p_what) - 1), .int p_v]) (u := (113, [(0, .ref 1), (1, .int p_sort), (2, .int p_what), (3, .int p_v)], [], zh, M)) rfl ⟨rfl, rfl⟩ rfl (qS_exchange_1_12_ok (S := S) (M := M) e30) ?_
        show zF S 92 (113, [(0, .ref 1), (1, .int p_sort), (2, .int p_what), (3, .int p_v)], [.int x9], zh, M10) _ _
        cases h
        exact zF_ret rfl trivial
      · rw [if_neg c29] at h
        refine zF_go (n := 2) (ps := []) (s' := (113, [(0, .ref 1), (1, .int p_sort), (2, .int p_what), (3, .int p_v)], [.int (-2)], zh, M)) rfl trivial ?_
        cases h
        exact zF_ret rfl trivial
    rw [if_neg c27] at h
    by_cases c31 : p_what = 3
    · rw [if_pos c31] at h
      refine zF_sw (t := 114) (lv := [(0, .ref 1), (1, .int p_sort), (2, .int p_what), (3, .int p_v)]) (st := []) (M := M) rfl (by rw [c31]; rfl) ?_
      refine zF_go (n := 3) (ps := []) (s' := (117, [(0, .ref 1), (1, .int p_sort), (2, .int p_what), (3, .int p_v)], [.int 2, .int 0, .int p_v], zh, M)) rfl trivial ?_
      obtain ⟨x11, e32, h⟩ := zb_some h
      refine zF_call (y' := 125) (as := [.int p_v, .int 0, .int 2]) (u := (120, [(0, .ref 1), (1, .int p_sort), (2, .int p_what), (3, .int p_v)], [], zh, M)) rfl ⟨rfl, rfl⟩ rfl (qS_isOut_ok (S := S) (M := M) e32) ?_
      show zF S 92 (120, [(0, .ref 1), (1, .int p_sort), (2, .int p_what), (3, .int p_v)], [.int x11], zh, M) _ _
      refine zF_eq (t := 128) (u := (123, [(0, .ref 1), (1, .int p_sort), (2, .int p_what), (3, .int p_v)], [], zh, M)) rfl (fun c33 => ?_) (fun c33 => ?_)
      · rw [if_pos c33] at h
        refine zF_go (n := 7) (ps := []) (s' := (141, [(0, .ref 1), (1, .int p_sort), (2, .int p_what), (3, .int p_v)], [.int p_v, .int p_sort, .ref 13, .ref 1], zh, M)) rfl trivial ?_
        obtain ⟨x12, M13, e34, h⟩ := zb2_some h
        refine zF_call (y' := 131) (as := [.ref 1, .ref 13, .int p_sort, .int p_v]) (u := (144, [(0, .ref 1), (1, .int p_sort), (2, .int p_what), (3, .int p_v)], [], zh, M)) rfl ⟨rfl, rfl⟩ rfl (qS_exchange_1_13_ok (S := S) (M := M) e34) ?_
        show zF S 92 (144, [(0, .ref 1), (1, .int p_sort), (2, .int p_what), (3, .int p_v)], [.int x12], zh, M13) _ _
        cases h
        exact zF_ret rfl trivial
      · rw [if_neg c33] at h
        refine zF_go (n := 2) (ps := []) (s' := (144, [(0, .ref 1), (1, .int p_sort), (2, .int p_what), (3, .int p_v)], [.int (-2)], zh, M)) rfl trivial ?_
        cases h
        exact zF_ret rfl trivial
    rw [if_neg c31] at h
    by_cases c35 : p_what = 4
    · rw [if_pos c35] at h
      refine zF_sw (t := 145) (lv := [(0, .ref 1), (1, .int p_sort), (2, .int p_what), (3, .int p_v)]) (st := []) (M := M) rfl (by rw [c35]; rfl) ?_
      refine zF_go (n := 3) (ps := []) (s' := (149, [(0, .ref 1), (1, .int p_sort), (2, .int p_what), (3, .int p_v)], [.int 6, .int 0, .int p_v], zh, M)) rfl trivial ?_
      obtain ⟨x14, e36, h⟩ := zb_some h
      refine zF_call (y' := 125) (as := [.int p_v, .int 0, .int 6]) (u := (152, [(0, .ref 1), (1, .int p_sort), (2, .int p_what), (3, .int p_v)], [], zh, M)) rfl ⟨rfl, rfl⟩ rfl (qS_isOut_ok (S := S) (M := M) e36) ?_
      show zF S 92 (152, [(0, .ref 1), (1, .int p_sort), (2, .int p_what), (3, .int p_v)], [.int x14], zh, M) _ _
      refine zF_eq (t := 160) (u := (155, [(0, .ref 1), (1, .int p_sort), (2, .int p_what), (3, .int p_v)], [], zh, M)) rfl (fun c37 => ?_) (fun c37 => ?_)
      · rw [if_pos c37] at h
        refine zF_go (n := 7) (ps := []) (s' := (173, [(0, .ref 1), (1, .int p_sort), (2, .int p_what), (3, .int p_v)], [.int p_v, .int p_sort, .ref 14, .ref 1], zh, M)) rfl trivial ?_
        obtain ⟨x15, M16, e38, h⟩ := zb2_some h
        refine zF_call (y' := 131) (as := [.ref 1, .ref 14, .int p_sort, .int p_v]) (u := (176, [(0, .ref 1), (1, .int p_sort), (2, .int p_what), (3, .int p_v)], [], zh, M)) rfl ⟨rfl, rfl⟩ rfl (qS_exchange_1_14_ok (S := S) (M := M) e38) ?_
        show zF S 92 (176, [(0, .ref 1), (1, .int p_sort), (2, .int p_what), (3, .int p_v)], [.int x15], zh, M16) _ _
        cases h
        exact zF_ret rfl trivial
      · rw [if_neg c37] at h
        refine zF_go (n := 2) (ps := []) (s' := (176, [(0, .ref 1), (1, .int p_sort), (2, .int p_what), (3, .int p_v)], [.int (-2)], zh, M)) rfl trivial ?_
        cases h
        exact zF_ret rfl trivial
    rw [if_neg c35] at h
    refine zF_sw (t := 177) (lv := [(0, .ref 1), (1, .int p_sort), (2, .int p_what), (3, .int p_v)]) (st := []) (M := M) rfl (ztab_d (fun j hj => match j, hj with | 0, _ => Or.inr (lv_neT c19 (show (0 : Int32).toInt = (0 : Int) + ((0 : Nat) : Int) from rfl)) | 1, _ => Or.inr (lv_neT c23 (show (1 : Int32).toInt = (0 : Int) + ((1 : Nat) : Int) from rfl)) | 2, _ => Or.inr (lv_neT c27 (show (2 : Int32).toInt = (0 : Int) + ((2 : Nat) : Int) from rfl)) | 3, _ => Or.inr (lv_neT c31 (show (3 : Int32).toInt = (0 : Int) + ((3 : Nat) : Int) from rfl)) | 4, _ => Or.inr (lv_neT c35 (show (4 : Int32).toInt = (0 : Int) + ((4 : Nat) : Int) from rfl)) | j + 5, hj => absurd hj (Nat.not_lt.mpr (Nat.le_add_left 5 j)))) ?_
    refine zF_go (n := 1) (ps := []) (s' := (179, [(0, .ref 1), (1, .int p_sort), (2, .int p_what), (3, .int p_v)], [.int (-2)], zh, M)) rfl trivial ?_
    cases h
    exact zF_ret rfl trivial
  · rw [if_neg c18] at h
    refine zF_go (n := 1) (ps := []) (s' := (9, [(0, .ref 1), (1, .int p_sort), (2, .int p_what), (3, .int p_v)], [.int (-1)], zh, M)) rfl trivial ?_
    cases h
    exact zF_ret rfl trivial
noncomputable def qM_isSort (M : zM) (p_s : Int32) : Option (Int32) :=
  zb (qM_in p_s.toInt64 0 ((M 86 14) - 1).toInt64) fun x1 =>
  zq (x1 = 0 ∨ x1 = 1) <| some x1
set_option maxRecDepth 20000 in
set_option maxHeartbeats 4000000 in
theorem qM_isSort_ok {S : zSc} {M : zM} {p_s : Int32} {r : Int32} (h : qM_isSort M p_s = some r) : zF S 146 (0, [(0, .ref 86), (1, .int p_s)], [], zh, M) (some (.int r)) (M) := by
  unfold qM_isSort at h
  refine zF_go (n := 8) (ps := []) (s' := (10, [(0, .ref 86), (1, .int p_s)], [.long ((M 86 14) - 1).toInt64, .long 0, .long p_s.toInt64], zh, M)) rfl trivial ?_
  obtain ⟨x1, e2, h⟩ := zb_some h
  refine zF_call (y' := 134) (as := [.long p_s.toInt64, .long 0, .long ((M 86 14) - 1).toInt64]) (u := (13, [(0, .ref 86), (1, .int p_s)], [], zh, M)) rfl ⟨rfl, rfl⟩ rfl (qM_in_ok (S := S) (M := M) e2) ?_
  show zF S 146 (13, [(0, .ref 86), (1, .int p_s)], [.int x1], zh, M) _ _
  obtain ⟨g3, h⟩ := zq_some h
  cases h
  exact zF_ret rfl ⟨g3, trivial⟩
noncomputable def qM_change (M : zM) (p_sort : Int32) (p_what : Int32) (p_v : Int32) : Option (Int32 × zM) :=
  zb (qM_isSort M p_sort) fun x1 =>
  if x1 = 0 then
    (some ((-1), M))
  else
    (zb (qM_in p_what.toInt64 0 4) fun x2 =>
    if x2 = 0 then
      (some ((-2), M))
    else
      (zb (qM_in p_v.toInt64 (if p_what = 0 then 1 else 0) (if p_what < 3 then 99 else (if p_what = 3 then 2 else 6))) fun x5 =>
      if x5 = 0 then
        (some ((-2), M))
      else
        (zb (if p_what = 0 then
            (zq (vp_in p_sort 5) <| some (M 93 p_sort.toNatClampNeg))
          else
            (if p_what < 3 then
              (zq (vp_in (((2 * p_sort) + p_what) - 1) 10) <| some (M 94 (((2 * p_sort) + p_what) - 1).toNatClampNeg))
            else
              (if p_what = 3 then
                (zq (vp_in p_sort 5) <| some (M 95 p_sort.toNatClampNeg))
              else
                (zq (vp_in p_sort 5) <| some (M 96 p_sort.toNatClampNeg))))) fun (w6 : Int32) =>
        if p_what = 0 then
          (zq (vp_in p_sort 5) <| some (w6, (zw M 93 p_sort.toNatClampNeg p_v)))
        else
          (if p_what < 3 then
            (zq (vp_in (((2 * p_sort) + p_what) - 1) 10) <| some (w6, (zw M 94 (((2 * p_sort) + p_what) - 1).toNatClampNeg p_v)))
          else
            (if p_what = 3 then
              (zq (vp_in p_sort 5) <| some (w6, (zw M 95 p_sort.toNatClampNeg p_v)))
            else
              (zq (vp_in p_sort 5) <| some (w6, (zw M 96 p_sort.toNatClampNeg p_v))))))))
set_option maxRecDepth 20000 in
set_option maxHeartbeats 4000000 in
theorem qM_change_ok {S : zSc} {M : zM} {p_sort : Int32} {p_what : Int32} {p_v : Int32} {r : Int32 × zM} (h : qM_change M p_sort p_what p_v = some r) : zF S 149 (0, [(0, .ref 86), (1, .int p_sort), (2, .int p_what), (3, .int p_v)], [], zh, M) (some (.int r.1)) (r.2) := by
  unfold qM_change at h
  refine zF_go (n := 2) (ps := []) (s' := (2, [(0, .ref 86), (1, .int p_sort), (2, .int p_what), (3, .int p_v)], [.int p_sort, .ref 86], zh, M)) rfl trivial ?_
  obtain ⟨x1, e7, h⟩ := zb_some h
  refine zF_call (y' := 146) (as := [.ref 86, .int p_sort]) (u := (5, [(0, .ref 86), (1, .int p_sort), (2, .int p_what), (3, .int p_v)], [], zh, M)) rfl ⟨rfl, rfl⟩ rfl (qM_isSort_ok (S := S) (M := M) e7) ?_
  show zF S 149 (5, [(0, .ref 86), (1, .int p_sort), (2, .int p_what), (3, .int p_v)], [.int x1], zh, M) _ _
  refine zF_ne (t := 10) (u := (8, [(0, .ref 86), (1, .int p_sort), (2, .int p_what), (3, .int p_v)], [], zh, M)) rfl (fun c8 => ?_) (fun c8 => ?_)
  · rw [if_neg c8] at h
    refine zF_go (n := 4) (ps := []) (s' := (16, [(0, .ref 86), (1, .int p_sort), (2, .int p_what), (3, .int p_v)], [.long 4, .long 0, .long p_what.toInt64], zh, M)) rfl trivial ?_
    obtain ⟨x2, e9, h⟩ := zb_some h
    refine zF_call (y' := 134) (as := [.long p_what.toInt64, .long 0, .long 4]) (u := (19, [(0, .ref 86), (1, .int p_sort), (2, .int p_what), (3, .int p_v)], [], zh, M)) rfl ⟨rfl, rfl⟩ rfl (qM_in_ok (S := S) (M := M) e9) ?_
    show zF S 149 (19, [(0, .ref 86), (1, .int p_sort), (2, .int p_what), (3, .int p_v)], [.int x2], zh, M) _ _
    refine zF_eq (t := 64) (u := (22, [(0, .ref 86), (1, .int p_sort), (2, .int p_what), (3, .int p_v)], [], zh, M)) rfl (fun c10 => ?_) (fun c10 => ?_)
    · rw [if_pos c10] at h
      refine zF_go (n := 1) (ps := []) (s' := (66, [], [.int (-2)], zh, M)) rfl trivial ?_
      cases h
      exact zF_ret rfl trivial
    · rw [if_neg c10] at h
      refine zF_go (n := 3) (ps := []) (s' := (25, [(0, .ref 86), (1, .int p_sort), (2, .int p_what), (3, .int p_v)], [.int p_what, .long p_v.toInt64], zh, M)) rfl trivial ?_
      have hk11 : zF S 149 (33, [(0, .ref 86), (1, .int p_sort), (2, .int p_what), (3, .int p_v)], [.long (if p_what = 0 then 1 else 0), .long p_v.toInt64], zh, M) (some (.int r.1)) (r.2) := by
        refine zF_go (n := 2) (ps := []) (s' := (35, [(0, .ref 86), (1, .int p_sort), (2, .int p_what), (3, .int p_v)], [.int 3, .int p_what, .long (if p_what = 0 then 1 else 0), .long p_v.toInt64], zh, M)) rfl trivial ?_
        have hk12 : zF S 149 (58, [(0, .ref 86), (1, .int p_sort), (2, .int p_what), (3, .int p_v)], [.long (if p_what < 3 then 99 else (if p_what = 3 then 2 else 6)), .long (if p_what = 0 then 1 else 0), .long p_v.toInt64], zh, M) (some (.int r.1)) (r.2) := by
          obtain ⟨x5, e13, h⟩ := zb_some h
          refine zF_call (y' := 134) (as := [.long p_v.toInt64, .long (if p_what = 0 then 1 else 0), .long (if p_what < 3 then 99 else (if p_what = 3 then 2 else 6))]) (u := (61, [(0, .ref 86), (1, .int p_sort), (2, .int p_what), (3, .int p_v)], [], zh, M)) rfl ⟨rfl, rfl⟩ rfl (qM_in_ok (S := S) (M := M) e13) ?_
          show zF S 149 (61, [(0, .ref 86), (1, .int p_sort), (2, .int p_what), (3, .int p_v)], [.int x5], zh, M) _ _
          refine zF_ne (t := 67) (u := (64, [(0, .ref 86), (1, .int p_sort), (2, .int p_what), (3, .int p_v)], [], zh, M)) rfl (fun c14 => ?_) (fun c14 => ?_)
          · rw [if_neg c14] at h
            refine zF_go (n := 1) (ps := []) (s' := (68, [(0, .ref 86), (1, .int p_sort), (2, .int p_what), (3, .int p_v)], [.int p_what], zh, M)) rfl trivial ?_
            obtain ⟨w6, g15, h⟩ := zb_some h
            have hk16 : zF S 149 (120, [(0, .ref 86), (1, .int p_sort), (2, .int p_what), (3, .int p_v)], [.int w6], zh, M) (some (.int r.1)) (r.2) := by
              refine zF_go (n := 2) (ps := []) (s' := (123, [(4, .int w6), (0, .ref 86), (1, .int p_sort), (2, .int p_what), (3, .int p_v)], [.int p_what], zh, M)) rfl trivial ?_
              refine zF_ne (t := 136) (u := (126, [(4, .int w6), (0, .ref 86), (1, .int p_sort), (2, .int p_what), (3, .int p_v)], [], zh, M)) rfl (fun c17 => ?_) (fun c17 => ?_)
              · rw [if_neg c17] at h
                refine zF_go (n := 2) (ps := []) (s' := (138, [(4, .int w6), (0, .ref 86), (1, .int p_sort), (2, .int p_what), (3, .int p_v)], [.int 3, .int p_what], zh, M)) rfl trivial ?_
                refine zF_ge (t := 157) (u := (141, [(4, .int w6), (0, .ref 86), (1, .int p_sort), (2, .int p_what), (3, .int p_v)], [], zh, M)) rfl (fun c18 => ?_) (fun c18 => ?_)
                · rw [if_neg c18] at h
                  refine zF_go (n := 2) (ps := []) (s' := (159, [(4, .int w6), (0, .ref 86), (1, .int p_sort), (2, .int p_what), (3, .int p_v)], [.int 3, .int p_what], zh, M)) rfl trivial ?_
                  refine zF_ne (t := 172) (u := (162, [(4, .int w6), (0, .ref 86), (1, .int p_sort), (2, .int p_what), (3, .int p_v)], [], zh, M)) rfl (fun c19 => ?_) (fun c19 => ?_)
                  · rw [if_neg c19] at h
                    obtain ⟨g20, h⟩ := zq_some h
                    refine zF_go (n := 5) (ps := [vp_in p_sort 5]) (s' := (179, [(4, .int w6), (0, .ref 86), (1, .int p_sort), (2, .int p_what), (3, .int p_v)], [], zh, (zw M 96 p_sort.toNatClampNeg p_v))) rfl ⟨g20, trivial⟩ ?_
                    refine zF_go (n := 1) (ps := []) (s' := (181, [(4, .int w6)], [.int w6], zh, (zw M 96 p_sort.toNatClampNeg p_v))) rfl trivial ?_
                    cases h
                    exact zF_ret rfl trivial
                  · rw [if_pos c19] at h
                    obtain ⟨g21, h⟩ := zq_some h
                    refine zF_go (n := 6) (ps := [vp_in p_sort 5]) (s' := (179, [(4, .int w6), (0, .ref 86), (1, .int p_sort), (2, .int p_what), (3, .int p_v)], [], zh, (zw M 95 p_sort.toNatClampNeg p_v))) rfl ⟨g21, trivial⟩ ?_
                    refine zF_go (n := 1) (ps := []) (s' := (181, [(4, .int w6)], [.int w6], zh, (zw M 95 p_sort.toNatClampNeg p_v))) rfl trivial ?_
                    cases h
                    exact zF_ret rfl trivial
                · rw [if_pos c18] at h
                  obtain ⟨g22, h⟩ := zq_some h
                  refine zF_go (n := 12) (ps := [vp_in (((2 * p_sort) + p_what) - 1) 10]) (s' := (179, [(4, .int w6), (0, .ref 86), (1, .int p_sort), (2, .int p_what), (3, .int p_v)], [], zh, (zw M 94 (((2 * p_sort) + p_what) - 1).toNatClampNeg p_v))) rfl ⟨g22, trivial⟩ ?_
                  refine zF_go (n := 1) (ps := []) (s' := (181, [(4, .int w6)], [.int w6], zh, (zw M 94 (((2 * p_sort) + p_what) - 1).toNatClampNeg p_v))) rfl trivial ?_
                  cases h
                  exact zF_ret rfl trivial
              · rw [if_pos c17] at h
                obtain ⟨g23, h⟩ := zq_some h
                refine zF_go (n := 6) (ps := [vp_in p_sort 5]) (s' := (179, [(4, .int w6), (0, .ref 86), (1, .int p_sort), (2, .int p_what), (3, .int p_v)], [], zh, (zw M 93 p_sort.toNatClampNeg p_v))) rfl ⟨g23, trivial⟩ ?_
                refine zF_go (n := 1) (ps := []) (s' := (181, [(4, .int w6)], [.int w6], zh, (zw M 93 p_sort.toNatClampNeg p_v))) rfl trivial ?_
                cases h
                exact zF_ret rfl trivial
            refine zF_ne (t := 80) (u := (71, [(0, .ref 86), (1, .int p_sort), (2, .int p_what), (3, .int p_v)], [], zh, M)) rfl (fun c24 => ?_) (fun c24 => ?_)
            · rw [if_neg c24] at g15
              refine zF_go (n := 2) (ps := []) (s' := (82, [(0, .ref 86), (1, .int p_sort), (2, .int p_what), (3, .int p_v)], [.int 3, .int p_what], zh, M)) rfl trivial ?_
              refine zF_ge (t := 100) (u := (85, [(0, .ref 86), (1, .int p_sort), (2, .int p_what), (3, .int p_v)], [], zh, M)) rfl (fun c25 => ?_) (fun c25 => ?_)
              · rw [if_neg c25] at g15
                refine zF_go (n := 2) (ps := []) (s' := (102, [(0, .ref 86), (1, .int p_sort), (2, .int p_what), (3, .int p_v)], [.int 3, .int p_what], zh, M)) rfl trivial ?_
                refine zF_ne (t := 114) (u := (105, [(0, .ref 86), (1, .int p_sort), (2, .int p_what), (3, .int p_v)], [], zh, M)) rfl (fun c26 => ?_) (fun c26 => ?_)
                · rw [if_neg c26] at g15
                  obtain ⟨g27, g15⟩ := zq_some g15
                  refine zF_go (n := 4) (ps := [vp_in p_sort 5]) (s' := (120, [(0, .ref 86), (1, .int p_sort), (2, .int p_what), (3, .int p_v)], [.int (M 96 p_sort.toNatClampNeg)], zh, M)) rfl ⟨g27, trivial⟩ ?_
                  cases g15
                  exact zF_as hk16 rfl
                · rw [if_pos c26] at g15
                  obtain ⟨g28, g15⟩ := zq_some g15
                  refine zF_go (n := 5) (ps := [vp_in p_sort 5]) (s' := (120, [(0, .ref 86), (1, .int p_sort), (2, .int p_what), (3, .int p_v)], [.int (M 95 p_sort.toNatClampNeg)], zh, M)) rfl ⟨g28, trivial⟩ ?_
                  cases g15
                  exact zF_as hk16 rfl
              · rw [if_pos c25] at g15
                obtain ⟨g29, g15⟩ := zq_some g15
                refine zF_go (n := 11) (ps := [vp_in (((2 * p_sort) + p_what) - 1) 10]) (s' := (120, [(0, .ref 86), (1, .int p_sort), (2, .int p_what), (3, .int p_v)], [.int (M 94 (((2 * p_sort) + p_what) - 1).toNatClampNeg)], zh, M)) rfl ⟨g29, trivial⟩ ?_
                cases g15
                exact zF_as hk16 rfl
            · rw [if_pos c24] at g15
              obtain ⟨g30, g15⟩ := zq_some g15
              refine zF_go (n := 5) (ps := [vp_in p_sort 5]) (s' := (120, [(0, .ref 86), (1, .int p_sort), (2, .int p_what), (3, .int p_v)], [.int (M 93 p_sort.toNatClampNeg)], zh, M)) rfl ⟨g30, trivial⟩ ?_
              cases g15
              exact zF_as hk16 rfl
          · rw [if_pos c14] at h
            refine zF_go (n := 1) (ps := []) (s' := (66, [], [.int (-2)], zh, M)) rfl trivial ?_
            cases h
            exact zF_ret rfl trivial
        refine zF_ge (t := 44) (u := (38, [(0, .ref 86), (1, .int p_sort), (2, .int p_what), (3, .int p_v)], [.long (if p_what = 0 then 1 else 0), .long p_v.toInt64], zh, M)) rfl (fun c31 => ?_) (fun c31 => ?_)
        · skip
          refine zF_go (n := 2) (ps := []) (s' := (46, [(0, .ref 86), (1, .int p_sort), (2, .int p_what), (3, .int p_v)], [.int 3, .int p_what, .long (if p_what = 0 then 1 else 0), .long p_v.toInt64], zh, M)) rfl trivial ?_
          refine zF_ne (t := 55) (u := (49, [(0, .ref 86), (1, .int p_sort), (2, .int p_what), (3, .int p_v)], [.long (if p_what = 0 then 1 else 0), .long p_v.toInt64], zh, M)) rfl (fun c32 => ?_) (fun c32 => ?_)
          · skip
            refine zF_go (n := 1) (ps := []) (s' := (58, [(0, .ref 86), (1, .int p_sort), (2, .int p_what), (3, .int p_v)], [.long 6, .long (if p_what = 0 then 1 else 0), .long p_v.toInt64], zh, M)) rfl trivial ?_
            simp only [if_neg c31, if_neg c32] at hk12
            try simp only [if_neg c31, if_neg c32]
            exact zF_as hk12 rfl
          · skip
            refine zF_go (n := 2) (ps := []) (s' := (58, [(0, .ref 86), (1, .int p_sort), (2, .int p_what), (3, .int p_v)], [.long 2, .long (if p_what = 0 then 1 else 0), .long p_v.toInt64], zh, M)) rfl trivial ?_
            simp only [if_neg c31, if_pos c32] at hk12
            try simp only [if_neg c31, if_pos c32]
            exact zF_as hk12 rfl
        · skip
          refine zF_go (n := 2) (ps := []) (s' := (58, [(0, .ref 86), (1, .int p_sort), (2, .int p_what), (3, .int p_v)], [.long 99, .long (if p_what = 0 then 1 else 0), .long p_v.toInt64], zh, M)) rfl trivial ?_
          simp only [if_pos c31] at hk12
          try simp only [if_pos c31]
          exact zF_as hk12 rfl
      refine zF_ne (t := 32) (u := (28, [(0, .ref 86), (1, .int p_sort), (2, .int p_what), (3, .int p_v)], [.long p_v.toInt64], zh, M)) rfl (fun c33 => ?_) (fun c33 => ?_)
      · skip
        refine zF_go (n := 1) (ps := []) (s' := (33, [(0, .ref 86), (1, .int p_sort), (2, .int p_what), (3, .int p_v)], [.long 0, .long p_v.toInt64], zh, M)) rfl trivial ?_
        simp only [if_neg c33] at hk11
        try simp only [if_neg c33]
        exact zF_as hk11 rfl
      · skip
        refine zF_go (n := 2) (ps := []) (s' := (33, [(0, .ref 86), (1, .int p_sort), (2, .int p_what), (3, .int p_v)], [.long 1, .long p_v.toInt64], zh, M)) rfl trivial ?_
        simp only [if_pos c33] at hk11
        try simp only [if_pos c33]
        exact zF_as hk11 rfl
  · rw [if_pos c8] at h
    refine zF_go (n := 1) (ps := []) (s' := (9, [(0, .ref 86), (1, .int p_sort), (2, .int p_what), (3, .int p_v)], [.int (-1)], zh, M)) rfl trivial ?_
    cases h
    exact zF_ret rfl trivial
noncomputable def qA_put (M : zM) (p_bits : Int32) : Option (Int32 × zM) :=
  zq (vp_in (M 58 0) 40) <| some (((zw (zw M 59 (M 58 0).toNatClampNeg p_bits) 58 0 ((M 58 0) + 1)) 58 0), (zw (zw M 59 (M 58 0).toNatClampNeg p_bits) 58 0 ((M 58 0) + 1)))
set_option maxRecDepth 20000 in
set_option maxHeartbeats 4000000 in
theorem qA_put_ok {S : zSc} {M : zM} {p_bits : Int32} {r : Int32 × zM} (h : qA_put M p_bits = some r) : zF S 27 (0, [(0, .ref 58), (1, .int p_bits)], [], zh, M) (some (.int r.1)) (r.2) := by
  unfold qA_put at h
  obtain ⟨g1, h⟩ := zq_some h
  refine zF_go (n := 14) (ps := [vp_in (M 58 0) 40]) (s' := (24, [(0, .ref 58), (1, .int p_bits)], [.int ((zw (zw M 59 (M 58 0).toNatClampNeg p_bits) 58 0 ((M 58 0) + 1)) 58 0)], zh, (zw (zw M 59 (M 58 0).toNatClampNeg p_bits) 58 0 ((M 58 0) + 1)))) rfl ⟨g1, trivial⟩ ?_
  cases h
  exact zF_ret rfl trivial
noncomputable def qS_say (M : zM) (p_sign : Int32) : Option (Int32 × zM) :=
  zb (qS_isOut p_sign 33 126) fun x1 =>
  if x1 = 0 then
    (if (M 58 0) < 40 then
      (zb2 (qA_put M p_sign) fun x2 M3 =>
      some (x2, M3))
    else
      (some ((-4), M)))
  else
    (some ((-2), M))
set_option maxRecDepth 20000 in
set_option maxHeartbeats 4000000 in
theorem qS_say_ok {S : zSc} {M : zM} {p_sign : Int32} {r : Int32 × zM} (h : qS_say M p_sign = some r) : zF S 93 (0, [(0, .ref 1), (1, .int p_sign)], [], zh, M) (some (.int r.1)) (r.2) := by
  unfold qS_say at h
  refine zF_go (n := 3) (ps := []) (s' := (5, [(0, .ref 1), (1, .int p_sign)], [.int 126, .int 33, .int p_sign], zh, M)) rfl trivial ?_
  obtain ⟨x1, e4, h⟩ := zb_some h
  refine zF_call (y' := 125) (as := [.int p_sign, .int 33, .int 126]) (u := (8, [(0, .ref 1), (1, .int p_sign)], [], zh, M)) rfl ⟨rfl, rfl⟩ rfl (qS_isOut_ok (S := S) (M := M) e4) ?_
  show zF S 93 (8, [(0, .ref 1), (1, .int p_sign)], [.int x1], zh, M) _ _
  refine zF_eq (t := 14) (u := (11, [(0, .ref 1), (1, .int p_sign)], [], zh, M)) rfl (fun c5 => ?_) (fun c5 => ?_)
  · rw [if_pos c5] at h
    refine zF_go (n := 4) (ps := []) (s' := (23, [(0, .ref 1), (1, .int p_sign)], [.int 40, .int (M 58 0)], zh, M)) rfl trivial ?_
    refine zF_lt (t := 31) (u := (26, [(0, .ref 1), (1, .int p_sign)], [], zh, M)) rfl (fun c6 => ?_) (fun c6 => ?_)
    · rw [if_pos c6] at h
      refine zF_go (n := 3) (ps := []) (s' := (36, [(0, .ref 1), (1, .int p_sign)], [.int p_sign, .ref 58], zh, M)) rfl trivial ?_
      obtain ⟨x2, M3, e7, h⟩ := zb2_some h
      refine zF_call (y' := 27) (as := [.ref 58, .int p_sign]) (u := (39, [(0, .ref 1), (1, .int p_sign)], [], zh, M)) rfl ⟨rfl, rfl⟩ rfl (qA_put_ok (S := S) (M := M) e7) ?_
      show zF S 93 (39, [(0, .ref 1), (1, .int p_sign)], [.int x2], zh, M3) _ _
      cases h
      exact zF_ret rfl trivial
    · rw [if_neg c6] at h
      refine zF_go (n := 2) (ps := []) (s' := (39, [(0, .ref 1), (1, .int p_sign)], [.int (-4)], zh, M)) rfl trivial ?_
      cases h
      exact zF_ret rfl trivial
  · rw [if_neg c5] at h
    refine zF_go (n := 1) (ps := []) (s' := (13, [(0, .ref 1), (1, .int p_sign)], [.int (-2)], zh, M)) rfl trivial ?_
    cases h
    exact zF_ret rfl trivial
noncomputable def qM_say (M : zM) (p_sign : Int32) : Option (Int32 × zM) :=
  zb (qM_in p_sign.toInt64 33 126) fun x1 =>
  if x1 = 0 then
    (some ((-2), M))
  else
    (if (M 86 16) = 40 then
      (some ((-4), M))
    else
      (zq (vp_in (M 86 16) 40) <| some (((zw (zw M 100 (M 86 16).toNatClampNeg p_sign) 86 16 ((M 86 16) + 1)) 86 16), (zw (zw M 100 (M 86 16).toNatClampNeg p_sign) 86 16 ((M 86 16) + 1)))))
set_option maxRecDepth 20000 in
set_option maxHeartbeats 4000000 in
theorem qM_say_ok {S : zSc} {M : zM} {p_sign : Int32} {r : Int32 × zM} (h : qM_say M p_sign = some r) : zF S 150 (0, [(0, .ref 86), (1, .int p_sign)], [], zh, M) (some (.int r.1)) (r.2) := by
  unfold qM_say at h
  refine zF_go (n := 4) (ps := []) (s' := (8, [(0, .ref 86), (1, .int p_sign)], [.long 126, .long 33, .long p_sign.toInt64], zh, M)) rfl trivial ?_
  obtain ⟨x1, e2, h⟩ := zb_some h
  refine zF_call (y' := 134) (as := [.long p_sign.toInt64, .long 33, .long 126]) (u := (11, [(0, .ref 86), (1, .int p_sign)], [], zh, M)) rfl ⟨rfl, rfl⟩ rfl (qM_in_ok (S := S) (M := M) e2) ?_
  show zF S 150 (11, [(0, .ref 86), (1, .int p_sign)], [.int x1], zh, M) _ _
  refine zF_ne (t := 17) (u := (14, [(0, .ref 86), (1, .int p_sign)], [], zh, M)) rfl (fun c3 => ?_) (fun c3 => ?_)
  · rw [if_neg c3] at h
    refine zF_go (n := 3) (ps := []) (s' := (23, [(0, .ref 86), (1, .int p_sign)], [.int 40, .int (M 86 16)], zh, M)) rfl trivial ?_
    refine zF_ne (t := 29) (u := (26, [(0, .ref 86), (1, .int p_sign)], [], zh, M)) rfl (fun c4 => ?_) (fun c4 => ?_)
    · rw [if_neg c4] at h
      obtain ⟨g5, h⟩ := zq_some h
      refine zF_go (n := 14) (ps := [vp_in (M 86 16) 40]) (s' := (53, [(0, .ref 86), (1, .int p_sign)], [.int ((zw (zw M 100 (M 86 16).toNatClampNeg p_sign) 86 16 ((M 86 16) + 1)) 86 16)], zh, (zw (zw M 100 (M 86 16).toNatClampNeg p_sign) 86 16 ((M 86 16) + 1)))) rfl ⟨g5, trivial⟩ ?_
      cases h
      exact zF_ret rfl trivial
    · rw [if_pos c4] at h
      refine zF_go (n := 1) (ps := []) (s' := (28, [(0, .ref 86), (1, .int p_sign)], [.int (-4)], zh, M)) rfl trivial ?_
      cases h
      exact zF_ret rfl trivial
  · rw [if_pos c3] at h
    refine zF_go (n := 1) (ps := []) (s' := (16, [(0, .ref 86), (1, .int p_sign)], [.int (-2)], zh, M)) rfl trivial ?_
    cases h
    exact zF_ret rfl trivial
noncomputable def qA_clear (M : zM) : Option (Int32 × zM) :=
  some ((M 58 0), (zw M 58 0 0))
set_option maxRecDepth 20000 in
set_option maxHeartbeats 4000000 in
theorem qA_clear_ok {S : zSc} {M : zM} {r : Int32 × zM} (h : qA_clear M = some r) : zF S 28 (0, [(0, .ref 58)], [], zh, M) (some (.int r.1)) (r.2) := by
  unfold qA_clear at h
  refine zF_go (n := 7) (ps := []) (s' := (11, [(1, .int (M 58 0)), (0, .ref 58)], [.int (M 58 0)], zh, (zw M 58 0 0))) rfl trivial ?_
  cases h
  exact zF_ret rfl trivial
noncomputable def qS_wipe (M : zM) : Option (Int32 × zM) :=
  zb2 (qA_clear M) fun x1 M2 =>
  some (x1, M2)
set_option maxRecDepth 20000 in
set_option maxHeartbeats 4000000 in
theorem qS_wipe_ok {S : zSc} {M : zM} {r : Int32 × zM} (h : qS_wipe M = some r) : zF S 94 (0, [(0, .ref 1)], [], zh, M) (some (.int r.1)) (r.2) := by
  unfold qS_wipe at h
  refine zF_go (n := 2) (ps := []) (s' := (4, [(0, .ref 1)], [.ref 58], zh, M)) rfl trivial ?_
  obtain ⟨x1, M2, e3, h⟩ := zb2_some h
  refine zF_call (y' := 28) (as := [.ref 58]) (u := (7, [(0, .ref 1)], [], zh, M)) rfl ⟨rfl, rfl⟩ rfl (qA_clear_ok (S := S) (M := M) e3) ?_
  show zF S 94 (7, [(0, .ref 1)], [.int x1], zh, M2) _ _
  cases h
  exact zF_ret rfl trivial
noncomputable def qM_wipe (M : zM) : Option (Int32 × zM) :=
  some ((M 86 16), (zw M 86 16 0))
set_option maxRecDepth 20000 in
set_option maxHeartbeats 4000000 in
theorem qM_wipe_ok {S : zSc} {M : zM} {r : Int32 × zM} (h : qM_wipe M = some r) : zF S 151 (0, [(0, .ref 86)], [], zh, M) (some (.int r.1)) (r.2) := by
  unfold qM_wipe at h
  refine zF_go (n := 7) (ps := []) (s' := (11, [(1, .int (M 86 16)), (0, .ref 86)], [.int (M 86 16)], zh, (zw M 86 16 0))) rfl trivial ?_
  cases h
  exact zF_ret rfl trivial
noncomputable def qA_mayEnd (p_awaited : Int32) : Option (Int32) :=
  if p_awaited = 4 then
    (some 1)
  else
    (if p_awaited = 5 then
      (some 1)
    else
      (if p_awaited = 7 then
        (some 1)
      else
        (if p_awaited = 8 then
          (some 1)
        else
          (some 0))))
set_option maxRecDepth 20000 in
set_option maxHeartbeats 4000000 in
theorem qA_mayEnd_ok {S : zSc} {M : zM} {p_awaited : Int32} {r : Int32} (h : qA_mayEnd p_awaited = some r) : zF S 31 (0, [(0, .int p_awaited)], [], zh, M) (some (.int r)) (M) := by
  unfold qA_mayEnd at h
  refine zF_go (n := 2) (ps := []) (s' := (2, [(0, .int p_awaited)], [.int 4, .int p_awaited], zh, M)) rfl trivial ?_
  refine zF_eq (t := 22) (u := (5, [(0, .int p_awaited)], [], zh, M)) rfl (fun c1 => ?_) (fun c1 => ?_)
  · rw [if_pos c1] at h
    refine zF_go (n := 2) (ps := []) (s' := (27, [], [.int 1], zh, M)) rfl trivial ?_
    cases h
    exact zF_ret rfl ⟨(Or.inr rfl), trivial⟩
  · rw [if_neg c1] at h
    refine zF_go (n := 2) (ps := []) (s' := (7, [(0, .int p_awaited)], [.int 5, .int p_awaited], zh, M)) rfl trivial ?_
    refine zF_eq (t := 22) (u := (10, [(0, .int p_awaited)], [], zh, M)) rfl (fun c2 => ?_) (fun c2 => ?_)
    · rw [if_pos c2] at h
      refine zF_go (n := 2) (ps := []) (s' := (27, [], [.int 1], zh, M)) rfl trivial ?_
      cases h
      exact zF_ret rfl ⟨(Or.inr rfl), trivial⟩
    · rw [if_neg c2] at h
      refine zF_go (n := 2) (ps := []) (s' := (13, [(0, .int p_awaited)], [.int 7, .int p_awaited], zh, M)) rfl trivial ?_
      refine zF_eq (t := 22) (u := (16, [(0, .int p_awaited)], [], zh, M)) rfl (fun c3 => ?_) (fun c3 => ?_)
      · rw [if_pos c3] at h
        refine zF_go (n := 2) (ps := []) (s' := (27, [], [.int 1], zh, M)) rfl trivial ?_
        cases h
        exact zF_ret rfl ⟨(Or.inr rfl), trivial⟩
      · rw [if_neg c3] at h
        refine zF_go (n := 2) (ps := []) (s' := (19, [(0, .int p_awaited)], [.int 8, .int p_awaited], zh, M)) rfl trivial ?_
        refine zF_ne (t := 26) (u := (22, [(0, .int p_awaited)], [], zh, M)) rfl (fun c4 => ?_) (fun c4 => ?_)
        · rw [if_neg c4] at h
          refine zF_go (n := 1) (ps := []) (s' := (27, [(0, .int p_awaited)], [.int 0], zh, M)) rfl trivial ?_
          cases h
          exact zF_ret rfl ⟨(Or.inl rfl), trivial⟩
        · rw [if_pos c4] at h
          refine zF_go (n := 2) (ps := []) (s' := (27, [], [.int 1], zh, M)) rfl trivial ?_
          cases h
          exact zF_ret rfl ⟨(Or.inr rfl), trivial⟩
noncomputable def qA_takeLetter (M : zM) (p_sign : Int32) : Option (Int32 × zM) :=
  if (p_sign - 97) < 0 then
    (some (9, M))
  else
    (if (p_sign - 97) < 4 then
      (zq (vp_in (p_sign - 97) 4) <| if (M 60 (p_sign - 97).toNatClampNeg) = 0 then
        (some (1, (zw M 58 2 (p_sign - 97))))
      else
        (some (9, M)))
    else
      (some (9, M)))
set_option maxRecDepth 20000 in
set_option maxHeartbeats 4000000 in
theorem qA_takeLetter_ok {S : zSc} {M : zM} {p_sign : Int32} {r : Int32 × zM} (h : qA_takeLetter M p_sign = some r) : zF S 34 (0, [(0, .ref 58), (1, .int p_sign)], [], zh, M) (some (.int r.1)) (r.2) := by
  unfold qA_takeLetter at h
  refine zF_go (n := 5) (ps := []) (s' := (6, [(2, .int (p_sign - 97)), (0, .ref 58), (1, .int p_sign)], [.int (p_sign - 97)], zh, M)) rfl trivial ?_
  refine zF_lt (t := 23) (u := (9, [(2, .int (p_sign - 97)), (0, .ref 58), (1, .int p_sign)], [], zh, M)) rfl (fun c1 => ?_) (fun c1 => ?_)
  · rw [if_pos c1] at h
    refine zF_go (n := 1) (ps := []) (s' := (25, [], [.int 9], zh, M)) rfl trivial ?_
    cases h
    exact zF_ret rfl trivial
  · rw [if_neg c1] at h
    refine zF_go (n := 2) (ps := []) (s' := (11, [(2, .int (p_sign - 97)), (0, .ref 58), (1, .int p_sign)], [.int 4, .int (p_sign - 97)], zh, M)) rfl trivial ?_
    refine zF_ge (t := 23) (u := (14, [(2, .int (p_sign - 97)), (0, .ref 58), (1, .int p_sign)], [], zh, M)) rfl (fun c2 => ?_) (fun c2 => ?_)
    · rw [if_neg c2] at h
      refine zF_go (n := 1) (ps := []) (s' := (25, [], [.int 9], zh, M)) rfl trivial ?_
      cases h
      exact zF_ret rfl trivial
    · rw [if_pos c2] at h
      obtain ⟨g3, h⟩ := zq_some h
      refine zF_go (n := 4) (ps := [vp_in (p_sign - 97) 4]) (s' := (20, [(2, .int (p_sign - 97)), (0, .ref 58), (1, .int p_sign)], [.int (M 60 (p_sign - 97).toNatClampNeg)], zh, M)) rfl ⟨g3, trivial⟩ ?_
      refine zF_eq (t := 26) (u := (23, [(2, .int (p_sign - 97)), (0, .ref 58), (1, .int p_sign)], [], zh, M)) rfl (fun c4 => ?_) (fun c4 => ?_)
      · rw [if_pos c4] at h
        refine zF_go (n := 4) (ps := []) (s' := (32, [(2, .int (p_sign - 97)), (0, .ref 58), (1, .int p_sign)], [.int 1], zh, (zw M 58 2 (p_sign - 97)))) rfl trivial ?_
        cases h
        exact zF_ret rfl trivial
      · rw [if_neg c4] at h
        refine zF_go (n := 1) (ps := []) (s' := (25, [], [.int 9], zh, M)) rfl trivial ?_
        cases h
        exact zF_ret rfl trivial
noncomputable def qA_takeMany (M : zM) (p_sign : Int32) : Option (Int32 × zM) :=
  if p_sign < 49 then
    (some (9, M))
  else
    (if (51 : Int32) < p_sign then
      (some (9, M))
    else
      (zq (vp_in (M 58 2) 4) <| some (2, (zw (zw M 60 (M 58 2).toNatClampNeg (p_sign - 48)) 58 1 ((M 58 1) + 1)))))
set_option maxRecDepth 20000 in
set_option maxHeartbeats 4000000 in
theorem qA_takeMany_ok {S : zSc} {M : zM} {p_sign : Int32} {r : Int32 × zM} (h : qA_takeMany M p_sign = some r) : zF S 35 (0, [(0, .ref 58), (1, .int p_sign)], [], zh, M) (some (.int r.1)) (r.2) := by
  unfold qA_takeMany at h
  refine zF_go (n := 2) (ps := []) (s' := (3, [(0, .ref 58), (1, .int p_sign)], [.int 49, .int p_sign], zh, M)) rfl trivial ?_
  refine zF_lt (t := 12) (u := (6, [(0, .ref 58), (1, .int p_sign)], [], zh, M)) rfl (fun c1 => ?_) (fun c1 => ?_)
  · rw [if_pos c1] at h
    refine zF_go (n := 1) (ps := []) (s' := (14, [], [.int 9], zh, M)) rfl trivial ?_
    cases h
    exact zF_ret rfl trivial
  · rw [if_neg c1] at h
    refine zF_go (n := 2) (ps := []) (s' := (9, [(0, .ref 58), (1, .int p_sign)], [.int 51, .int p_sign], zh, M)) rfl trivial ?_
    refine zF_le (t := 15) (u := (12, [(0, .ref 58), (1, .int p_sign)], [], zh, M)) rfl (fun c2 => ?_) (fun c2 => ?_)
    · rw [if_neg c2] at h
      obtain ⟨g3, h⟩ := zq_some h
      refine zF_go (n := 15) (ps := [vp_in (M 58 2) 4]) (s' := (39, [(0, .ref 58), (1, .int p_sign)], [.int 2], zh, (zw (zw M 60 (M 58 2).toNatClampNeg (p_sign - 48)) 58 1 ((M 58 1) + 1)))) rfl ⟨g3, trivial⟩ ?_
      cases h
      exact zF_ret rfl trivial
    · rw [if_pos c2] at h
      refine zF_go (n := 1) (ps := []) (s' := (14, [], [.int 9], zh, M)) rfl trivial ?_
      cases h
      exact zF_ret rfl trivial
noncomputable def qA_isDigit (p_sign : Int32) : Option (Int32) :=
  if p_sign < 48 then
    (some 0)
  else
    (if (57 : Int32) < p_sign then
      (some 0)
    else
      (some 1))
set_option maxRecDepth 20000 in
set_option maxHeartbeats 4000000 in
theorem qA_isDigit_ok {S : zSc} {M : zM} {p_sign : Int32} {r : Int32} (h : qA_isDigit p_sign = some r) : zF S 32 (0, [(0, .int p_sign)], [], zh, M) (some (.int r)) (M) := by
  unfold qA_isDigit at h
  refine zF_go (n := 2) (ps := []) (s' := (3, [(0, .int p_sign)], [.int 48, .int p_sign], zh, M)) rfl trivial ?_
  refine zF_lt (t := 16) (u := (6, [(0, .int p_sign)], [], zh, M)) rfl (fun c1 => ?_) (fun c1 => ?_)
  · rw [if_pos c1] at h
    refine zF_go (n := 1) (ps := []) (s' := (17, [], [.int 0], zh, M)) rfl trivial ?_
    cases h
    exact zF_ret rfl ⟨(Or.inl rfl), trivial⟩
  · rw [if_neg c1] at h
    refine zF_go (n := 2) (ps := []) (s' := (9, [(0, .int p_sign)], [.int 57, .int p_sign], zh, M)) rfl trivial ?_
    refine zF_gt (t := 16) (u := (12, [(0, .int p_sign)], [], zh, M)) rfl (fun c2 => ?_) (fun c2 => ?_)
    · rw [if_pos c2] at h
      refine zF_go (n := 1) (ps := []) (s' := (17, [], [.int 0], zh, M)) rfl trivial ?_
      cases h
      exact zF_ret rfl ⟨(Or.inl rfl), trivial⟩
    · rw [if_neg c2] at h
      refine zF_go (n := 2) (ps := []) (s' := (17, [(0, .int p_sign)], [.int 1], zh, M)) rfl trivial ?_
      cases h
      exact zF_ret rfl ⟨(Or.inr rfl), trivial⟩
noncomputable def qA_addDigit_58_61 (M : zM) (p_before : Int32) (p_sign : Int32) (p_next : Int32) : Option (Int32 × zM) :=
  zq (vp_in (M 58 2) 4) <| some (p_next, (zw M 61 (M 58 2).toNatClampNeg (((p_before * 10) + p_sign) - 48)))
set_option maxRecDepth 20000 in
set_option maxHeartbeats 4000000 in
theorem qA_addDigit_58_61_ok {S : zSc} {M : zM} {p_before : Int32} {p_sign : Int32} {p_next : Int32} {r : Int32 × zM} (h : qA_addDigit_58_61 M p_before p_sign p_next = some r) : zF S 36 (0, [(0, .ref 58), (1, .ref 61), (2, .int p_before), (3, .int p_sign), (4, .int p_next)], [], zh, M) (some (.int r.1)) (r.2) := by
  unfold qA_addDigit_58_61 at h
  obtain ⟨g1, h⟩ := zq_some h
  refine zF_go (n := 12) (ps := [vp_in (M 58 2) 4]) (s' := (17, [(0, .ref 58), (1, .ref 61), (2, .int p_before), (3, .int p_sign), (4, .int p_next)], [.int p_next], zh, (zw M 61 (M 58 2).toNatClampNeg (((p_before * 10) + p_sign) - 48)))) rfl ⟨g1, trivial⟩ ?_
  cases h
  exact zF_ret rfl trivial
noncomputable def qA_takeMark (M : zM) (p_sign : Int32) (p_mayGuess : Int32) : Option (Int32) :=
  zlj (fun (_ : Unit) =>
    if p_sign = 59 then
      (if (M 58 1) < 4 then
        (some 0)
      else
        (some 9))
    else
      (some 9)) fun k1 =>
  if p_mayGuess = 0 then
    (k1 ())
  else
    (if p_sign = 126 then
      (some 6)
    else
      (k1 ()))
set_option maxRecDepth 20000 in
set_option maxHeartbeats 4000000 in
theorem qA_takeMark_ok {S : zSc} {M : zM} {p_sign : Int32} {p_mayGuess : Int32} {r : Int32} (h : qA_takeMark M p_sign p_mayGuess = some r) : zF S 37 (0, [(0, .ref 58), (1, .int p_sign), (2, .int p_mayGuess)], [], zh, M) (some (.int r)) (M) := by
  unfold qA_takeMark at h
  refine zF_go (n := 1) (ps := []) (s' := (1, [(0, .ref 58), (1, .int p_sign), (2, .int p_mayGuess)], [.int p_mayGuess], zh, M)) rfl trivial ?_
  refine zlj_e h (fun k => ∀ (_ : Unit) r, k () = some r → zF S 37 (13, [(0, .ref 58), (1, .int p_sign)], [], zh, M) (some (.int r)) (M)) ?_ ?_
  · intro _ r h
    try dsimp only at h
    refine zF_go (n := 2) (ps := []) (s' := (16, [(0, .ref 58), (1, .int p_sign)], [.int 59, .int p_sign], zh, M)) rfl trivial ?_
    refine zF_ne (t := 31) (u := (19, [(0, .ref 58), (1, .int p_sign)], [], zh, M)) rfl (fun c2 => ?_) (fun c2 => ?_)
    · rw [if_neg c2] at h
      refine zF_go (n := 1) (ps := []) (s' := (33, [], [.int 9], zh, M)) rfl trivial ?_
      cases h
      exact zF_ret rfl trivial
    · rw [if_pos c2] at h
      refine zF_go (n := 3) (ps := []) (s' := (24, [(0, .ref 58), (1, .int p_sign)], [.int 4, .int (M 58 1)], zh, M)) rfl trivial ?_
      refine zF_ge (t := 31) (u := (27, [(0, .ref 58), (1, .int p_sign)], [], zh, M)) rfl (fun c3 => ?_) (fun c3 => ?_)
      · rw [if_neg c3] at h
        refine zF_go (n := 1) (ps := []) (s' := (33, [], [.int 9], zh, M)) rfl trivial ?_
        cases h
        exact zF_ret rfl trivial
      · rw [if_pos c3] at h
        refine zF_go (n := 2) (ps := []) (s' := (33, [(0, .ref 58), (1, .int p_sign)], [.int 0], zh, M)) rfl trivial ?_
        cases h
        exact zF_ret rfl trivial
  · intro k1 hk1 h
    try dsimp only at h
    refine zF_eq (t := 13) (u := (4, [(0, .ref 58), (1, .int p_sign), (2, .int p_mayGuess)], [], zh, M)) rfl (fun c4 => ?_) (fun c4 => ?_)
    · rw [if_pos c4] at h
      exact zF_as (hk1 () _ h) rfl
    · rw [if_neg c4] at h
      refine zF_go (n := 2) (ps := []) (s' := (7, [(0, .ref 58), (1, .int p_sign), (2, .int p_mayGuess)], [.int 126, .int p_sign], zh, M)) rfl trivial ?_
      refine zF_ne (t := 13) (u := (10, [(0, .ref 58), (1, .int p_sign), (2, .int p_mayGuess)], [], zh, M)) rfl (fun c5 => ?_) (fun c5 => ?_)
      · rw [if_neg c5] at h
        exact zF_as (hk1 () _ h) rfl
      · rw [if_pos c5] at h
        refine zF_go (n := 1) (ps := []) (s' := (12, [(0, .ref 58), (1, .int p_sign), (2, .int p_mayGuess)], [.int 6], zh, M)) rfl trivial ?_
        cases h
        exact zF_ret rfl trivial
noncomputable def qA_addDigit_58_62 (M : zM) (p_before : Int32) (p_sign : Int32) (p_next : Int32) : Option (Int32 × zM) :=
  zq (vp_in (M 58 2) 4) <| some (p_next, (zw M 62 (M 58 2).toNatClampNeg (((p_before * 10) + p_sign) - 48)))
set_option maxRecDepth 20000 in
set_option maxHeartbeats 4000000 in
theorem qA_addDigit_58_62_ok {S : zSc} {M : zM} {p_before : Int32} {p_sign : Int32} {p_next : Int32} {r : Int32 × zM} (h : qA_addDigit_58_62 M p_before p_sign p_next = some r) : zF S 36 (0, [(0, .ref 58), (1, .ref 62), (2, .int p_before), (3, .int p_sign), (4, .int p_next)], [], zh, M) (some (.int r.1)) (r.2) := by
  unfold qA_addDigit_58_62 at h
  obtain ⟨g1, h⟩ := zq_some h
  refine zF_go (n := 12) (ps := [vp_in (M 58 2) 4]) (s' := (17, [(0, .ref 58), (1, .ref 62), (2, .int p_before), (3, .int p_sign), (4, .int p_next)], [.int p_next], zh, (zw M 62 (M 58 2).toNatClampNeg (((p_before * 10) + p_sign) - 48)))) rfl ⟨g1, trivial⟩ ?_
  cases h
  exact zF_ret rfl trivial
noncomputable def qA_take (M : zM) (p_awaited : Int32) (p_sign : Int32) : Option (Int32 × zM) :=
  if p_awaited = 0 then
    (zb2 (qA_takeLetter M p_sign) fun x1 M2 =>
    some (x1, M2))
  else if p_awaited = 1 then
    (zb2 (qA_takeMany M p_sign) fun x3 M4 =>
    some (x3, M4))
  else if p_awaited = 2 then
    (if p_sign = 60 then
      (some (3, M))
    else
      (some (9, M)))
  else if p_awaited = 3 then
    (zb (qA_isDigit p_sign) fun x5 =>
    if x5 = 0 then
      (some (9, M))
    else
      (zb2 (qA_addDigit_58_61 M 0 p_sign 4) fun x6 M7 =>
      some (x6, M7)))
  else if p_awaited = 4 then
    (zb (qA_isDigit p_sign) fun x8 =>
    if x8 = 0 then
      (zb (qA_takeMark M p_sign 1) fun x9 =>
      some (x9, M))
    else
      (zq (vp_in (M 58 2) 4) <| zb2 (qA_addDigit_58_61 M (M 61 (M 58 2).toNatClampNeg) p_sign 5) fun x10 M11 =>
      some (x10, M11)))
  else if p_awaited = 5 then
    (zb (qA_takeMark M p_sign 1) fun x12 =>
    some (x12, M))
  else if p_awaited = 6 then
    (zb (qA_isDigit p_sign) fun x13 =>
    if x13 = 0 then
      (some (9, M))
    else
      (zb2 (qA_addDigit_58_62 M 0 p_sign 7) fun x14 M15 =>
      some (x14, M15)))
  else if p_awaited = 7 then
    (zb (qA_isDigit p_sign) fun x16 =>
    if x16 = 0 then
      (zb (qA_takeMark M p_sign 0) fun x17 =>
      some (x17, M))
    else
      (zq (vp_in (M 58 2) 4) <| zb2 (qA_addDigit_58_62 M (M 62 (M 58 2).toNatClampNeg) p_sign 8) fun x18 M19 =>
      some (x18, M19)))
  else 
    (zb (qA_takeMark M p_sign 0) fun x20 =>
    some (x20, M))
set_option maxRecDepth 20000 in
set_option maxHeartbeats 4000000 in
theorem qA_take_ok {S : zSc} {M : zM} {p_awaited : Int32} {p_sign : Int32} {r : Int32 × zM} (h : qA_take M p_awaited p_sign = some r) : zF S 33 (0, [(0, .ref 58), (1, .int p_awaited), (2, .int p_sign)], [], zh, M) (some (.int r.1)) (r.2) := by
  unfold qA_take at h
  refine zF_go (n := 1) (ps := []) (s' := (1, [(0, .ref 58), (1, .int p_awaited), (2, .int p_sign)], [.int p_awaited], zh, M)) rfl trivial ?_
  by_cases c21 : p_awaited = 0
  · rw [if_pos c21] at h
    refine zF_sw (t := 48) (lv := [(0, .ref 58), (1, .int p_awaited), (2, .int p_sign)]) (st := []) (M := M) rfl (by rw [c21]; rfl) ?_
    refine zF_go (n := 2) (ps := []) (s' := (50, [(0, .ref 58), (1, .int p_awaited), (2, .int p_sign)], [.int p_sign, .ref 58], zh, M)) rfl trivial ?_
    obtain ⟨x1, M2, e22, h⟩ := zb2_some h
    refine zF_call (y' := 34) (as := [.ref 58, .int p_sign]) (u := (53, [(0, .ref 58), (1, .int p_awaited), (2, .int p_sign)], [], zh, M)) rfl ⟨rfl, rfl⟩ rfl (qA_takeLetter_ok (S := S) (M := M) e22) ?_
    show zF S 33 (53, [(0, .ref 58), (1, .int p_awaited), (2, .int p_sign)], [.int x1], zh, M2) _ _
    cases h
    exact zF_ret rfl trivial
  rw [if_neg c21] at h
  by_cases c23 : p_awaited = 1
  · rw [if_pos c23] at h
    refine zF_sw (t := 54) (lv := [(0, .ref 58), (1, .int p_awaited), (2, .int p_sign)]) (st := []) (M := M) rfl (by rw [c23]; rfl) ?_
    refine zF_go (n := 2) (ps := []) (s' := (56, [(0, .ref 58), (1, .int p_awaited), (2, .int p_sign)], [.int p_sign, .ref 58], zh, M)) rfl trivial ?_
    obtain ⟨x3, M4, e24, h⟩ := zb2_some h
    refine zF_call (y' := 35) (as := [.ref 58, .int p_sign]) (u := (59, [(0, .ref 58), (1, .int p_awaited), (2, .int p_sign)], [], zh, M)) rfl ⟨rfl, rfl⟩ rfl (qA_takeMany_ok (S := S) (M := M) e24) ?_
    show zF S 33 (59, [(0, .ref 58), (1, .int p_awaited), (2, .int p_sign)], [.int x3], zh, M4) _ _
    cases h
    exact zF_ret rfl trivial
  rw [if_neg c23] at h
  by_cases c25 : p_awaited = 2
  · rw [if_pos c25] at h
    refine zF_sw (t := 60) (lv := [(0, .ref 58), (1, .int p_awaited), (2, .int p_sign)]) (st := []) (M := M) rfl (by rw [c25]; rfl) ?_
    refine zF_go (n := 2) (ps := []) (s' := (63, [(0, .ref 58), (1, .int p_awaited), (2, .int p_sign)], [.int 60, .int p_sign], zh, M)) rfl trivial ?_
    refine zF_ne (t := 70) (u := (66, [(0, .ref 58), (1, .int p_awaited), (2, .int p_sign)], [], zh, M)) rfl (fun c26 => ?_) (fun c26 => ?_)
    · rw [if_neg c26] at h
      refine zF_go (n := 1) (ps := []) (s' := (72, [(0, .ref 58), (1, .int p_awaited), (2, .int p_sign)], [.int 9], zh, M)) rfl trivial ?_
      cases h
      exact zF_ret rfl trivial
    · rw [if_pos c26] at h
      refine zF_go (n := 2) (ps := []) (s' := (72, [(0, .ref 58), (1, .int p_awaited), (2, .int p_sign)], [.int 3], zh, M)) rfl trivial ?_
      cases h
      exact zF_ret rfl trivial
  rw [if_neg c25] at h
  by_cases c27 : p_awaited = 3
  · rw [if_pos c27] at h
    refine zF_sw (t := 73) (lv := [(0, .ref 58), (1, .int p_awaited), (2, .int p_sign)]) (st := []) (M := M) rfl (by rw [c27]; rfl) ?_
    refine zF_go (n := 1) (ps := []) (s' := (74, [(0, .ref 58), (1, .int p_awaited), (2, .int p_sign)], [.int p_sign], zh, M)) rfl trivial ?_
    obtain ⟨x5, e28, h⟩ := zb_some h
    refine zF_call (y' := 32) (as := [.int p_sign]) (u := (77, [(0, .ref 58), (1, .int p_awaited), (2, .int p_sign)], [], zh, M)) rfl ⟨rfl, rfl⟩ rfl (qA_isDigit_ok (S := S) (M := M) e28) ?_
    show zF S 33 (77, [(0, .ref 58), (1, .int p_awaited), (2, .int p_sign)], [.int x5], zh, M) _ _
    refine zF_eq (t := 94) (u := (80, [(0, .ref 58), (1, .int p_awaited), (2, .int p_sign)], [], zh, M)) rfl (fun c29 => ?_) (fun c29 => ?_)
    · rw [if_pos c29] at h
      refine zF_go (n := 1) (ps := []) (s' := (96, [(0, .ref 58), (1, .int p_awaited), (2, .int p_sign)], [.int 9], zh, M)) rfl trivial ?_
      cases h
      exact zF_ret rfl trivial
    · rw [if_neg c29] at h
      refine zF_go (n := 6) (ps := []) (s' := (88, [(0, .ref 58), (1, .int p_awaited), (2, .int p_sign)], [.int 4, .int p_sign, .int 0, .ref 61, .ref 58], zh, M)) rfl trivial ?_
      obtain ⟨x6, M7, e30, h⟩ := zb2_some h
      refine zF_call (y' := 36) (as := [.ref 58, .ref 61, .int 0, .int p_sign, .int 4]) (u := (91, [(0, .ref 58), (1, .int p_awaited), (2, .int p_sign)], [], zh, M)) rfl ⟨rfl, rfl⟩ rfl (qA_addDigit_58_61_ok (S := S) (M := M) e30) ?_
      show zF S 33 (91, [(0, .ref 58), (1, .int p_awaited), (2, .int p_sign)], [.int x6], zh, M7) _ _
      refine zF_go (n := 1) (ps := []) (s' := (96, [(0, .ref 58), (1, .int p_awaited), (2, .int p_sign)], [.int x6], zh, M7)) rfl trivial ?_
      cases h
      exact zF_ret rfl trivial
  rw [if_neg c27] at h
  by_cases c31 : p_awaited = 4
  · rw [if_pos c31] at h
    refine zF_sw (t := 97) (lv := [(0, .ref 58), (1, .int p_awaited), (2, .int p_sign)]) (st := []) (M := M) rfl (by rw [c31]; rfl) ?_
    refine zF_go (n := 1) (ps := []) (s' := (98, [(0, .ref 58), (1, .int p_awaited), (2, .int p_sign)], [.int p_sign], zh, M)) rfl trivial ?_
    obtain ⟨x8, e32, h⟩ := zb_some h
    refine zF_call (y' := 32) (as := [.int p_sign]) (u := (101, [(0, .ref 58), (1, .int p_awaited), (2, .int p_sign)], [], zh, M)) rfl ⟨rfl, rfl⟩ rfl (qA_isDigit_ok (S := S) (M := M) e32) ?_
    show zF S 33 (101, [(0, .ref 58), (1, .int p_awaited), (2, .int p_sign)], [.int x8], zh, M) _ _
    refine zF_eq (t := 126) (u := (104, [(0, .ref 58), (1, .int p_awaited), (2, .int p_sign)], [], zh, M)) rfl (fun c33 => ?_) (fun c33 => ?_)
    · rw [if_pos c33] at h
      refine zF_go (n := 3) (ps := []) (s' := (129, [(0, .ref 58), (1, .int p_awaited), (2, .int p_sign)], [.int 1, .int p_sign, .ref 58], zh, M)) rfl trivial ?_
      obtain ⟨x9, e34, h⟩ := zb_some h
      refine zF_call (y' := 37) (as := [.ref 58, .int p_sign, .int 1]) (u := (132, [(0, .ref 58), (1, .int p_awaited), (2, .int p_sign)], [], zh, M)) rfl ⟨rfl, rfl⟩ rfl (qA_takeMark_ok (S := S) (M := M) e34) ?_
      show zF S 33 (132, [(0, .ref 58), (1, .int p_awaited), (2, .int p_sign)], [.int x9], zh, M) _ _
      cases h
      exact zF_ret rfl trivial
    · rw [if_neg c33] at h
      obtain ⟨g35, h⟩ := zq_some h
      refine zF_go (n := 10) (ps := [vp_in (M 58 2) 4]) (s' := (120, [(0, .ref 58), (1, .int p_awaited), (2, .int p_sign)], [.int 5, .int p_sign, .int (M 61 (M 58 2).toNatClampNeg), .ref 61, .ref 58], zh, M)) rfl ⟨g35, trivial⟩ ?_
      obtain ⟨x10, M11, e36, h⟩ := zb2_some h
      refine zF_call (y' := 36) (as := [.ref 58, .ref 61, .int (M 61 (M 58 2).toNatClampNeg), .int p_sign, .int 5]) (u := (123, [(0, .ref 58), (1, .int p_awaited), (2, .int p_sign)], [], zh, M)) rfl ⟨rfl, rfl⟩ rfl (qA_addDigit_58_61_ok (S := S) (M := M) e36) ?_
      show zF S 33 (123, [(0, .ref 58), (1, .int p_awaited), (2, .int p_sign)], [.int x10], zh, M11) _ _
      refine zF_go (n := 1) (ps := []) (s' := (132, [(0, .ref 58), (1, .int p_awaited), (2, .int p_sign)], [.int x10], zh, M11)) rfl trivial ?_
      cases h
      exact zF_ret rfl trivial
  rw [if_neg c31] at h
  by_cases c37 : p_awaited = 5
  · rw [if_pos c37] at h
    refine zF_sw (t := 133) (lv := [(0, .ref 58), (1, .int p_awaited), (2, .int p_sign)]) (st := []) (M := M) rfl (by rw [c37]; rfl) ?_
    refine zF_go (n := 3) (ps := []) (s' := (136, [(0, .ref 58), (1, .int p_awaited), (2, .int p_sign)], [.int 1, .int p_sign, .ref 58], zh, M)) rfl trivial ?_
    obtain ⟨x12, e38, h⟩ := zb_some h
    refine zF_call (y' := 37) (as := [.ref 58, .int p_sign, .int 1]) (u := (139, [(0, .ref 58), (1, .int p_awaited), (2, .int p_sign)], [], zh, M)) rfl ⟨rfl, rfl⟩ rfl (qA_takeMark_ok (S := S) (M := M) e38) ?_
    show zF S 33 (139, [(0, .ref 58), (1, .int p_awaited), (2, .int p_sign)], [.int x12], zh, M) _ _
    cases h
    exact zF_ret rfl trivial
  rw [if_neg c37] at h
  by_cases c39 : p_awaited = 6
  · rw [if_pos c39] at h
    refine zF_sw (t := 140) (lv := [(0, .ref 58), (1, .int p_awaited), (2, .int p_sign)]) (st := []) (M := M) rfl (by rw [c39]; rfl) ?_
    refine zF_go (n := 1) (ps := []) (s' := (141, [(0, .ref 58), (1, .int p_awaited), (2, .int p_sign)], [.int p_sign], zh, M)) rfl trivial ?_
    obtain ⟨x13, e40, h⟩ := zb_some h
    refine zF_call (y' := 32) (as := [.int p_sign]) (u := (144, [(0, .ref 58), (1, .int p_awaited), (2, .int p_sign)], [], zh, M)) rfl ⟨rfl, rfl⟩ rfl (qA_isDigit_ok (S := S) (M := M) e40) ?_
    show zF S 33 (144, [(0, .ref 58), (1, .int p_awaited), (2, .int p_sign)], [.int x13], zh, M) _ _
    refine zF_eq (t := 162) (u := (147, [(0, .ref 58), (1, .int p_awaited), (2, .int p_sign)], [], zh, M)) rfl (fun c41 => ?_) (fun c41 => ?_)
    · rw [if_pos c41] at h
      refine zF_go (n := 1) (ps := []) (s' := (164, [(0, .ref 58), (1, .int p_awaited), (2, .int p_sign)], [.int 9], zh, M)) rfl trivial ?_
      cases h
      exact zF_ret rfl trivial
    · rw [if_neg c41] at h
      refine zF_go (n := 6) (ps := []) (s' := (156, [(0, .ref 58), (1, .int p_awaited), (2, .int p_sign)], [.int 7, .int p_sign, .int 0, .ref 62, .ref 58], zh, M)) rfl trivial ?_
      obtain ⟨x14, M15, e42, h⟩ := zb2_some h
      refine zF_call (y' := 36) (as := [.ref 58, .ref 62, .int 0, .int p_sign, .int 7]) (u := (159, [(0, .ref 58), (1, .int p_awaited), (2, .int p_sign)], [], zh, M)) rfl ⟨rfl, rfl⟩ rfl (qA_addDigit_58_62_ok (S := S) (M := M) e42) ?_
      show zF S 33 (159, [(0, .ref 58), (1, .int p_awaited), (2, .int p_sign)], [.int x14], zh, M15) _ _
      refine zF_go (n := 1) (ps := []) (s' := (164, [(0, .ref 58), (1, .int p_awaited), (2, .int p_sign)], [.int x14], zh, M15)) rfl trivial ?_
      cases h
      exact zF_ret rfl trivial
  rw [if_neg c39] at h
  by_cases c43 : p_awaited = 7
  · rw [if_pos c43] at h
    refine zF_sw (t := 165) (lv := [(0, .ref 58), (1, .int p_awaited), (2, .int p_sign)]) (st := []) (M := M) rfl (by rw [c43]; rfl) ?_
    refine zF_go (n := 1) (ps := []) (s' := (166, [(0, .ref 58), (1, .int p_awaited), (2, .int p_sign)], [.int p_sign], zh, M)) rfl trivial ?_
    obtain ⟨x16, e44, h⟩ := zb_some h
    refine zF_call (y' := 32) (as := [.int p_sign]) (u := (169, [(0, .ref 58), (1, .int p_awaited), (2, .int p_sign)], [], zh, M)) rfl ⟨rfl, rfl⟩ rfl (qA_isDigit_ok (S := S) (M := M) e44) ?_
    show zF S 33 (169, [(0, .ref 58), (1, .int p_awaited), (2, .int p_sign)], [.int x16], zh, M) _ _
    refine zF_eq (t := 195) (u := (172, [(0, .ref 58), (1, .int p_awaited), (2, .int p_sign)], [], zh, M)) rfl (fun c45 => ?_) (fun c45 => ?_)
    · rw [if_pos c45] at h
      refine zF_go (n := 3) (ps := []) (s' := (198, [(0, .ref 58), (1, .int p_awaited), (2, .int p_sign)], [.int 0, .int p_sign, .ref 58], zh, M)) rfl trivial ?_
      obtain ⟨x17, e46, h⟩ := zb_some h
      refine zF_call (y' := 37) (as := [.ref 58, .int p_sign, .int 0]) (u := (201, [(0, .ref 58), (1, .int p_awaited), (2, .int p_sign)], [], zh, M)) rfl ⟨rfl, rfl⟩ rfl (qA_takeMark_ok (S := S) (M := M) e46) ?_
      show zF S 33 (201, [(0, .ref 58), (1, .int p_awaited), (2, .int p_sign)], [.int x17], zh, M) _ _
      cases h
      exact zF_ret rfl trivial
    · rw [if_neg c45] at h
      obtain ⟨g47, h⟩ := zq_some h
      refine zF_go (n := 10) (ps := [vp_in (M 58 2) 4]) (s' := (189, [(0, .ref 58), (1, .int p_awaited), (2, .int p_sign)], [.int 8, .int p_sign, .int (M 62 (M 58 2).toNatClampNeg), .ref 62, .ref 58], zh, M)) rfl ⟨g47, trivial⟩ ?_
      obtain ⟨x18, M19, e48, h⟩ := zb2_some h
      refine zF_call (y' := 36) (as := [.ref 58, .ref 62, .int (M 62 (M 58 2).toNatClampNeg), .int p_sign, .int 8]) (u := (192, [(0, .ref 58), (1, .int p_awaited), (2, .int p_sign)], [], zh, M)) rfl ⟨rfl, rfl⟩ rfl (qA_addDigit_58_62_ok (S := S) (M := M) e48) ?_
      show zF S 33 (192, [(0, .ref 58), (1, .int p_awaited), (2, .int p_sign)], [.int x18], zh, M19) _ _
      refine zF_go (n := 1) (ps := []) (s' := (201, [(0, .ref 58), (1, .int p_awaited), (2, .int p_sign)], [.int x18], zh, M19)) rfl trivial ?_
      cases h
      exact zF_ret rfl trivial
  rw [if_neg c43] at h
  refine zF_sw (t := 202) (lv := [(0, .ref 58), (1, .int p_awaited), (2, .int p_sign)]) (st := []) (M := M) rfl (ztab_d (fun j hj => match j, hj with | 0, _ => Or.inr (lv_neT c21 (show (0 : Int32).toInt = (0 : Int) + ((0 : Nat) : Int) from rfl)) | 1, _ => Or.inr (lv_neT c23 (show (1 : Int32).toInt = (0 : Int) + ((1 : Nat) : Int) from rfl)) | 2, _ => Or.inr (lv_neT c25 (show (2 : Int32).toInt = (0 : Int) + ((2 : Nat) : Int) from rfl)) | 3, _ => Or.inr (lv_neT c27 (show (3 : Int32).toInt = (0 : Int) + ((3 : Nat) : Int) from rfl)) | 4, _ => Or.inr (lv_neT c31 (show (4 : Int32).toInt = (0 : Int) + ((4 : Nat) : Int) from rfl)) | 5, _ => Or.inr (lv_neT c37 (show (5 : Int32).toInt = (0 : Int) + ((5 : Nat) : Int) from rfl)) | 6, _ => Or.inr (lv_neT c39 (show (6 : Int32).toInt = (0 : Int) + ((6 : Nat) : Int) from rfl)) | 7, _ => Or.inr (lv_neT c43 (show (7 : Int32).toInt = (0 : Int) + ((7 : Nat) : Int) from rfl)) | j + 8, hj => absurd hj (Nat.not_lt.mpr (Nat.le_add_left 8 j)))) ?_
  refine zF_go (n := 3) (ps := []) (s' := (205, [(0, .ref 58), (1, .int p_awaited), (2, .int p_sign)], [.int 0, .int p_sign, .ref 58], zh, M)) rfl trivial ?_
  obtain ⟨x20, e49, h⟩ := zb_some h
  refine zF_call (y' := 37) (as := [.ref 58, .int p_sign, .int 0]) (u := (208, [(0, .ref 58), (1, .int p_awaited), (2, .int p_sign)], [], zh, M)) rfl ⟨rfl, rfl⟩ rfl (qA_takeMark_ok (S := S) (M := M) e49) ?_
  show zF S 33 (208, [(0, .ref 58), (1, .int p_awaited), (2, .int p_sign)], [.int x20], zh, M) _ _
  cases h
  exact zF_ret rfl trivial
noncomputable def qA_read_L49 (rec7 : (Int32 × Int32 × zM) → Option (Int32 × zM)) (v : Int32 × Int32 × zM) : Option (Int32 × zM) := match v with
  | (v1_4, v2_5, M6) =>
    if v2_5 < (M6 58 0) then
      (zq (vp_in v2_5 40) <| zb2 (qA_take M6 v1_4 (M6 59 v2_5.toNatClampNeg)) fun x9 M10 =>
      if x9 = 9 then
        (some (v2_5, M10))
      else
        (rec7 (x9, (v2_5 + 1), M10)))
    else
      (zb (qA_mayEnd v1_4) fun x8 =>
      if x8 = 0 then
        (some ((M6 58 0), M6))
      else
        (some ((-6), M6)))
noncomputable def qA_read_L12 (rec3 : (Int32 × zM) → Option (Int32 × zM)) (v : Int32 × zM) : Option (Int32 × zM) := match v with
  | (v1_1, M2) =>
    if v1_1 < 4 then
      (zq (vp_in v1_1 4) <| zq (vp_in v1_1 4) <| zq (vp_in v1_1 4) <| rec3 ((v1_1 + 1), (zw (zw (zw M2 60 v1_1.toNatClampNeg 0) 61 v1_1.toNatClampNeg 0) 62 v1_1.toNatClampNeg (-6))))
    else
      (zlp (qA_read_L49) zfu (0, 0, M2))
noncomputable def qA_read (M : zM) : Option (Int32 × zM) :=
  zlp (qA_read_L12) zfu (0, (zw (zw M 58 1 0) 58 2 0))
set_option maxRecDepth 20000 in
set_option maxHeartbeats 4000000 in
theorem qA_read_ok {S : zSc} {M : zM} {r : Int32 × zM} (h : qA_read M = some r) : zF S 29 (0, [(0, .ref 58)], [], zh, M) (some (.int r.1)) (r.2) := by
  unfold qA_read at h
  refine zF_go (n := 8) (ps := []) (s' := (12, [(1, .int 0), (0, .ref 58)], [], zh, (zw (zw M 58 1 0) 58 2 0))) rfl trivial ?_
  refine zF_same (s' := (12, [(0, .ref 58), (1, .int 0)], [], zh, (zw (zw M 58 1 0) 58 2 0))) rfl ?_
  refine zlp_ind (P := fun (v : Int32 × zM) r => zF S 29 (12, [(0, .ref 58), (1, .int v.1)], [], zh, v.2) (some (.int r.1)) (r.2)) ?_ _ _ _ h
  intro rec3 hrec3 v r h
  obtain ⟨v1_1, M2⟩ := v
  unfold qA_read_L12 at h
  dsimp only at h
  show zF S 29 (12, [(0, .ref 58), (1, .int v1_1)], [], zh, M2) _ _
  refine zF_go (n := 2) (ps := []) (s' := (14, [(0, .ref 58), (1, .int v1_1)], [.int 4, .int v1_1], zh, M2)) rfl trivial ?_
  refine zF_ge (t := 45) (u := (17, [(0, .ref 58), (1, .int v1_1)], [], zh, M2)) rfl (fun c11 => ?_) (fun c11 => ?_)
  · rw [if_neg c11] at h
    refine zF_go (n := 4) (ps := []) (s' := (49, [(2, .int 0), (1, .int 0), (0, .ref 58)], [], zh, M2)) rfl trivial ?_
    refine zF_same (s' := (49, [(0, .ref 58), (1, .int 0), (2, .int 0)], [], zh, M2)) rfl ?_
    refine zlp_ind (P := fun (v : Int32 × Int32 × zM) r => zF S 29 (49, [(0, .ref 58), (1, .int v.1), (2, .int v.2.1)], [], zh, v.2.2) (some (.int r.1)) (r.2)) ?_ _ _ _ h
    intro rec7 hrec7 v r h
    obtain ⟨v1_4, v2_5, M6⟩ := v
    unfold qA_read_L49 at h
    dsimp only at h
    show zF S 29 (49, [(0, .ref 58), (1, .int v1_4), (2, .int v2_5)], [], zh, M6) _ _
    refine zF_go (n := 3) (ps := []) (s' := (54, [(0, .ref 58), (1, .int v1_4), (2, .int v2_5)], [.int (M6 58 0), .int v2_5], zh, M6)) rfl trivial ?_
    refine zF_ge (t := 83) (u := (57, [(0, .ref 58), (1, .int v1_4), (2, .int v2_5)], [], zh, M6)) rfl (fun c12 => ?_) (fun c12 => ?_)
    · rw [if_neg c12] at h
      refine zF_go (n := 1) (ps := []) (s' := (84, [(0, .ref 58), (1, .int v1_4), (2, .int v2_5)], [.int v1_4], zh, M6)) rfl trivial ?_
      obtain ⟨x8, e13, h⟩ := zb_some h
      refine zF_call (y' := 31) (as := [.int v1_4]) (u := (87, [(0, .ref 58), (1, .int v1_4), (2, .int v2_5)], [], zh, M6)) rfl ⟨rfl, rfl⟩ rfl (qA_mayEnd_ok (S := S) (M := M6) e13) ?_
      show zF S 29 (87, [(0, .ref 58), (1, .int v1_4), (2, .int v2_5)], [.int x8], zh, M6) _ _
      refine zF_eq (t := 95) (u := (90, [(0, .ref 58), (1, .int v1_4), (2, .int v2_5)], [], zh, M6)) rfl (fun c14 => ?_) (fun c14 => ?_)
      · rw [if_pos c14] at h
        refine zF_go (n := 2) (ps := []) (s' := (99, [(0, .ref 58), (1, .int v1_4), (2, .int v2_5)], [.int (M6 58 0)], zh, M6)) rfl trivial ?_
        cases h
        exact zF_ret rfl trivial
      · rw [if_neg c14] at h
        refine zF_go (n := 2) (ps := []) (s' := (99, [(0, .ref 58), (1, .int v1_4), (2, .int v2_5)], [.int (-6)], zh, M6)) rfl trivial ?_
        cases h
        exact zF_ret rfl trivial
    · rw [if_pos c12] at h
      obtain ⟨g15, h⟩ := zq_some h
      refine zF_go (n := 6) (ps := [vp_in v2_5 40]) (s' := (65, [(0, .ref 58), (1, .int v1_4), (2, .int v2_5)], [.int (M6 59 v2_5.toNatClampNeg), .int v1_4, .ref 58], zh, M6)) rfl ⟨g15, trivial⟩ ?_
      obtain ⟨x9, M10, e16, h⟩ := zb2_some h
      refine zF_call (y' := 33) (as := [.ref 58, .int v1_4, .int (M6 59 v2_5.toNatClampNeg)]) (u := (68, [(0, .ref 58), (1, .int v1_4), (2, .int v2_5)], [], zh, M6)) rfl ⟨rfl, rfl⟩ rfl (qA_take_ok (S := S) (M := M6) e16) ?_
      show zF S 29 (68, [(0, .ref 58), (1, .int v1_4), (2, .int v2_5)], [.int x9], zh, M10) _ _
      refine zF_go (n := 3) (ps := []) (s' := (72, [(1, .int x9), (0, .ref 58), (2, .int v2_5)], [.int 9, .int x9], zh, M10)) rfl trivial ?_
      refine zF_ne (t := 77) (u := (75, [(1, .int x9), (0, .ref 58), (2, .int v2_5)], [], zh, M10)) rfl (fun c17 => ?_) (fun c17 => ?_)
      · rw [if_neg c17] at h
        refine zF_go (n := 2) (ps := []) (s' := (49, [(2, .int (v2_5 + 1)), (1, .int x9), (0, .ref 58)], [], zh, M10)) rfl trivial ?_
        exact zF_as (hrec7 _ _ h) rfl
      · rw [if_pos c17] at h
        refine zF_go (n := 1) (ps := []) (s' := (76, [(1, .int x9), (0, .ref 58), (2, .int v2_5)], [.int v2_5], zh, M10)) rfl trivial ?_
        cases h
        exact zF_ret rfl trivial
  · rw [if_pos c11] at h
    obtain ⟨g18, h⟩ := zq_some h
    obtain ⟨g19, h⟩ := zq_some h
    obtain ⟨g20, h⟩ := zq_some h
    refine zF_go (n := 17) (ps := [vp_in v1_1 4, vp_in v1_1 4, vp_in v1_1 4]) (s' := (12, [(1, .int (v1_1 + 1)), (0, .ref 58)], [], zh, (zw (zw (zw M2 60 v1_1.toNatClampNeg 0) 61 v1_1.toNatClampNeg 0) 62 v1_1.toNatClampNeg (-6)))) rfl ⟨g18, g19, g20, trivial⟩ ?_
    exact zF_as (hrec3 _ _ h) rfl
noncomputable def qS_fault (M : zM) : Option (Int32 × zM) :=
  zb2 (qA_read M) fun x1 M2 =>
  some (x1, M2)
set_option maxRecDepth 20000 in
set_option maxHeartbeats 4000000 in
theorem qS_fault_ok {S : zSc} {M : zM} {r : Int32 × zM} (h : qS_fault M = some r) : zF S 95 (0, [(0, .ref 1)], [], zh, M) (some (.int r.1)) (r.2) := by
  unfold qS_fault at h
  refine zF_go (n := 2) (ps := []) (s' := (4, [(0, .ref 1)], [.ref 58], zh, M)) rfl trivial ?_
  obtain ⟨x1, M2, e3, h⟩ := zb2_some h
  refine zF_call (y' := 29) (as := [.ref 58]) (u := (7, [(0, .ref 1)], [], zh, M)) rfl ⟨rfl, rfl⟩ rfl (qA_read_ok (S := S) (M := M) e3) ?_
  show zF S 95 (7, [(0, .ref 1)], [.int x1], zh, M2) _ _
  cases h
  exact zF_ret rfl trivial
end ZT
