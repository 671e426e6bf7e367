section ZT
noncomputable def qS_isOut (p_v : Int32) (p_low : Int32) (p_high : Int32) : Option (Int32) :=
  if p_v < p_low then
    (some 1)
  else
    (if p_high < p_v then
      (some 1)
    else
      (some 0))
set_option maxRecDepth 20000 in
set_option maxHeartbeats 4000000 in
theorem qS_isOut_ok {S : zSc} {M : zM} {p_v : Int32} {p_low : Int32} {p_high : Int32} {r : Int32} (h : qS_isOut p_v p_low p_high = some r) : zF S 125 (0, [(0, .int p_v), (1, .int p_low), (2, .int p_high)], [], zh, M) (some (.int r)) (M) := by
  unfold qS_isOut at h
  refine zF_go (n := 2) (ps := []) (s' := (2, [(0, .int p_v), (1, .int p_low), (2, .int p_high)], [.int p_low, .int p_v], zh, M)) rfl trivial ?_
  refine zF_lt (t := 10) (u := (5, [(0, .int p_v), (1, .int p_low), (2, .int p_high)], [], zh, M)) rfl (fun c1 => ?_) (fun c1 => ?_)
  · rw [if_pos c1] at h
    refine zF_go (n := 2) (ps := []) (s' := (15, [], [.int 1], zh, M)) rfl trivial ?_
    cases h
    exact zF_ret rfl ⟨(Or.inr rfl), trivial⟩
  · rw [if_neg c1] at h
    refine zF_go (n := 2) (ps := []) (s' := (7, [(0, .int p_v), (1, .int p_low), (2, .int p_high)], [.int p_high, .int p_v], zh, M)) rfl trivial ?_
    refine zF_le (t := 14) (u := (10, [(0, .int p_v), (1, .int p_low), (2, .int p_high)], [], zh, M)) rfl (fun c2 => ?_) (fun c2 => ?_)
    · rw [if_neg c2] at h
      refine zF_go (n := 1) (ps := []) (s' := (15, [(0, .int p_v), (1, .int p_low), (2, .int p_high)], [.int 0], zh, M)) rfl trivial ?_
      cases h
      exact zF_ret rfl ⟨(Or.inl rfl), trivial⟩
    · rw [if_pos c2] at h
      refine zF_go (n := 2) (ps := []) (s' := (15, [], [.int 1], zh, M)) rfl trivial ?_
      cases h
      exact zF_ret rfl ⟨(Or.inr rfl), trivial⟩
noncomputable def qD_forget (M : zM) : Option (zM) :=
  some (zw M 78 6 0)
set_option maxRecDepth 20000 in
set_option maxHeartbeats 4000000 in
theorem qD_forget_ok {S : zSc} {M : zM} {r : zM} (h : qD_forget M = some r) : zF S 1 (0, [(0, .ref 78)], [], zh, M) (none) (r) := by
  unfold qD_forget at h
  refine zF_go (n := 3) (ps := [(0 : Int32) = 0 ∨ (0 : Int32) = 1]) (s' := (5, [(0, .ref 78)], [], zh, (zw M 78 6 0))) rfl ⟨(Or.inl rfl), trivial⟩ ?_
  cases h
  exact zF_ret rfl trivial
noncomputable def qG_addThing_L27 (M : zM) (p_costHere : Int32) (p_costThere : Int32) (rec3 : (Int32 × zM) → Option (Int32 × zM)) (v : Int32 × zM) : Option (Int32 × zM) := match v with
  | (v5_1, M2) =>
    if v5_1 < 2 then
      (zq (vp_in ((v5_1 * 4) + (M 3 0)) 8) <| zq (vp_in ((v5_1 * 4) + (M 3 0)) 8) <| zq (vp_in ((v5_1 * 4) + (M 3 0)) 8) <| rec3 ((v5_1 + 1), (zw (zw (zw M2 6 ((v5_1 * 4) + (M 3 0)).toNatClampNeg (if v5_1 = 0 then p_costHere else p_costThere)) 7 ((v5_1 * 4) + (M 3 0)).toNatClampNeg 3) 8 ((v5_1 * 4) + (M 3 0)).toNatClampNeg 0)))
    else
      (some ((M 3 0), (zw M2 3 0 ((M2 3 0) + 1))))
noncomputable def qG_addThing (M : zM) (p_costHere : Int32) (p_costThere : Int32) (p_first : Int32) : Option (Int32 × zM) :=
  zq (vp_in (M 3 0) 4) <| zq (vp_in ((M 3 0) * 3) 12) <| zlp (qG_addThing_L27 M p_costHere p_costThere) zfu (0, (zw (zw M 4 (M 3 0).toNatClampNeg 1) 5 ((M 3 0) * 3).toNatClampNeg p_first))
set_option maxRecDepth 20000 in
set_option maxHeartbeats 4000000 in
theorem qG_addThing_ok {S : zSc} {M : zM} {p_costHere : Int32} {p_costThere : Int32} {p_first : Int32} {r : Int32 × zM} (h : qG_addThing M p_costHere p_costThere p_first = some r) : zF S 14 (0, [(0, .ref 3), (1, .int p_costHere), (2, .int p_costThere), (3, .int p_first)], [], zh, M) (some (.int r.1)) (r.2) := by
  unfold qG_addThing at h
  obtain ⟨g5, h⟩ := zq_some h
  obtain ⟨g6, h⟩ := zq_some h
  refine zF_go (n := 17) (ps := [vp_in (M 3 0) 4, vp_in ((M 3 0) * 3) 12]) (s' := (27, [(5, .int 0), (4, .int (M 3 0)), (0, .ref 3), (1, .int p_costHere), (2, .int p_costThere), (3, .int p_first)], [], zh, (zw (zw M 4 (M 3 0).toNatClampNeg 1) 5 ((M 3 0) * 3).toNatClampNeg p_first))) rfl ⟨g5, g6, trivial⟩ ?_
  refine zF_same (s' := (27, [(0, .ref 3), (1, .int p_costHere), (2, .int p_costThere), (4, .int (M 3 0)), (5, .int 0)], [], zh, (zw (zw M 4 (M 3 0).toNatClampNeg 1) 5 ((M 3 0) * 3).toNatClampNeg p_first))) rfl ?_
  refine zlp_ind (P := fun (v : Int32 × zM) r => zF S 14 (27, [(0, .ref 3), (1, .int p_costHere), (2, .int p_costThere), (4, .int (M 3 0)), (5, .int v.1)], [], zh, v.2) (some (.int r.1)) (r.2)) ?_ _ _ _ h
  intro rec3 hrec3 v r h
  obtain ⟨v5_1, M2⟩ := v
  unfold qG_addThing_L27 at h
  dsimp only at h
  show zF S 14 (27, [(0, .ref 3), (1, .int p_costHere), (2, .int p_costThere), (4, .int (M 3 0)), (5, .int v5_1)], [], zh, M2) _ _
  refine zF_go (n := 2) (ps := []) (s' := (30, [(0, .ref 3), (1, .int p_costHere), (2, .int p_costThere), (4, .int (M 3 0)), (5, .int v5_1)], [.int 2, .int v5_1], zh, M2)) rfl trivial ?_
  refine zF_ge (t := 87) (u := (33, [(0, .ref 3), (1, .int p_costHere), (2, .int p_costThere), (4, .int (M 3 0)), (5, .int v5_1)], [], zh, M2)) rfl (fun c7 => ?_) (fun c7 => ?_)
  · rw [if_neg c7] at h
    refine zF_go (n := 7) (ps := []) (s' := (99, [(0, .ref 3), (1, .int p_costHere), (2, .int p_costThere), (4, .int (M 3 0)), (5, .int v5_1)], [.int (M 3 0)], zh, (zw M2 3 0 ((M2 3 0) + 1)))) rfl trivial ?_
    cases h
    exact zF_ret rfl trivial
  · rw [if_pos c7] at h
    refine zF_go (n := 8) (ps := []) (s' := (46, [(0, .ref 3), (1, .int p_costHere), (2, .int p_costThere), (4, .int (M 3 0)), (5, .int v5_1)], [.int v5_1, .int ((v5_1 * 4) + (M 3 0)), .ref 6], zh, M2)) rfl trivial ?_
    have hk8 : zF S 14 (54, [(0, .ref 3), (1, .int p_costHere), (2, .int p_costThere), (4, .int (M 3 0)), (5, .int v5_1)], [.int (if v5_1 = 0 then p_costHere else p_costThere), .int ((v5_1 * 4) + (M 3 0)), .ref 6], zh, M2) (some (.int r.1)) (r.2) := by
      obtain ⟨g9, h⟩ := zq_some h
      obtain ⟨g10, h⟩ := zq_some h
      obtain ⟨g11, h⟩ := zq_some h
      refine zF_go (n := 21) (ps := [vp_in ((v5_1 * 4) + (M 3 0)) 8, vp_in ((v5_1 * 4) + (M 3 0)) 8, vp_in ((v5_1 * 4) + (M 3 0)) 8]) (s' := (27, [(5, .int (v5_1 + 1)), (0, .ref 3), (1, .int p_costHere), (2, .int p_costThere), (4, .int (M 3 0))], [], zh, (zw (zw (zw M2 6 ((v5_1 * 4) + (M 3 0)).toNatClampNeg (if v5_1 = 0 then p_costHere else p_costThere)) 7 ((v5_1 * 4) + (M 3 0)).toNatClampNeg 3) 8 ((v5_1 * 4) + (M 3 0)).toNatClampNeg 0))) rfl ⟨g9, g10, g11, trivial⟩ ?_
      exact zF_as (hrec3 _ _ h) rfl
    refine zF_ne (t := 53) (u := (49, [(0, .ref 3), (1, .int p_costHere), (2, .int p_costThere), (4, .int (M 3 0)), (5, .int v5_1)], [.int ((v5_1 * 4) + (M 3 0)), .ref 6], zh, M2)) rfl (fun c12 => ?_) (fun c12 => ?_)
    · skip
      refine zF_go (n := 1) (ps := []) (s' := (54, [(0, .ref 3), (1, .int p_costHere), (2, .int p_costThere), (4, .int (M 3 0)), (5, .int v5_1)], [.int p_costThere, .int ((v5_1 * 4) + (M 3 0)), .ref 6], zh, M2)) rfl trivial ?_
      simp only [if_neg c12] at hk8
      try simp only [if_neg c12]
      exact zF_as hk8 rfl
    · skip
      refine zF_go (n := 2) (ps := []) (s' := (54, [(0, .ref 3), (1, .int p_costHere), (2, .int p_costThere), (4, .int (M 3 0)), (5, .int v5_1)], [.int p_costHere, .int ((v5_1 * 4) + (M 3 0)), .ref 6], zh, M2)) rfl trivial ?_
      simp only [if_pos c12] at hk8
      try simp only [if_pos c12]
      exact zF_as hk8 rfl
noncomputable def qS_thing (M : zM) (p_cost : Int32) (p_other : Int32) (p_price : Int32) : Option (Int32 × zM) :=
  zb (qS_isOut p_cost 0 99) fun x1 =>
  if x1 = 0 then
    (zb (qS_isOut p_other 0 99) fun x2 =>
    if x2 = 0 then
      (zb (qS_isOut p_price 0 99) fun x3 =>
      if x3 = 0 then
        (if (M 3 0) < 4 then
          (zb (qD_forget M) fun M4 =>
          zb2 (qG_addThing M4 p_cost p_other p_price) fun x5 M6 =>
          some (x5, M6))
        else
          (some ((-4), M)))
      else
        (some ((-2), M)))
    else
      (some ((-2), M)))
  else
    (some ((-2), M))
set_option maxRecDepth 20000 in
set_option maxHeartbeats 4000000 in
theorem qS_thing_ok {S : zSc} {M : zM} {p_cost : Int32} {p_other : Int32} {p_price : Int32} {r : Int32 × zM} (h : qS_thing M p_cost p_other p_price = some r) : zF S 87 (0, [(0, .ref 1), (1, .int p_cost), (2, .int p_other), (3, .int p_price)], [], zh, M) (some (.int r.1)) (r.2) := by
  unfold qS_thing at h
  refine zF_go (n := 3) (ps := []) (s' := (4, [(0, .ref 1), (1, .int p_cost), (2, .int p_other), (3, .int p_price)], [.int 99, .int 0, .int p_cost], zh, M)) rfl trivial ?_
  obtain ⟨x1, e7, h⟩ := zb_some h
  refine zF_call (y' := 125) (as := [.int p_cost, .int 0, .int 99]) (u := (7, [(0, .ref 1), (1, .int p_cost), (2, .int p_other), (3, .int p_price)], [], zh, M)) rfl ⟨rfl, rfl⟩ rfl (qS_isOut_ok (S := S) (M := M) e7) ?_
  show zF S 87 (7, [(0, .ref 1), (1, .int p_cost), (2, .int p_other), (3, .int p_price)], [.int x1], zh, M) _ _
  refine zF_ne (t := 30) (u := (10, [(0, .ref 1), (1, .int p_cost), (2, .int p_other), (3, .int p_price)], [], zh, M)) rfl (fun c8 => ?_) (fun c8 => ?_)
  · rw [if_neg c8] at h
    refine zF_go (n := 1) (ps := []) (s' := (32, [], [.int (-2)], zh, M)) rfl trivial ?_
    cases h
    exact zF_ret rfl trivial
  · rw [if_pos c8] at h
    refine zF_go (n := 3) (ps := []) (s' := (14, [(0, .ref 1), (1, .int p_cost), (2, .int p_other), (3, .int p_price)], [.int 99, .int 0, .int p_other], zh, M)) rfl trivial ?_
    obtain ⟨x2, e9, h⟩ := zb_some h
    refine zF_call (y' := 125) (as := [.int p_other, .int 0, .int 99]) (u := (17, [(0, .ref 1), (1, .int p_cost), (2, .int p_other), (3, .int p_price)], [], zh, M)) rfl ⟨rfl, rfl⟩ rfl (qS_isOut_ok (S := S) (M := M) e9) ?_
    show zF S 87 (17, [(0, .ref 1), (1, .int p_cost), (2, .int p_other), (3, .int p_price)], [.int x2], zh, M) _ _
    refine zF_ne (t := 30) (u := (20, [(0, .ref 1), (1, .int p_cost), (2, .int p_other), (3, .int p_price)], [], zh, M)) rfl (fun c10 => ?_) (fun c10 => ?_)
    · rw [if_neg c10] at h
      refine zF_go (n := 1) (ps := []) (s' := (32, [], [.int (-2)], zh, M)) rfl trivial ?_
      cases h
      exact zF_ret rfl trivial
    · rw [if_pos c10] at h
      refine zF_go (n := 3) (ps := []) (s' := (24, [(0, .ref 1), (1, .int p_cost), (2, .int p_other), (3, .int p_price)], [.int 99, .int 0, .int p_price], zh, M)) rfl trivial ?_
      obtain ⟨x3, e11, h⟩ := zb_some h
      refine zF_call (y' := 125) (as := [.int p_price, .int 0, .int 99]) (u := (27, [(0, .ref 1), (1, .int p_cost), (2, .int p_other), (3, .int p_price)], [], zh, M)) rfl ⟨rfl, rfl⟩ rfl (qS_isOut_ok (S := S) (M := M) e11) ?_
      show zF S 87 (27, [(0, .ref 1), (1, .int p_cost), (2, .int p_other), (3, .int p_price)], [.int x3], zh, M) _ _
      refine zF_eq (t := 33) (u := (30, [(0, .ref 1), (1, .int p_cost), (2, .int p_other), (3, .int p_price)], [], zh, M)) rfl (fun c12 => ?_) (fun c12 => ?_)
      · rw [if_pos c12] at h
        refine zF_go (n := 5) (ps := []) (s' := (44, [(0, .ref 1), (1, .int p_cost), (2, .int p_other), (3, .int p_price)], [.int 4, .int (M 3 0)], zh, M)) rfl trivial ?_
        refine zF_lt (t := 50) (u := (47, [(0, .ref 1), (1, .int p_cost), (2, .int p_other), (3, .int p_price)], [], zh, M)) rfl (fun c13 => ?_) (fun c13 => ?_)
        · rw [if_pos c13] at h
          refine zF_go (n := 2) (ps := []) (s' := (54, [(0, .ref 1), (1, .int p_cost), (2, .int p_other), (3, .int p_price)], [.ref 78], zh, M)) rfl trivial ?_
          obtain ⟨M4, e14, h⟩ := zb_some h
          refine zF_call (y' := 1) (as := [.ref 78]) (u := (57, [(0, .ref 1), (1, .int p_cost), (2, .int p_other), (3, .int p_price)], [], zh, M)) rfl ⟨rfl, rfl⟩ rfl (qD_forget_ok (S := S) (M := M) e14) ?_
          show zF S 87 (57, [(0, .ref 1), (1, .int p_cost), (2, .int p_other), (3, .int p_price)], [], zh, M4) _ _
          refine zF_go (n := 6) (ps := []) (s' := (67, [(0, .ref 1), (1, .int p_cost), (2, .int p_other), (3, .int p_price)], [.int p_price, .int p_other, .int p_cost, .ref 3], zh, M4)) rfl trivial ?_
          obtain ⟨x5, M6, e15, h⟩ := zb2_some h
          refine zF_call (y' := 14) (as := [.ref 3, .int p_cost, .int p_other, .int p_price]) (u := (70, [(0, .ref 1), (1, .int p_cost), (2, .int p_other), (3, .int p_price)], [], zh, M4)) rfl ⟨rfl, rfl⟩ rfl (qG_addThing_ok (S := S) (M := M4) e15) ?_
          show zF S 87 (70, [(0, .ref 1), (1, .int p_cost), (2, .int p_other), (3, .int p_price)], [.int x5], zh, M6) _ _
          cases h
          exact zF_ret rfl trivial
        · rw [if_neg c13] at h
          refine zF_go (n := 1) (ps := []) (s' := (49, [(0, .ref 1), (1, .int p_cost), (2, .int p_other), (3, .int p_price)], [.int (-4)], zh, M)) rfl trivial ?_
          cases h
          exact zF_ret rfl trivial
      · rw [if_neg c12] at h
        refine zF_go (n := 1) (ps := []) (s' := (32, [], [.int (-2)], zh, M)) rfl trivial ?_
        cases h
        exact zF_ret rfl trivial
noncomputable def qM_in (p_v : Int64) (p_low : Int64) (p_high : Int64) : Option (Int32) :=
  if (lg_cmp p_v p_low) < 0 then
    (some 0)
  else
    (if (0 : Int32) < (lg_cmp p_v p_high) then
      (some 0)
    else
      (some 1))
set_option maxRecDepth 20000 in
set_option maxHeartbeats 4000000 in
theorem qM_in_ok {S : zSc} {M : zM} {p_v : Int64} {p_low : Int64} {p_high : Int64} {r : Int32} (h : qM_in p_v p_low p_high = some r) : zF S 134 (0, [(0, .long p_v), (2, .long p_low), (4, .long p_high)], [], zh, M) (some (.int r)) (M) := by
  unfold qM_in at h
  refine zF_go (n := 3) (ps := []) (s' := (3, [(0, .long p_v), (2, .long p_low), (4, .long p_high)], [.int (lg_cmp p_v p_low)], zh, M)) rfl trivial ?_
  refine zF_lt (t := 17) (u := (6, [(0, .long p_v), (2, .long p_low), (4, .long p_high)], [], zh, M)) rfl (fun c1 => ?_) (fun c1 => ?_)
  · rw [if_pos c1] at h
    refine zF_go (n := 1) (ps := []) (s' := (18, [], [.int 0], zh, M)) rfl trivial ?_
    cases h
    exact zF_ret rfl ⟨(Or.inl rfl), trivial⟩
  · rw [if_neg c1] at h
    refine zF_go (n := 3) (ps := []) (s' := (10, [(0, .long p_v), (2, .long p_low), (4, .long p_high)], [.int (lg_cmp p_v p_high)], zh, M)) rfl trivial ?_
    refine zF_gt (t := 17) (u := (13, [(0, .long p_v), (2, .long p_low), (4, .long p_high)], [], zh, M)) rfl (fun c2 => ?_) (fun c2 => ?_)
    · rw [if_pos c2] at h
      refine zF_go (n := 1) (ps := []) (s' := (18, [], [.int 0], zh, M)) rfl trivial ?_
      cases h
      exact zF_ret rfl ⟨(Or.inl rfl), trivial⟩
    · rw [if_neg c2] at h
      refine zF_go (n := 2) (ps := []) (s' := (18, [(0, .long p_v), (2, .long p_low), (4, .long p_high)], [.int 1], zh, M)) rfl trivial ?_
      cases h
      exact zF_ret rfl ⟨(Or.inr rfl), trivial⟩
noncomputable def qM_isPrice (p_v : Int32) : Option (Int32) :=
  zb (qM_in p_v.toInt64 0 99) fun x1 =>
  zq (x1 = 0 ∨ x1 = 1) <| some x1
set_option maxRecDepth 20000 in
set_option maxHeartbeats 4000000 in
theorem qM_isPrice_ok {S : zSc} {M : zM} {p_v : Int32} {r : Int32} (h : qM_isPrice p_v = some r) : zF S 139 (0, [(0, .int p_v)], [], zh, M) (some (.int r)) (M) := by
  unfold qM_isPrice at h
  refine zF_go (n := 4) (ps := []) (s' := (6, [(0, .int p_v)], [.long 99, .long 0, .long p_v.toInt64], zh, M)) rfl trivial ?_
  obtain ⟨x1, e2, h⟩ := zb_some h
  refine zF_call (y' := 134) (as := [.long p_v.toInt64, .long 0, .long 99]) (u := (9, [(0, .int p_v)], [], zh, M)) rfl ⟨rfl, rfl⟩ rfl (qM_in_ok (S := S) (M := M) e2) ?_
  show zF S 139 (9, [(0, .int p_v)], [.int x1], zh, M) _ _
  obtain ⟨g3, h⟩ := zq_some h
  cases h
  exact zF_ret rfl ⟨g3, trivial⟩
noncomputable def qM_thing_L60 (p_price : Int32) (rec6 : (Int32 × zM) → Option (Int32 × zM)) (v : Int32 × zM) : Option (Int32 × zM) := match v with
  | (v4_4, M5) =>
    if v4_4 < 2 then
      (zq (vp_in ((4 * v4_4) + (M5 86 6)) 8) <| zq (vp_in ((4 * v4_4) + (M5 86 6)) 8) <| rec6 ((v4_4 + 1), (zw (zw M5 88 ((4 * v4_4) + (M5 86 6)).toNatClampNeg 3) 89 ((4 * v4_4) + (M5 86 6)).toNatClampNeg 0)))
    else
      (zq (vp_in (3 * (M5 86 6)) 12) <| zq (vp_in (M5 86 6) 4) <| some ((((zw (zw (zw M5 91 (3 * (M5 86 6)).toNatClampNeg p_price) 92 (M5 86 6).toNatClampNeg 1) 86 6 ((M5 86 6) + 1)) 86 6) - 1), (zw (zw (zw M5 91 (3 * (M5 86 6)).toNatClampNeg p_price) 92 (M5 86 6).toNatClampNeg 1) 86 6 ((M5 86 6) + 1))))
noncomputable def qM_thing (M : zM) (p_cost : Int32) (p_other : Int32) (p_price : Int32) : Option (Int32 × zM) :=
  zb (qM_isPrice p_cost) fun x1 =>
  if x1 = 0 then
    (some ((-2), M))
  else
    (zb (qM_isPrice p_other) fun x2 =>
    if x2 = 0 then
      (some ((-2), M))
    else
      (zb (qM_isPrice p_price) fun x3 =>
      if x3 = 0 then
        (some ((-2), M))
      else
        (if (M 86 6) = 4 then
          (some ((-4), M))
        else
          (zq (vp_in (M 86 6) 8) <| zq (vp_in (4 + (M 86 6)) 8) <| zlp (qM_thing_L60 p_price) zfu (0, (zw (zw M 87 (M 86 6).toNatClampNeg p_cost) 87 (4 + (M 86 6)).toNatClampNeg p_other))))))
set_option maxRecDepth 20000 in
set_option maxHeartbeats 4000000 in
theorem qM_thing_ok {S : zSc} {M : zM} {p_cost : Int32} {p_other : Int32} {p_price : Int32} {r : Int32 × zM} (h : qM_thing M p_cost p_other p_price = some r) : zF S 140 (0, [(0, .ref 86), (1, .int p_cost), (2, .int p_other), (3, .int p_price)], [], zh, M) (some (.int r.1)) (r.2) := by
  unfold qM_thing at h
  refine zF_go (n := 1) (ps := []) (s' := (1, [(0, .ref 86), (1, .int p_cost), (2, .int p_other), (3, .int p_price)], [.int p_cost], zh, M)) rfl trivial ?_
  obtain ⟨x1, e7, h⟩ := zb_some h
  refine zF_call (y' := 139) (as := [.int p_cost]) (u := (4, [(0, .ref 86), (1, .int p_cost), (2, .int p_other), (3, .int p_price)], [], zh, M)) rfl ⟨rfl, rfl⟩ rfl (qM_isPrice_ok (S := S) (M := M) e7) ?_
  show zF S 140 (4, [(0, .ref 86), (1, .int p_cost), (2, .int p_other), (3, .int p_price)], [.int x1], zh, M) _ _
  refine zF_eq (t := 21) (u := (7, [(0, .ref 86), (1, .int p_cost), (2, .int p_other), (3, .int p_price)], [], zh, M)) rfl (fun c8 => ?_) (fun c8 => ?_)
  · rw [if_pos c8] at h
    refine zF_go (n := 1) (ps := []) (s' := (23, [], [.int (-2)], zh, M)) rfl trivial ?_
    cases h
    exact zF_ret rfl trivial
  · rw [if_neg c8] at h
    refine zF_go (n := 1) (ps := []) (s' := (8, [(0, .ref 86), (1, .int p_cost), (2, .int p_other), (3, .int p_price)], [.int p_other], zh, M)) rfl trivial ?_
    obtain ⟨x2, e9, h⟩ := zb_some h
    refine zF_call (y' := 139) (as := [.int p_other]) (u := (11, [(0, .ref 86), (1, .int p_cost), (2, .int p_other), (3, .int p_price)], [], zh, M)) rfl ⟨rfl, rfl⟩ rfl (qM_isPrice_ok (S := S) (M := M) e9) ?_
    show zF S 140 (11, [(0, .ref 86), (1, .int p_cost), (2, .int p_other), (3, .int p_price)], [.int x2], zh, M) _ _
    refine zF_eq (t := 21) (u := (14, [(0, .ref 86), (1, .int p_cost), (2, .int p_other), (3, .int p_price)], [], zh, M)) rfl (fun c10 => ?_) (fun c10 => ?_)
    · rw [if_pos c10] at h
      refine zF_go (n := 1) (ps := []) (s' := (23, [], [.int (-2)], zh, M)) rfl trivial ?_
      cases h
      exact zF_ret rfl trivial
    · rw [if_neg c10] at h
      refine zF_go (n := 1) (ps := []) (s' := (15, [(0, .ref 86), (1, .int p_cost), (2, .int p_other), (3, .int p_price)], [.int p_price], zh, M)) rfl trivial ?_
      obtain ⟨x3, e11, h⟩ := zb_some h
      refine zF_call (y' := 139) (as := [.int p_price]) (u := (18, [(0, .ref 86), (1, .int p_cost), (2, .int p_other), (3, .int p_price)], [], zh, M)) rfl ⟨rfl, rfl⟩ rfl (qM_isPrice_ok (S := S) (M := M) e11) ?_
      show zF S 140 (18, [(0, .ref 86), (1, .int p_cost), (2, .int p_other), (3, .int p_price)], [.int x3], zh, M) _ _
      refine zF_ne (t := 24) (u := (21, [(0, .ref 86), (1, .int p_cost), (2, .int p_other), (3, .int p_price)], [], zh, M)) rfl (fun c12 => ?_) (fun c12 => ?_)
      · rw [if_neg c12] at h
        refine zF_go (n := 3) (ps := []) (s' := (29, [(0, .ref 86), (1, .int p_cost), (2, .int p_other), (3, .int p_price)], [.int 4, .int (M 86 6)], zh, M)) rfl trivial ?_
        refine zF_ne (t := 35) (u := (32, [(0, .ref 86), (1, .int p_cost), (2, .int p_other), (3, .int p_price)], [], zh, M)) rfl (fun c13 => ?_) (fun c13 => ?_)
        · rw [if_neg c13] at h
          obtain ⟨g14, h⟩ := zq_some h
          obtain ⟨g15, h⟩ := zq_some h
          refine zF_go (n := 16) (ps := [vp_in (M 86 6) 8, vp_in (4 + (M 86 6)) 8]) (s' := (60, [(4, .int 0), (0, .ref 86), (1, .int p_cost), (2, .int p_other), (3, .int p_price)], [], zh, (zw (zw M 87 (M 86 6).toNatClampNeg p_cost) 87 (4 + (M 86 6)).toNatClampNeg p_other))) rfl ⟨g14, g15, trivial⟩ ?_
          refine zF_same (s' := (60, [(0, .ref 86), (3, .int p_price), (4, .int 0)], [], zh, (zw (zw M 87 (M 86 6).toNatClampNeg p_cost) 87 (4 + (M 86 6)).toNatClampNeg p_other))) rfl ?_
          refine zlp_ind (P := fun (v : Int32 × zM) r => zF S 140 (60, [(0, .ref 86), (3, .int p_price), (4, .int v.1)], [], zh, v.2) (some (.int r.1)) (r.2)) ?_ _ _ _ h
          intro rec6 hrec6 v r h
          obtain ⟨v4_4, M5⟩ := v
          unfold qM_thing_L60 at h
          dsimp only at h
          show zF S 140 (60, [(0, .ref 86), (3, .int p_price), (4, .int v4_4)], [], zh, M5) _ _
          refine zF_go (n := 2) (ps := []) (s' := (63, [(0, .ref 86), (3, .int p_price), (4, .int v4_4)], [.int 2, .int v4_4], zh, M5)) rfl trivial ?_
          refine zF_ge (t := 102) (u := (66, [(0, .ref 86), (3, .int p_price), (4, .int v4_4)], [], zh, M5)) rfl (fun c16 => ?_) (fun c16 => ?_)
          · rw [if_neg c16] at h
            obtain ⟨g17, h⟩ := zq_some h
            obtain ⟨g18, h⟩ := zq_some h
            refine zF_go (n := 24) (ps := [vp_in (3 * (M5 86 6)) 12, vp_in (M5 86 6) 4]) (s' := (140, [(0, .ref 86), (3, .int p_price), (4, .int v4_4)], [.int (((zw (zw (zw M5 91 (3 * (M5 86 6)).toNatClampNeg p_price) 92 (M5 86 6).toNatClampNeg 1) 86 6 ((M5 86 6) + 1)) 86 6) - 1)], zh, (zw (zw (zw M5 91 (3 * (M5 86 6)).toNatClampNeg p_price) 92 (M5 86 6).toNatClampNeg 1) 86 6 ((M5 86 6) + 1)))) rfl ⟨g17, g18, trivial⟩ ?_
            cases h
            exact zF_ret rfl trivial
          · rw [if_pos c16] at h
            obtain ⟨g19, h⟩ := zq_some h
            obtain ⟨g20, h⟩ := zq_some h
            refine zF_go (n := 22) (ps := [vp_in ((4 * v4_4) + (M5 86 6)) 8, vp_in ((4 * v4_4) + (M5 86 6)) 8]) (s' := (60, [(4, .int (v4_4 + 1)), (0, .ref 86), (3, .int p_price)], [], zh, (zw (zw M5 88 ((4 * v4_4) + (M5 86 6)).toNatClampNeg 3) 89 ((4 * v4_4) + (M5 86 6)).toNatClampNeg 0))) rfl ⟨g19, g20, trivial⟩ ?_
            exact zF_as (hrec6 _ _ h) rfl
        · rw [if_pos c13] at h
          refine zF_go (n := 1) (ps := []) (s' := (34, [(0, .ref 86), (1, .int p_cost), (2, .int p_other), (3, .int p_price)], [.int (-4)], zh, M)) rfl trivial ?_
          cases h
          exact zF_ret rfl trivial
      · rw [if_pos c12] at h
        refine zF_go (n := 1) (ps := []) (s' := (23, [], [.int (-2)], zh, M)) rfl trivial ?_
        cases h
        exact zF_ret rfl trivial
noncomputable def qS_noThing (M : zM) (p_thing : Int32) : Option (Int32) :=
  zb (qS_isOut p_thing 0 ((M 3 0) - 1)) fun x1 =>
  zq (x1 = 0 ∨ x1 = 1) <| some x1
set_option maxRecDepth 20000 in
set_option maxHeartbeats 4000000 in
theorem qS_noThing_ok {S : zSc} {M : zM} {p_thing : Int32} {r : Int32} (h : qS_noThing M p_thing = some r) : zF S 128 (0, [(0, .ref 1), (1, .int p_thing)], [], zh, M) (some (.int r)) (M) := by
  unfold qS_noThing at h
  refine zF_go (n := 8) (ps := []) (s' := (14, [(0, .ref 1), (1, .int p_thing)], [.int ((M 3 0) - 1), .int 0, .int p_thing], zh, M)) rfl trivial ?_
  obtain ⟨x1, e2, h⟩ := zb_some h
  refine zF_call (y' := 125) (as := [.int p_thing, .int 0, .int ((M 3 0) - 1)]) (u := (17, [(0, .ref 1), (1, .int p_thing)], [], zh, M)) rfl ⟨rfl, rfl⟩ rfl (qS_isOut_ok (S := S) (M := M) e2) ?_
  show zF S 128 (17, [(0, .ref 1), (1, .int p_thing)], [.int x1], zh, M) _ _
  obtain ⟨g3, h⟩ := zq_some h
  cases h
  exact zF_ret rfl ⟨g3, trivial⟩
noncomputable def qG_lastPrice (M : zM) (p_thing : Int32) : Option (Int32) :=
  zq (vp_in p_thing 4) <| zq (vp_in (((p_thing * 3) + (M 4 p_thing.toNatClampNeg)) - 1) 12) <| some (M 5 (((p_thing * 3) + (M 4 p_thing.toNatClampNeg)) - 1).toNatClampNeg)
set_option maxRecDepth 20000 in
set_option maxHeartbeats 4000000 in
theorem qG_lastPrice_ok {S : zSc} {M : zM} {p_thing : Int32} {r : Int32} (h : qG_lastPrice M p_thing = some r) : zF S 16 (0, [(0, .ref 3), (1, .int p_thing)], [], zh, M) (some (.int r)) (M) := by
  unfold qG_lastPrice at h
  obtain ⟨g1, h⟩ := zq_some h
  obtain ⟨g2, h⟩ := zq_some h
  refine zF_go (n := 13) (ps := [vp_in p_thing 4, vp_in (((p_thing * 3) + (M 4 p_thing.toNatClampNeg)) - 1) 12]) (s' := (17, [(0, .ref 3), (1, .int p_thing)], [.int (M 5 (((p_thing * 3) + (M 4 p_thing.toNatClampNeg)) - 1).toNatClampNeg)], zh, M)) rfl ⟨g1, g2, trivial⟩ ?_
  cases h
  exact zF_ret rfl trivial
noncomputable def qG_addStep (M : zM) (p_thing : Int32) (p_next : Int32) : Option (Int32 × zM) :=
  zq (vp_in p_thing 4) <| zq (vp_in ((p_thing * 3) + (M 4 p_thing.toNatClampNeg)) 12) <| zq (vp_in p_thing 4) <| zq (vp_in p_thing 4) <| some ((M 4 p_thing.toNatClampNeg), (zw (zw M 5 ((p_thing * 3) + (M 4 p_thing.toNatClampNeg)).toNatClampNeg p_next) 4 p_thing.toNatClampNeg ((M 4 p_thing.toNatClampNeg) + 1)))
set_option maxRecDepth 20000 in
set_option maxHeartbeats 4000000 in
theorem qG_addStep_ok {S : zSc} {M : zM} {p_thing : Int32} {p_next : Int32} {r : Int32 × zM} (h : qG_addStep M p_thing p_next = some r) : zF S 15 (0, [(0, .ref 3), (1, .int p_thing), (2, .int p_next)], [], zh, M) (some (.int r.1)) (r.2) := by
  unfold qG_addStep at h
  obtain ⟨g1, h⟩ := zq_some h
  obtain ⟨g2, h⟩ := zq_some h
  obtain ⟨g3, h⟩ := zq_some h
  obtain ⟨g4, h⟩ := zq_some h
  refine zF_go (n := 23) (ps := [vp_in p_thing 4, vp_in ((p_thing * 3) + (M 4 p_thing.toNatClampNeg)) 12, vp_in p_thing 4, vp_in p_thing 4]) (s' := (29, [(3, .int (M 4 p_thing.toNatClampNeg)), (0, .ref 3), (1, .int p_thing), (2, .int p_next)], [.int (M 4 p_thing.toNatClampNeg)], zh, (zw (zw M 5 ((p_thing * 3) + (M 4 p_thing.toNatClampNeg)).toNatClampNeg p_next) 4 p_thing.toNatClampNeg ((M 4 p_thing.toNatClampNeg) + 1)))) rfl ⟨g1, g2, g3, g4, trivial⟩ ?_
  cases h
  exact zF_ret rfl trivial
noncomputable def qS_step (M : zM) (p_thing : Int32) (p_price : Int32) : Option (Int32 × zM) :=
  zb (qS_noThing M p_thing) fun x1 =>
  if x1 = 0 then
    (zb (qS_isOut p_price 0 99) fun x2 =>
    if x2 = 0 then
      (zb (qG_lastPrice M p_thing) fun x3 =>
      if x3 < p_price then
        (zq (vp_in p_thing 4) <| if (M 4 p_thing.toNatClampNeg) < 3 then
          (zb (qD_forget M) fun M4 =>
          zb2 (qG_addStep M4 p_thing p_price) fun x5 M6 =>
          some (x5, M6))
        else
          (some ((-4), M)))
      else
        (some ((-2), M)))
    else
      (some ((-2), M)))
  else
    (some ((-1), M))
set_option maxRecDepth 20000 in
set_option maxHeartbeats 4000000 in
theorem qS_step_ok {S : zSc} {M : zM} {p_thing : Int32} {p_price : Int32} {r : Int32 × zM} (h : qS_step M p_thing p_price = some r) : zF S 88 (0, [(0, .ref 1), (1, .int p_thing), (2, .int p_price)], [], zh, M) (some (.int r.1)) (r.2) := by
  unfold qS_step at h
  refine zF_go (n := 2) (ps := []) (s' := (2, [(0, .ref 1), (1, .int p_thing), (2, .int p_price)], [.int p_thing, .ref 1], zh, M)) rfl trivial ?_
  obtain ⟨x1, e7, h⟩ := zb_some h
  refine zF_call (y' := 128) (as := [.ref 1, .int p_thing]) (u := (5, [(0, .ref 1), (1, .int p_thing), (2, .int p_price)], [], zh, M)) rfl ⟨rfl, rfl⟩ rfl (qS_noThing_ok (S := S) (M := M) e7) ?_
  show zF S 88 (5, [(0, .ref 1), (1, .int p_thing), (2, .int p_price)], [.int x1], zh, M) _ _
  refine zF_eq (t := 10) (u := (8, [(0, .ref 1), (1, .int p_thing), (2, .int p_price)], [], zh, M)) rfl (fun c8 => ?_) (fun c8 => ?_)
  · rw [if_pos c8] at h
    refine zF_go (n := 3) (ps := []) (s' := (14, [(0, .ref 1), (1, .int p_thing), (2, .int p_price)], [.int 99, .int 0, .int p_price], zh, M)) rfl trivial ?_
    obtain ⟨x2, e9, h⟩ := zb_some h
    refine zF_call (y' := 125) (as := [.int p_price, .int 0, .int 99]) (u := (17, [(0, .ref 1), (1, .int p_thing), (2, .int p_price)], [], zh, M)) rfl ⟨rfl, rfl⟩ rfl (qS_isOut_ok (S := S) (M := M) e9) ?_
    show zF S 88 (17, [(0, .ref 1), (1, .int p_thing), (2, .int p_price)], [.int x2], zh, M) _ _
    refine zF_ne (t := 35) (u := (20, [(0, .ref 1), (1, .int p_thing), (2, .int p_price)], [], zh, M)) rfl (fun c10 => ?_) (fun c10 => ?_)
    · rw [if_neg c10] at h
      refine zF_go (n := 1) (ps := []) (s' := (37, [], [.int (-2)], zh, M)) rfl trivial ?_
      cases h
      exact zF_ret rfl trivial
    · rw [if_pos c10] at h
      refine zF_go (n := 5) (ps := []) (s' := (29, [(0, .ref 1), (1, .int p_thing), (2, .int p_price)], [.int p_thing, .ref 3, .int p_price], zh, M)) rfl trivial ?_
      obtain ⟨x3, e11, h⟩ := zb_some h
      refine zF_call (y' := 16) (as := [.ref 3, .int p_thing]) (u := (32, [(0, .ref 1), (1, .int p_thing), (2, .int p_price)], [.int p_price], zh, M)) rfl ⟨rfl, rfl⟩ rfl (qG_lastPrice_ok (S := S) (M := M) e11) ?_
      show zF S 88 (32, [(0, .ref 1), (1, .int p_thing), (2, .int p_price)], [.int x3, .int p_price], zh, M) _ _
      refine zF_gt (t := 38) (u := (35, [(0, .ref 1), (1, .int p_thing), (2, .int p_price)], [], zh, M)) rfl (fun c12 => ?_) (fun c12 => ?_)
      · rw [if_pos c12] at h
        obtain ⟨g13, h⟩ := zq_some h
        refine zF_go (n := 7) (ps := [vp_in p_thing 4]) (s' := (51, [(0, .ref 1), (1, .int p_thing), (2, .int p_price)], [.int 3, .int (M 4 p_thing.toNatClampNeg)], zh, M)) rfl ⟨g13, trivial⟩ ?_
        refine zF_lt (t := 57) (u := (54, [(0, .ref 1), (1, .int p_thing), (2, .int p_price)], [], zh, M)) rfl (fun c14 => ?_) (fun c14 => ?_)
        · rw [if_pos c14] at h
          refine zF_go (n := 2) (ps := []) (s' := (61, [(0, .ref 1), (1, .int p_thing), (2, .int p_price)], [.ref 78], zh, M)) rfl trivial ?_
          obtain ⟨M4, e15, h⟩ := zb_some h
          refine zF_call (y' := 1) (as := [.ref 78]) (u := (64, [(0, .ref 1), (1, .int p_thing), (2, .int p_price)], [], zh, M)) rfl ⟨rfl, rfl⟩ rfl (qD_forget_ok (S := S) (M := M) e15) ?_
          show zF S 88 (64, [(0, .ref 1), (1, .int p_thing), (2, .int p_price)], [], zh, M4) _ _
          refine zF_go (n := 5) (ps := []) (s' := (73, [(0, .ref 1), (1, .int p_thing), (2, .int p_price)], [.int p_price, .int p_thing, .ref 3], zh, M4)) rfl trivial ?_
          obtain ⟨x5, M6, e16, h⟩ := zb2_some h
          refine zF_call (y' := 15) (as := [.ref 3, .int p_thing, .int p_price]) (u := (76, [(0, .ref 1), (1, .int p_thing), (2, .int p_price)], [], zh, M4)) rfl ⟨rfl, rfl⟩ rfl (qG_addStep_ok (S := S) (M := M4) e16) ?_
          show zF S 88 (76, [(0, .ref 1), (1, .int p_thing), (2, .int p_price)], [.int x5], zh, M6) _ _
          cases h
          exact zF_ret rfl trivial
        · rw [if_neg c14] at h
          refine zF_go (n := 1) (ps := []) (s' := (56, [(0, .ref 1), (1, .int p_thing), (2, .int p_price)], [.int (-4)], zh, M)) rfl trivial ?_
          cases h
          exact zF_ret rfl trivial
      · rw [if_neg c12] at h
        refine zF_go (n := 1) (ps := []) (s' := (37, [], [.int (-2)], zh, M)) rfl trivial ?_
        cases h
        exact zF_ret rfl trivial
  · rw [if_neg c8] at h
    refine zF_go (n := 1) (ps := []) (s' := (9, [(0, .ref 1), (1, .int p_thing), (2, .int p_price)], [.int (-1)], zh, M)) rfl trivial ?_
    cases h
    exact zF_ret rfl trivial
noncomputable def qM_isThing (M : zM) (p_t : Int32) : Option (Int32) :=
  zb (qM_in p_t.toInt64 0 ((M 86 6) - 1).toInt64) fun x1 =>
  zq (x1 = 0 ∨ x1 = 1) <| some x1
set_option maxRecDepth 20000 in
set_option maxHeartbeats 4000000 in
theorem qM_isThing_ok {S : zSc} {M : zM} {p_t : Int32} {r : Int32} (h : qM_isThing M p_t = some r) : zF S 137 (0, [(0, .ref 86), (1, .int p_t)], [], zh, M) (some (.int r)) (M) := by
  unfold qM_isThing at h
  refine zF_go (n := 8) (ps := []) (s' := (10, [(0, .ref 86), (1, .int p_t)], [.long ((M 86 6) - 1).toInt64, .long 0, .long p_t.toInt64], zh, M)) rfl trivial ?_
  obtain ⟨x1, e2, h⟩ := zb_some h
  refine zF_call (y' := 134) (as := [.long p_t.toInt64, .long 0, .long ((M 86 6) - 1).toInt64]) (u := (13, [(0, .ref 86), (1, .int p_t)], [], zh, M)) rfl ⟨rfl, rfl⟩ rfl (qM_in_ok (S := S) (M := M) e2) ?_
  show zF S 137 (13, [(0, .ref 86), (1, .int p_t)], [.int x1], zh, M) _ _
  obtain ⟨g3, h⟩ := zq_some h
  cases h
  exact zF_ret rfl ⟨g3, trivial⟩
noncomputable def qM_step (M : zM) (p_thing : Int32) (p_price : Int32) : Option (Int32 × zM) :=
  zb (qM_isThing M p_thing) fun x1 =>
  if x1 = 0 then
    (some ((-1), M))
  else
    (zq (vp_in p_thing 4) <| zq (vp_in (((3 * p_thing) + (M 92 p_thing.toNatClampNeg)) - 1) 12) <| zb (qM_in p_price.toInt64 ((M 91 (((3 * p_thing) + (M 92 p_thing.toNatClampNeg)) - 1).toNatClampNeg) + 1).toInt64 99) fun x2 =>
    if x2 = 0 then
      (some ((-2), M))
    else
      (zq (vp_in p_thing 4) <| if (M 92 p_thing.toNatClampNeg) = 3 then
        (some ((-4), M))
      else
        (zq (vp_in p_thing 4) <| zq (vp_in ((3 * p_thing) + (M 92 p_thing.toNatClampNeg)) 12) <| zq (vp_in p_thing 4) <| zq (vp_in p_thing 4) <| zq (vp_in p_thing 4) <| some ((((zw (zw M 91 ((3 * p_thing) + (M 92 p_thing.toNatClampNeg)).toNatClampNeg p_price) 92 p_thing.toNatClampNeg ((M 92 p_thing.toNatClampNeg) + 1)) 92 p_thing.toNatClampNeg) - 1), (zw (zw M 91 ((3 * p_thing) + (M 92 p_thing.toNatClampNeg)).toNatClampNeg p_price) 92 p_thing.toNatClampNeg ((M 92 p_thing.toNatClampNeg) + 1))))))
set_option maxRecDepth 20000 in
set_option maxHeartbeats 4000000 in
theorem qM_step_ok {S : zSc} {M : zM} {p_thing : Int32} {p_price : Int32} {r : Int32 × zM} (h : qM_step M p_thing p_price = some r) : zF S 141 (0, [(0, .ref 86), (1, .int p_thing), (2, .int p_price)], [], zh, M) (some (.int r.1)) (r.2) := by
  unfold qM_step at h
  refine zF_go (n := 2) (ps := []) (s' := (2, [(0, .ref 86), (1, .int p_thing), (2, .int p_price)], [.int p_thing, .ref 86], zh, M)) rfl trivial ?_
  obtain ⟨x1, e3, h⟩ := zb_some h
  refine zF_call (y' := 137) (as := [.ref 86, .int p_thing]) (u := (5, [(0, .ref 86), (1, .int p_thing), (2, .int p_price)], [], zh, M)) rfl ⟨rfl, rfl⟩ rfl (qM_isThing_ok (S := S) (M := M) e3) ?_
  show zF S 141 (5, [(0, .ref 86), (1, .int p_thing), (2, .int p_price)], [.int x1], zh, M) _ _
  refine zF_ne (t := 10) (u := (8, [(0, .ref 86), (1, .int p_thing), (2, .int p_price)], [], zh, M)) rfl (fun c4 => ?_) (fun c4 => ?_)
  · rw [if_neg c4] at h
    obtain ⟨g5, h⟩ := zq_some h
    obtain ⟨g6, h⟩ := zq_some h
    refine zF_go (n := 19) (ps := [vp_in p_thing 4, vp_in (((3 * p_thing) + (M 92 p_thing.toNatClampNeg)) - 1) 12]) (s' := (35, [(0, .ref 86), (1, .int p_thing), (2, .int p_price)], [.long 99, .long ((M 91 (((3 * p_thing) + (M 92 p_thing.toNatClampNeg)) - 1).toNatClampNeg) + 1).toInt64, .long p_price.toInt64], zh, M)) rfl ⟨g5, g6, trivial⟩ ?_
    obtain ⟨x2, e7, h⟩ := zb_some h
    refine zF_call (y' := 134) (as := [.long p_price.toInt64, .long ((M 91 (((3 * p_thing) + (M 92 p_thing.toNatClampNeg)) - 1).toNatClampNeg) + 1).toInt64, .long 99]) (u := (38, [(0, .ref 86), (1, .int p_thing), (2, .int p_price)], [], zh, M)) rfl ⟨rfl, rfl⟩ rfl (qM_in_ok (S := S) (M := M) e7) ?_
    show zF S 141 (38, [(0, .ref 86), (1, .int p_thing), (2, .int p_price)], [.int x2], zh, M) _ _
    refine zF_ne (t := 44) (u := (41, [(0, .ref 86), (1, .int p_thing), (2, .int p_price)], [], zh, M)) rfl (fun c8 => ?_) (fun c8 => ?_)
    · rw [if_neg c8] at h
      obtain ⟨g9, h⟩ := zq_some h
      refine zF_go (n := 5) (ps := [vp_in p_thing 4]) (s' := (51, [(0, .ref 86), (1, .int p_thing), (2, .int p_price)], [.int 3, .int (M 92 p_thing.toNatClampNeg)], zh, M)) rfl ⟨g9, trivial⟩ ?_
      refine zF_ne (t := 57) (u := (54, [(0, .ref 86), (1, .int p_thing), (2, .int p_price)], [], zh, M)) rfl (fun c10 => ?_) (fun c10 => ?_)
      · rw [if_neg c10] at h
        obtain ⟨g11, h⟩ := zq_some h
        obtain ⟨g12, h⟩ := zq_some h
        obtain ⟨g13, h⟩ := zq_some h
        obtain ⟨g14, h⟩ := zq_some h
        obtain ⟨g15, h⟩ := zq_some h
        refine zF_go (n := 26) (ps := [vp_in p_thing 4, vp_in ((3 * p_thing) + (M 92 p_thing.toNatClampNeg)) 12, vp_in p_thing 4, vp_in p_thing 4, vp_in p_thing 4]) (s' := (91, [(0, .ref 86), (1, .int p_thing), (2, .int p_price)], [.int (((zw (zw M 91 ((3 * p_thing) + (M 92 p_thing.toNatClampNeg)).toNatClampNeg p_price) 92 p_thing.toNatClampNeg ((M 92 p_thing.toNatClampNeg) + 1)) 92 p_thing.toNatClampNeg) - 1)], zh, (zw (zw M 91 ((3 * p_thing) + (M 92 p_thing.toNatClampNeg)).toNatClampNeg p_price) 92 p_thing.toNatClampNeg ((M 92 p_thing.toNatClampNeg) + 1)))) rfl ⟨g11, g12, g13, g14, g15, trivial⟩ ?_
        cases h
        exact zF_ret rfl trivial
      · rw [if_pos c10] at h
        refine zF_go (n := 1) (ps := []) (s' := (56, [(0, .ref 86), (1, .int p_thing), (2, .int p_price)], [.int (-4)], zh, M)) rfl trivial ?_
        cases h
        exact zF_ret rfl trivial
    · rw [if_pos c8] at h
      refine zF_go (n := 1) (ps := []) (s' := (43, [(0, .ref 86), (1, .int p_thing), (2, .int p_price)], [.int (-2)], zh, M)) rfl trivial ?_
      cases h
      exact zF_ret rfl trivial
  · rw [if_pos c4] at h
    refine zF_go (n := 1) (ps := []) (s' := (9, [(0, .ref 86), (1, .int p_thing), (2, .int p_price)], [.int (-1)], zh, M)) rfl trivial ?_
    cases h
    exact zF_ret rfl trivial
noncomputable def qS_noShop (p_shop : Int32) : Option (Int32) :=
  zb (qS_isOut p_shop 0 1) fun x1 =>
  zq (x1 = 0 ∨ x1 = 1) <| some x1
set_option maxRecDepth 20000 in
set_option maxHeartbeats 4000000 in
theorem qS_noShop_ok {S : zSc} {M : zM} {p_shop : Int32} {r : Int32} (h : qS_noShop p_shop = some r) : zF S 126 (0, [(0, .int p_shop)], [], zh, M) (some (.int r)) (M) := by
  unfold qS_noShop at h
  refine zF_go (n := 3) (ps := []) (s' := (3, [(0, .int p_shop)], [.int 1, .int 0, .int p_shop], zh, M)) rfl trivial ?_
  obtain ⟨x1, e2, h⟩ := zb_some h
  refine zF_call (y' := 125) (as := [.int p_shop, .int 0, .int 1]) (u := (6, [(0, .int p_shop)], [], zh, M)) rfl ⟨rfl, rfl⟩ rfl (qS_isOut_ok (S := S) (M := M) e2) ?_
  show zF S 126 (6, [(0, .int p_shop)], [.int x1], zh, M) _ _
  obtain ⟨g3, h⟩ := zq_some h
  cases h
  exact zF_ret rfl ⟨g3, trivial⟩
noncomputable def qS_exchange_1_6 (M : zM) (p_place : Int32) (p_v : Int32) : Option (Int32 × zM) :=
  zb (qS_isOut p_place 0 ((Int32.ofNat 8) - 1)) fun x1 =>
  if x1 = 0 then
    (zb (qD_forget M) fun M2 =>
    zq (vp_in p_place 8) <| zq (vp_in p_place 8) <| some ((M2 6 p_place.toNatClampNeg), (zw M2 6 p_place.toNatClampNeg p_v)))
  else
    (some ((-1), M))
set_option maxRecDepth 20000 in
set_option maxHeartbeats 4000000 in
theorem qS_exchange_1_6_ok {S : zSc} {M : zM} {p_place : Int32} {p_v : Int32} {r : Int32 × zM} (h : qS_exchange_1_6 M p_place p_v = some r) : zF S 131 (0, [(0, .ref 1), (1, .ref 6), (2, .int p_place), (3, .int p_v)], [], zh, M) (some (.int r.1)) (r.2) := by
  unfold qS_exchange_1_6 at h
  refine zF_go (n := 6) (ps := []) (s' := (6, [(0, .ref 1), (1, .ref 6), (2, .int p_place), (3, .int p_v)], [.int ((Int32.ofNat 8) - 1), .int 0, .int p_place], zh, M)) rfl trivial ?_
  obtain ⟨x1, e3, h⟩ := zb_some h
  refine zF_call (y' := 125) (as := [.int p_place, .int 0, .int ((Int32.ofNat 8) - 1)]) (u := (9, [(0, .ref 1), (1, .ref 6), (2, .int p_place), (3, .int p_v)], [], zh, M)) rfl ⟨rfl, rfl⟩ rfl (qS_isOut_ok (S := S) (M := M) e3) ?_
  show zF S 131 (9, [(0, .ref 1), (1, .ref 6), (2, .int p_place), (3, .int p_v)], [.int x1], zh, M) _ _
  refine zF_eq (t := 14) (u := (12, [(0, .ref 1), (1, .ref 6), (2, .int p_place), (3, .int p_v)], [], zh, M)) rfl (fun c4 => ?_) (fun c4 => ?_)
  · rw [if_pos c4] at h
    refine zF_go (n := 2) (ps := []) (s' := (18, [(0, .ref 1), (1, .ref 6), (2, .int p_place), (3, .int p_v)], [.ref 78], zh, M)) rfl trivial ?_
    obtain ⟨M2, e5, h⟩ := zb_some h
    refine zF_call (y' := 1) (as := [.ref 78]) (u := (21, [(0, .ref 1), (1, .ref 6), (2, .int p_place), (3, .int p_v)], [], zh, M)) rfl ⟨rfl, rfl⟩ rfl (qD_forget_ok (S := S) (M := M) e5) ?_
    show zF S 131 (21, [(0, .ref 1), (1, .ref 6), (2, .int p_place), (3, .int p_v)], [], zh, M2) _ _
    obtain ⟨g6, h⟩ := zq_some h
    obtain ⟨g7, h⟩ := zq_some h
    refine zF_go (n := 9) (ps := [vp_in p_place 8, vp_in p_place 8]) (s' := (32, [(4, .int (M2 6 p_place.toNatClampNeg)), (0, .ref 1), (1, .ref 6), (2, .int p_place), (3, .int p_v)], [.int (M2 6 p_place.toNatClampNeg)], zh, (zw M2 6 p_place.toNatClampNeg p_v))) rfl ⟨g6, g7, trivial⟩ ?_
    cases h
    exact zF_ret rfl trivial
  · rw [if_neg c4] at h
    refine zF_go (n := 1) (ps := []) (s' := (13, [(0, .ref 1), (1, .ref 6), (2, .int p_place), (3, .int p_v)], [.int (-1)], zh, M)) rfl trivial ?_
    cases h
    exact zF_ret rfl trivial
noncomputable def qS_exchange_1_7 (M : zM) (p_place : Int32) (p_v : Int32) : Option (Int32 × zM) :=
  zb (qS_isOut p_place 0 ((Int32.ofNat 8) - 1)) fun x1 =>
  if x1 = 0 then
    (zb (qD_forget M) fun M2 =>
    zq (vp_in p_place 8) <| zq (vp_in p_place 8) <| some ((M2 7 p_place.toNatClampNeg), (zw M2 7 p_place.toNatClampNeg p_v)))
  else
    (some ((-1), M))
set_option maxRecDepth 20000 in
set_option maxHeartbeats 4000000 in
theorem qS_exchange_1_7_ok {S : zSc} {M : zM} {p_place : Int32} {p_v : Int32} {r : Int32 × zM} (h : qS_exchange_1_7 M p_place p_v = some r) : zF S 131 (0, [(0, .ref 1), (1, .ref 7), (2, .int p_place), (3, .int p_v)], [], zh, M) (some (.int r.1)) (r.2) := by
  unfold qS_exchange_1_7 at h
  refine zF_go (n := 6) (ps := []) (s' := (6, [(0, .ref 1), (1, .ref 7), (2, .int p_place), (3, .int p_v)], [.int ((Int32.ofNat 8) - 1), .int 0, .int p_place], zh, M)) rfl trivial ?_
  obtain ⟨x1, e3, h⟩ := zb_some h
  refine zF_call (y' := 125) (as := [.int p_place, .int 0, .int ((Int32.ofNat 8) - 1)]) (u := (9, [(0, .ref 1), (1, .ref 7), (2, .int p_place), (3, .int p_v)], [], zh, M)) rfl ⟨rfl, rfl⟩ rfl (qS_isOut_ok (S := S) (M := M) e3) ?_
  show zF S 131 (9, [(0, .ref 1), (1, .ref 7), (2, .int p_place), (3, .int p_v)], [.int x1], zh, M) _ _
  refine zF_eq (t := 14) (u := (12, [(0, .ref 1), (1, .ref 7), (2, .int p_place), (3, .int p_v)], [], zh, M)) rfl (fun c4 => ?_) (fun c4 => ?_)
  · rw [if_pos c4] at h
    refine zF_go (n := 2) (ps := []) (s' := (18, [(0, .ref 1), (1, .ref 7), (2, .int p_place), (3, .int p_v)], [.ref 78], zh, M)) rfl trivial ?_
    obtain ⟨M2, e5, h⟩ := zb_some h
    refine zF_call (y' := 1) (as := [.ref 78]) (u := (21, [(0, .ref 1), (1, .ref 7), (2, .int p_place), (3, .int p_v)], [], zh, M)) rfl ⟨rfl, rfl⟩ rfl (qD_forget_ok (S := S) (M := M) e5) ?_
    show zF S 131 (21, [(0, .ref 1), (1, .ref 7), (2, .int p_place), (3, .int p_v)], [], zh, M2) _ _
    obtain ⟨g6, h⟩ := zq_some h
    obtain ⟨g7, h⟩ := zq_some h
    refine zF_go (n := 9) (ps := [vp_in p_place 8, vp_in p_place 8]) (s' := (32, [(4, .int (M2 7 p_place.toNatClampNeg)), (0, .ref 1), (1, .ref 7), (2, .int p_place), (3, .int p_v)], [.int (M2 7 p_place.toNatClampNeg)], zh, (zw M2 7 p_place.toNatClampNeg p_v))) rfl ⟨g6, g7, trivial⟩ ?_
    cases h
    exact zF_ret rfl trivial
  · rw [if_neg c4] at h
    refine zF_go (n := 1) (ps := []) (s' := (13, [(0, .ref 1), (1, .ref 7), (2, .int p_place), (3, .int p_v)], [.int (-1)], zh, M)) rfl trivial ?_
    cases h
    exact zF_ret rfl trivial
noncomputable def qS_exchange_1_8 (M : zM) (p_place : Int32) (p_v : Int32) : Option (Int32 × zM) :=
  zb (qS_isOut p_place 0 ((Int32.ofNat 8) - 1)) fun x1 =>
  if x1 = 0 then
    (zb (qD_forget M) fun M2 =>
    zq (vp_in p_place 8) <| zq (vp_in p_place 8) <| some ((M2 8 p_place.toNatClampNeg), (zw M2 8 p_place.toNatClampNeg p_v)))
  else
    (some ((-1), M))
set_option maxRecDepth 20000 in
set_option maxHeartbeats 4000000 in
theorem qS_exchange_1_8_ok {S : zSc} {M : zM} {p_place : Int32} {p_v : Int32} {r : Int32 × zM} (h : qS_exchange_1_8 M p_place p_v = some r) : zF S 131 (0, [(0, .ref 1), (1, .ref 8), (2, .int p_place), (3, .int p_v)], [], zh, M) (some (.int r.1)) (r.2) := by
  unfold qS_exchange_1_8 at h
  refine zF_go (n := 6) (ps := []) (s' := (6, [(0, .ref 1), (1, .ref 8), (2, .int p_place), (3, .int p_v)], [.int ((Int32.ofNat 8) - 1), .int 0, .int p_place], zh, M)) rfl trivial ?_
  obtain ⟨x1, e3, h⟩ := zb_some h
  refine zF_call (y' := 125) (as := [.int p_place, .int 0, .int ((Int32.ofNat 8) - 1)]) (u := (9, [(0, .ref 1), (1, .ref 8), (2, .int p_place), (3, .int p_v)], [], zh, M)) rfl ⟨rfl, rfl⟩ rfl (qS_isOut_ok (S := S) (M := M) e3) ?_
  show zF S 131 (9, [(0, .ref 1), (1, .ref 8), (2, .int p_place), (3, .int p_v)], [.int x1], zh, M) _ _
  refine zF_eq (t := 14) (u := (12, [(0, .ref 1), (1, .ref 8), (2, .int p_place), (3, .int p_v)], [], zh, M)) rfl (fun c4 => ?_) (fun c4 => ?_)
  · rw [if_pos c4] at h
    refine zF_go (n := 2) (ps := []) (s' := (18, [(0, .ref 1), (1, .ref 8), (2, .int p_place), (3, .int p_v)], [.ref 78], zh, M)) rfl trivial ?_
    obtain ⟨M2, e5, h⟩ := zb_some h
    refine zF_call (y' := 1) (as := [.ref 78]) (u := (21, [(0, .ref 1), (1, .ref 8), (2, .int p_place), (3, .int p_v)], [], zh, M)) rfl ⟨rfl, rfl⟩ rfl (qD_forget_ok (S := S) (M := M) e5) ?_
    show zF S 131 (21, [(0, .ref 1), (1, .ref 8), (2, .int p_place), (3, .int p_v)], [], zh, M2) _ _
    obtain ⟨g6, h⟩ := zq_some h
    obtain ⟨g7, h⟩ := zq_some h
    refine zF_go (n := 9) (ps := [vp_in p_place 8, vp_in p_place 8]) (s' := (32, [(4, .int (M2 8 p_place.toNatClampNeg)), (0, .ref 1), (1, .ref 8), (2, .int p_place), (3, .int p_v)], [.int (M2 8 p_place.toNatClampNeg)], zh, (zw M2 8 p_place.toNatClampNeg p_v))) rfl ⟨g6, g7, trivial⟩ ?_
    cases h
    exact zF_ret rfl trivial
  · rw [if_neg c4] at h
    refine zF_go (n := 1) (ps := []) (s' := (13, [(0, .ref 1), (1, .ref 8), (2, .int p_place), (3, .int p_v)], [.int (-1)], zh, M)) rfl trivial ?_
    cases h
    exact zF_ret rfl trivial
noncomputable def qS_set (M : zM) (p_shop : Int32) (p_thing : Int32) (p_what : Int32) (p_v : Int32) : Option (Int32 × zM) :=
  zb (qS_noShop p_shop) fun x1 =>
  if x1 = 0 then
    (zb (qS_noThing M p_thing) fun x2 =>
    if x2 = 0 then
      (if p_what = 0 then
        (zb (qS_isOut p_v 0 99) fun x3 =>
        if x3 = 0 then
          (zb2 (qS_exchange_1_6 M ((p_shop * 4) + p_thing) p_v) fun x4 M5 =>
          some (x4, M5))
        else
          (some ((-2), M)))
      else if p_what = 1 then
        (zb (qS_isOut p_v 0 3) fun x6 =>
        if x6 = 0 then
          (zb2 (qS_exchange_1_7 M ((p_shop * 4) + p_thing) p_v) fun x7 M8 =>
          some (x7, M8))
        else
          (some ((-2), M)))
      else if p_what = 2 then
        (zq (vp_in p_thing 4) <| zb (qS_isOut p_v 0 ((M 4 p_thing.toNatClampNeg) - 1)) fun x9 =>
        if x9 = 0 then
          (zb2 (qS_exchange_1_8 M ((p_shop * 4) + p_thing) p_v) fun x10 M11 =>
          some (x10, M11))
        else
          (some ((-1), M)))
      else 
        (some ((-2), M)))
    else
      (some ((-1), M)))
  else
    (some ((-1), M))
set_option maxRecDepth 20000 in
set_option maxHeartbeats 4000000 in
theorem qS_set_ok {S : zSc} {M : zM} {p_shop : Int32} {p_thing : Int32} {p_what : Int32} {p_v : Int32} {r : Int32 × zM} (h : qS_set M p_shop p_thing p_what p_v = some r) : zF S 89 (0, [(0, .ref 1), (1, .int p_shop), (2, .int p_thing), (3, .int p_what), (4, .int p_v)], [], zh, M) (some (.int r.1)) (r.2) := by
  unfold qS_set at h
  refine zF_go (n := 1) (ps := []) (s' := (1, [(0, .ref 1), (1, .int p_shop), (2, .int p_thing), (3, .int p_what), (4, .int p_v)], [.int p_shop], zh, M)) rfl trivial ?_
  obtain ⟨x1, e12, h⟩ := zb_some h
  refine zF_call (y' := 126) (as := [.int p_shop]) (u := (4, [(0, .ref 1), (1, .int p_shop), (2, .int p_thing), (3, .int p_what), (4, .int p_v)], [], zh, M)) rfl ⟨rfl, rfl⟩ rfl (qS_noShop_ok (S := S) (M := M) e12) ?_
  show zF S 89 (4, [(0, .ref 1), (1, .int p_shop), (2, .int p_thing), (3, .int p_what), (4, .int p_v)], [.int x1], zh, M) _ _
  refine zF_ne (t := 15) (u := (7, [(0, .ref 1), (1, .int p_shop), (2, .int p_thing), (3, .int p_what), (4, .int p_v)], [], zh, M)) rfl (fun c13 => ?_) (fun c13 => ?_)
  · rw [if_neg c13] at h
    refine zF_go (n := 1) (ps := []) (s' := (16, [], [.int (-1)], zh, M)) rfl trivial ?_
    cases h
    exact zF_ret rfl trivial
  · rw [if_pos c13] at h
    refine zF_go (n := 2) (ps := []) (s' := (9, [(0, .ref 1), (1, .int p_shop), (2, .int p_thing), (3, .int p_what), (4, .int p_v)], [.int p_thing, .ref 1], zh, M)) rfl trivial ?_
    obtain ⟨x2, e14, h⟩ := zb_some h
    refine zF_call (y' := 128) (as := [.ref 1, .int p_thing]) (u := (12, [(0, .ref 1), (1, .int p_shop), (2, .int p_thing), (3, .int p_what), (4, .int p_v)], [], zh, M)) rfl ⟨rfl, rfl⟩ rfl (qS_noThing_ok (S := S) (M := M) e14) ?_
    show zF S 89 (12, [(0, .ref 1), (1, .int p_shop), (2, .int p_thing), (3, .int p_what), (4, .int p_v)], [.int x2], zh, M) _ _
    refine zF_eq (t := 17) (u := (15, [(0, .ref 1), (1, .int p_shop), (2, .int p_thing), (3, .int p_what), (4, .int p_v)], [], zh, M)) rfl (fun c15 => ?_) (fun c15 => ?_)
    · rw [if_pos c15] at h
      refine zF_go (n := 7) (ps := []) (s' := (25, [(5, .int ((p_shop * 4) + p_thing)), (0, .ref 1), (1, .int p_shop), (2, .int p_thing), (3, .int p_what), (4, .int p_v)], [.int p_what], zh, M)) rfl trivial ?_
      by_cases c16 : p_what = 0
      · rw [if_pos c16] at h
        refine zF_sw (t := 52) (lv := [(5, .int ((p_shop * 4) + p_thing)), (0, .ref 1), (1, .int p_shop), (2, .int p_thing), (3, .int p_what), (4, .int p_v)]) (st := []) (M := M) rfl (by rw [c16]; rfl) ?_
        refine zF_go (n := 3) (ps := []) (s' := (57, [(5, .int ((p_shop * 4) + p_thing)), (0, .ref 1), (1, .int p_shop), (2, .int p_thing), (3, .int p_what), (4, .int p_v)], [.int 99, .int 0, .int p_v], zh, M)) rfl trivial ?_
        obtain ⟨x3, e17, h⟩ := zb_some h
        refine zF_call (y' := 125) (as := [.int p_v, .int 0, .int 99]) (u := (60, [(5, .int ((p_shop * 4) + p_thing)), (0, .ref 1), (1, .int p_shop), (2, .int p_thing), (3, .int p_what), (4, .int p_v)], [], zh, M)) rfl ⟨rfl, rfl⟩ rfl (qS_isOut_ok (S := S) (M := M) e17) ?_
        show zF S 89 (60, [(5, .int ((p_shop * 4) + p_thing)), (0, .ref 1), (1, .int p_shop), (2, .int p_thing), (3, .int p_what), (4, .int p_v)], [.int x3], zh, M) _ _
        refine zF_eq (t := 68) (u := (63, [(5, .int ((p_shop * 4) + p_thing)), (0, .ref 1), (1, .int p_shop), (2, .int p_thing), (3, .int p_what), (4, .int p_v)], [], zh, M)) rfl (fun c18 => ?_) (fun c18 => ?_)
        · rw [if_pos c18] at h
          refine zF_go (n := 7) (ps := []) (s' := (83, [(5, .int ((p_shop * 4) + p_thing)), (0, .ref 1), (1, .int p_shop), (2, .int p_thing), (3, .int p_what), (4, .int p_v)], [.int p_v, .int ((p_shop * 4) + p_thing), .ref 6, .ref 1], zh, M)) rfl trivial ?_
          obtain ⟨x4, M5, e19, h⟩ := zb2_some h
          refine zF_call (y' := 131) (as := [.ref 1, .ref 6, .int ((p_shop * 4) + p_thing), .int p_v]) (u := (86, [(5, .int ((p_shop * 4) + p_thing)), (0, .ref 1), (1, .int p_shop), (2, .int p_thing), (3, .int p_what), (4, .int p_v)], [], zh, M)) rfl ⟨rfl, rfl⟩ rfl (qS_exchange_1_6_ok (S := S) (M := M) e19) ?_
          show zF S 89 (86, [(5, .int ((p_shop * 4) + p_thing)), (0, .ref 1), (1, .int p_shop), (2, .int p_thing), (3, .int p_what), (4, .int p_v)], [.int x4], zh, M5) _ _
          cases h
          exact zF_ret rfl trivial
        · rw [if_neg c18] at h
          refine zF_go (n := 2) (ps := []) (s' := (86, [(5, .int ((p_shop * 4) + p_thing)), (0, .ref 1), (1, .int p_shop), (2, .int p_thing), (3, .int p_what), (4, .int p_v)], [.int (-2)], zh, M)) rfl trivial ?_
          cases h
          exact zF_ret rfl trivial
      rw [if_neg c16] at h
      by_cases c20 : p_what = 1
      · rw [if_pos c20] at h
        refine zF_sw (t := 87) (lv := [(5, .int ((p_shop * 4) + p_thing)), (0, .ref 1), (1, .int p_shop), (2, .int p_thing), (3, .int p_what), (4, .int p_v)]) (st := []) (M := M) rfl (by rw [c20]; rfl) ?_
        refine zF_go (n := 3) (ps := []) (s' := (91, [(5, .int ((p_shop * 4) + p_thing)), (0, .ref 1), (1, .int p_shop), (2, .int p_thing), (3, .int p_what), (4, .int p_v)], [.int 3, .int 0, .int p_v], zh, M)) rfl trivial ?_
        obtain ⟨x6, e21, h⟩ := zb_some h
        refine zF_call (y' := 125) (as := [.int p_v, .int 0, .int 3]) (u := (94, [(5, .int ((p_shop * 4) + p_thing)), (0, .ref 1), (1, .int p_shop), (2, .int p_thing), (3, .int p_what), (4, .int p_v)], [], zh, M)) rfl ⟨rfl, rfl⟩ rfl (qS_isOut_ok (S := S) (M := M) e21) ?_
        show zF S 89 (94, [(5, .int ((p_shop * 4) + p_thing)), (0, .ref 1), (1, .int p_shop), (2, .int p_thing), (3, .int p_what), (4, .int p_v)], [.int x6], zh, M) _ _
        refine zF_eq (t := 102) (u := (97, [(5, .int ((p_shop * 4) + p_thing)), (0, .ref 1), (1, .int p_shop), (2, .int p_thing), (3, .int p_what), (4, .int p_v)], [], zh, M)) rfl (fun c22 => ?_) (fun c22 => ?_)
        · rw [if_pos c22] at h
          refine zF_go (n := 7) (ps := []) (s' := (117, [(5, .int ((p_shop * 4) + p_thing)), (0, .ref 1), (1, .int p_shop), (2, .int p_thing), (3, .int p_what), (4, .int p_v)], [.int p_v, .int ((p_shop * 4) + p_thing), .ref 7, .ref 1], zh, M)) rfl trivial ?_
          obtain ⟨x7, M8, e23, h⟩ := zb2_some h
          refine zF_call (y' := 131) (as := [.ref 1, .ref 7, .int ((p_shop * 4) + p_thing), .int p_v]) (u := (120, [(5, .int ((p_shop * 4) + p_thing)), (0, .ref 1), (1, .int p_shop), (2, .int p_thing), (3, .int p_what), (4, .int p_v)], [], zh, M)) rfl ⟨rfl, rfl⟩ rfl (qS_exchange_1_7_ok (S := S) (M := M) e23) ?_
          show zF S 89 (120, [(5, .int ((p_shop * 4) + p_thing)), (0, .ref 1), (1, .int p_shop), (2, .int p_thing), (3, .int p_what), (4, .int p_v)], [.int x7], zh, M8) _ _
          cases h
          exact zF_ret rfl trivial
        · rw [if_neg c22] at h
          refine zF_go (n := 2) (ps := []) (s' := (120, [(5, .int ((p_shop * 4) + p_thing)), (0, .ref 1), (1, .int p_shop), (2, .int p_thing), (3, .int p_what), (4, .int p_v)], [.int (-2)], zh, M)) rfl trivial ?_
          cases h
          exact zF_ret rfl trivial
      rw [if_neg c20] at h
      by_cases c24 : p_what = 2
      · rw [if_pos c24] at h
        refine zF_sw (t := 121) (lv := [(5, .int ((p_shop * 4) + p_thing)), (0, .ref 1), (1, .int p_shop), (2, .int p_thing), (3, .int p_what), (4, .int p_v)]) (st := []) (M := M) rfl (by rw [c24]; rfl) ?_
        obtain ⟨g25, h⟩ := zq_some h
        refine zF_go (n := 10) (ps := [vp_in p_thing 4]) (s' := (138, [(5, .int ((p_shop * 4) + p_thing)), (0, .ref 1), (1, .int p_shop), (2, .int p_thing), (3, .int p_what), (4, .int p_v)], [.int ((M 4 p_thing.toNatClampNeg) - 1), .int 0, .int p_v], zh, M)) rfl ⟨g25, trivial⟩ ?_
        obtain ⟨x9, e26, h⟩ := zb_some h
        refine zF_call (y' := 125) (as := [.int p_v, .int 0, .int ((M 4 p_thing.toNatClampNeg) - 1)]) (u := (141, [(5, .int ((p_shop * 4) + p_thing)), (0, .ref 1), (1, .int p_shop), (2, .int p_thing), (3, .int p_what), (4, .int p_v)], [], zh, M)) rfl ⟨rfl, rfl⟩ rfl (qS_isOut_ok (S := S) (M := M) e26) ?_
        show zF S 89 (141, [(5, .int ((p_shop * 4) + p_thing)), (0, .ref 1), (1, .int p_shop), (2, .int p_thing), (3, .int p_what), (4, .int p_v)], [.int x9], zh, M) _ _
        refine zF_eq (t := 148) (u := (144, [(5, .int ((p_shop * 4) + p_thing)), (0, .ref 1), (1, .int p_shop), (2, .int p_thing), (3, .int p_what), (4, .int p_v)], [], zh, M)) rfl (fun c27 => ?_) (fun c27 => ?_)
        · rw [if_pos c27] at h
          refine zF_go (n := 7) (ps := []) (s' := (163, [(5, .int ((p_shop * 4) + p_thing)), (0, .ref 1), (1, .int p_shop), (2, .int p_thing), (3, .int p_what), (4, .int p_v)], [.int p_v, .int ((p_shop * 4) + p_thing), .ref 8, .ref 1], zh, M)) rfl trivial ?_
          obtain ⟨x10, M11, e28, h⟩ := zb2_some h
          refine zF_call (y' := 131) (as := [.ref 1, .ref 8, .int ((p_shop * 4) + p_thing), .int p_v]) (u := (166, [(5, .int ((p_shop * 4) + p_thing)), (0, .ref 1), (1, .int p_shop), (2, .int p_thing), (3, .int p_what), (4, .int p_v)], [], zh, M)) rfl ⟨rfl, rfl⟩ rfl (qS_exchange_1_8_ok (S := S) (M := M) e28) ?_
          show zF S 89 (166, [(5, .int ((p_shop * 4) + p_thing)), (0, .ref 1), (1, .int p_shop), (2, .int p_thing), (3, .int p_what), (4, .int p_v)], [.int x10], zh, M11) _ _
          cases h
          exact zF_ret rfl trivial
        · rw [if_neg c27] at h
          refine zF_go (n := 2) (ps := []) (s' := (166, [(5, .int ((p_shop * 4) + p_thing)), (0, .ref 1), (1, .int p_shop), (2, .int p_thing), (3, .int p_what), (4, .int p_v)], [.int (-1)], zh, M)) rfl trivial ?_
          cases h
          exact zF_ret rfl trivial
      rw [if_neg c24] at h
      refine zF_sw (t := 167) (lv := [(5, .int ((p_shop * 4) + p_thing)), (0, .ref 1), (1, .int p_shop), (2, .int p_thing), (3, .int p_what), (4, .int p_v)]) (st := []) (M := M) rfl (ztab_d (fun j hj => match j, hj with | 0, _ => Or.inr (lv_neT c16 (show (0 : Int32).toInt = (0 : Int) + ((0 : Nat) : Int) from rfl)) | 1, _ => Or.inr (lv_neT c20 (show (1 : Int32).toInt = (0 : Int) + ((1 : Nat) : Int) from rfl)) | 2, _ => Or.inr (lv_neT c24 (show (2 : Int32).toInt = (0 : Int) + ((2 : Nat) : Int) from rfl)) | j + 3, hj => absurd hj (Nat.not_lt.mpr (Nat.le_add_left 3 j)))) ?_
      refine zF_go (n := 1) (ps := []) (s' := (169, [(5, .int ((p_shop * 4) + p_thing)), (0, .ref 1), (1, .int p_shop), (2, .int p_thing), (3, .int p_what), (4, .int p_v)], [.int (-2)], zh, M)) rfl trivial ?_
      cases h
      exact zF_ret rfl trivial
    · rw [if_neg c15] at h
      refine zF_go (n := 1) (ps := []) (s' := (16, [], [.int (-1)], zh, M)) rfl trivial ?_
      cases h
      exact zF_ret rfl trivial
noncomputable def qM_isShop (p_s : Int32) : Option (Int32) :=
  zb (qM_in p_s.toInt64 0 1) fun x1 =>
  zq (x1 = 0 ∨ x1 = 1) <| some x1
set_option maxRecDepth 20000 in
set_option maxHeartbeats 4000000 in
theorem qM_isShop_ok {S : zSc} {M : zM} {p_s : Int32} {r : Int32} (h : qM_isShop p_s = some r) : zF S 136 (0, [(0, .int p_s)], [], zh, M) (some (.int r)) (M) := by
  unfold qM_isShop at h
  refine zF_go (n := 4) (ps := []) (s' := (4, [(0, .int p_s)], [.long 1, .long 0, .long p_s.toInt64], zh, M)) rfl trivial ?_
  obtain ⟨x1, e2, h⟩ := zb_some h
  refine zF_call (y' := 134) (as := [.long p_s.toInt64, .long 0, .long 1]) (u := (7, [(0, .int p_s)], [], zh, M)) rfl ⟨rfl, rfl⟩ rfl (qM_in_ok (S := S) (M := M) e2) ?_
  show zF S 136 (7, [(0, .int p_s)], [.int x1], zh, M) _ _
  obtain ⟨g3, h⟩ := zq_some h
  cases h
  exact zF_ret rfl ⟨g3, trivial⟩
noncomputable def qM_set (M : zM) (p_shop : Int32) (p_thing : Int32) (p_what : Int32) (p_v : Int32) : Option (Int32 × zM) :=
  zb (qM_isShop p_shop) fun x1 =>
  if x1 = 0 then
    (some ((-1), M))
  else
    (zb (qM_isThing M p_thing) fun x2 =>
    if x2 = 0 then
      (some ((-1), M))
    else
      (zlj (fun (_ : Unit) =>
        zb (qM_in p_what.toInt64 0 2) fun x5 =>
        if x5 = 0 then
          (some ((-2), M))
        else
          (zlj (fun (_ : Unit) =>
            zb (if p_what = 0 then
                (zq (vp_in ((4 * p_shop) + p_thing) 8) <| some (M 87 ((4 * p_shop) + p_thing).toNatClampNeg))
              else
                (if p_what = 1 then
                  (zq (vp_in ((4 * p_shop) + p_thing) 8) <| some (M 88 ((4 * p_shop) + p_thing).toNatClampNeg))
                else
                  (zq (vp_in ((4 * p_shop) + p_thing) 8) <| some (M 89 ((4 * p_shop) + p_thing).toNatClampNeg)))) fun (w9 : Int32) =>
            if p_what = 0 then
              (zq (vp_in ((4 * p_shop) + p_thing) 8) <| some (w9, (zw M 87 ((4 * p_shop) + p_thing).toNatClampNeg p_v)))
            else
              (if p_what = 1 then
                (zq (vp_in ((4 * p_shop) + p_thing) 8) <| some (w9, (zw M 88 ((4 * p_shop) + p_thing).toNatClampNeg p_v)))
              else
                (zq (vp_in ((4 * p_shop) + p_thing) 8) <| some (w9, (zw M 89 ((4 * p_shop) + p_thing).toNatClampNeg p_v))))) fun k8 =>
          if p_what < 2 then
            (zb (qM_in p_v.toInt64 0 (if p_what = 0 then 99 else 3)) fun x11 =>
            if x11 = 0 then
              (some ((-2), M))
            else
              (k8 ()))
          else
            (k8 ()))) fun k4 =>
      if p_what = 2 then
        (zq (vp_in p_thing 4) <| zb (qM_in p_v.toInt64 0 ((M 92 p_thing.toNatClampNeg) - 1).toInt64) fun x12 =>
        if x12 = 0 then
          (some ((-1), M))
        else
          (k4 ()))
      else
        (k4 ())))
set_option maxRecDepth 20000 in
set_option maxHeartbeats 4000000 in
theorem qM_set_ok {S : zSc} {M : zM} {p_shop : Int32} {p_thing : Int32} {p_what : Int32} {p_v : Int32} {r : Int32 × zM} (h : qM_set M p_shop p_thing p_what p_v = some r) : zF S 142 (0, [(0, .ref 86), (1, .int p_shop), (2, .int p_thing), (3, .int p_what), (4, .int p_v)], [], zh, M) (some (.int r.1)) (r.2) := by
  unfold qM_set at h
  refine zF_go (n := 1) (ps := []) (s' := (1, [(0, .ref 86), (1, .int p_shop), (2, .int p_thing), (3, .int p_what), (4, .int p_v)], [.int p_shop], zh, M)) rfl trivial ?_
  obtain ⟨x1, e13, h⟩ := zb_some h
  refine zF_call (y' := 136) (as := [.int p_shop]) (u := (4, [(0, .ref 86), (1, .int p_shop), (2, .int p_thing), (3, .int p_what), (4, .int p_v)], [], zh, M)) rfl ⟨rfl, rfl⟩ rfl (qM_isShop_ok (S := S) (M := M) e13) ?_
  show zF S 142 (4, [(0, .ref 86), (1, .int p_shop), (2, .int p_thing), (3, .int p_what), (4, .int p_v)], [.int x1], zh, M) _ _
  refine zF_eq (t := 39) (u := (7, [(0, .ref 86), (1, .int p_shop), (2, .int p_thing), (3, .int p_what), (4, .int p_v)], [], zh, M)) rfl (fun c14 => ?_) (fun c14 => ?_)
  · rw [if_pos c14] at h
    refine zF_go (n := 1) (ps := []) (s' := (40, [], [.int (-1)], zh, M)) rfl trivial ?_
    cases h
    exact zF_ret rfl trivial
  · rw [if_neg c14] at h
    refine zF_go (n := 2) (ps := []) (s' := (9, [(0, .ref 86), (1, .int p_shop), (2, .int p_thing), (3, .int p_what), (4, .int p_v)], [.int p_thing, .ref 86], zh, M)) rfl trivial ?_
    obtain ⟨x2, e15, h⟩ := zb_some h
    refine zF_call (y' := 137) (as := [.ref 86, .int p_thing]) (u := (12, [(0, .ref 86), (1, .int p_shop), (2, .int p_thing), (3, .int p_what), (4, .int p_v)], [], zh, M)) rfl ⟨rfl, rfl⟩ rfl (qM_isThing_ok (S := S) (M := M) e15) ?_
    show zF S 142 (12, [(0, .ref 86), (1, .int p_shop), (2, .int p_thing), (3, .int p_what), (4, .int p_v)], [.int x2], zh, M) _ _
    refine zF_eq (t := 39) (u := (15, [(0, .ref 86), (1, .int p_shop), (2, .int p_thing), (3, .int p_what), (4, .int p_v)], [], zh, M)) rfl (fun c16 => ?_) (fun c16 => ?_)
    · rw [if_pos c16] at h
      refine zF_go (n := 1) (ps := []) (s' := (40, [], [.int (-1)], zh, M)) rfl trivial ?_
      cases h
      exact zF_ret rfl trivial
    · rw [if_neg c16] at h
      refine zF_go (n := 2) (ps := []) (s' := (17, [(0, .ref 86), (1, .int p_shop), (2, .int p_thing), (3, .int p_what), (4, .int p_v)], [.int 2, .int p_what], zh, M)) rfl trivial ?_
      refine zlj_e h (fun k => ∀ (_ : Unit) r, k () = some r → zF S 142 (41, [(0, .ref 86), (1, .int p_shop), (2, .int p_thing), (3, .int p_what), (4, .int p_v)], [], zh, M) (some (.int r.1)) (r.2)) ?_ ?_
      · intro _ r h
        try dsimp only at h
        refine zF_go (n := 4) (ps := []) (s' := (47, [(0, .ref 86), (1, .int p_shop), (2, .int p_thing), (3, .int p_what), (4, .int p_v)], [.long 2, .long 0, .long p_what.toInt64], zh, M)) rfl trivial ?_
        obtain ⟨x5, e17, h⟩ := zb_some h
        refine zF_call (y' := 134) (as := [.long p_what.toInt64, .long 0, .long 2]) (u := (50, [(0, .ref 86), (1, .int p_shop), (2, .int p_thing), (3, .int p_what), (4, .int p_v)], [], zh, M)) rfl ⟨rfl, rfl⟩ rfl (qM_in_ok (S := S) (M := M) e17) ?_
        show zF S 142 (50, [(0, .ref 86), (1, .int p_shop), (2, .int p_thing), (3, .int p_what), (4, .int p_v)], [.int x5], zh, M) _ _
        refine zF_eq (t := 81) (u := (53, [(0, .ref 86), (1, .int p_shop), (2, .int p_thing), (3, .int p_what), (4, .int p_v)], [], zh, M)) rfl (fun c18 => ?_) (fun c18 => ?_)
        · rw [if_pos c18] at h
          refine zF_go (n := 1) (ps := []) (s' := (83, [], [.int (-2)], zh, M)) rfl trivial ?_
          cases h
          exact zF_ret rfl trivial
        · rw [if_neg c18] at h
          refine zF_go (n := 2) (ps := []) (s' := (55, [(0, .ref 86), (1, .int p_shop), (2, .int p_thing), (3, .int p_what), (4, .int p_v)], [.int 2, .int p_what], zh, M)) rfl trivial ?_
          refine zlj_e h (fun k => ∀ (_ : Unit) r, k () = some r → zF S 142 (84, [(0, .ref 86), (1, .int p_shop), (2, .int p_thing), (3, .int p_what), (4, .int p_v)], [], zh, M) (some (.int r.1)) (r.2)) ?_ ?_
          · intro _ r h
            try dsimp only at h
            refine zF_go (n := 7) (ps := []) (s' := (92, [(5, .int ((4 * p_shop) + p_thing)), (0, .ref 86), (1, .int p_shop), (2, .int p_thing), (3, .int p_what), (4, .int p_v)], [.int p_what], zh, M)) rfl trivial ?_
            obtain ⟨w9, g19, h⟩ := zb_some h
            have hk20 : zF S 142 (127, [(0, .ref 86), (3, .int p_what), (4, .int p_v), (5, .int ((4 * p_shop) + p_thing))], [.int w9], zh, M) (some (.int r.1)) (r.2) := by
              refine zF_go (n := 2) (ps := []) (s' := (130, [(6, .int w9), (0, .ref 86), (3, .int p_what), (4, .int p_v), (5, .int ((4 * p_shop) + p_thing))], [.int p_what], zh, M)) rfl trivial ?_
              refine zF_ne (t := 145) (u := (133, [(6, .int w9), (0, .ref 86), (3, .int p_what), (4, .int p_v), (5, .int ((4 * p_shop) + p_thing))], [], zh, M)) rfl (fun c21 => ?_) (fun c21 => ?_)
              · rw [if_neg c21] at h
                refine zF_go (n := 2) (ps := []) (s' := (147, [(6, .int w9), (0, .ref 86), (3, .int p_what), (4, .int p_v), (5, .int ((4 * p_shop) + p_thing))], [.int 1, .int p_what], zh, M)) rfl trivial ?_
                refine zF_ne (t := 162) (u := (150, [(6, .int w9), (0, .ref 86), (3, .int p_what), (4, .int p_v), (5, .int ((4 * p_shop) + p_thing))], [], zh, M)) rfl (fun c22 => ?_) (fun c22 => ?_)
                · rw [if_neg c22] at h
                  obtain ⟨g23, h⟩ := zq_some h
                  refine zF_go (n := 5) (ps := [vp_in ((4 * p_shop) + p_thing) 8]) (s' := (171, [(6, .int w9), (0, .ref 86), (3, .int p_what), (4, .int p_v), (5, .int ((4 * p_shop) + p_thing))], [], zh, (zw M 89 ((4 * p_shop) + p_thing).toNatClampNeg p_v))) rfl ⟨g23, trivial⟩ ?_
                  refine zF_go (n := 1) (ps := []) (s' := (173, [(6, .int w9)], [.int w9], zh, (zw M 89 ((4 * p_shop) + p_thing).toNatClampNeg p_v))) rfl trivial ?_
                  cases h
                  exact zF_ret rfl trivial
                · rw [if_pos c22] at h
                  obtain ⟨g24, h⟩ := zq_some h
                  refine zF_go (n := 6) (ps := [vp_in ((4 * p_shop) + p_thing) 8]) (s' := (171, [(6, .int w9), (0, .ref 86), (3, .int p_what), (4, .int p_v), (5, .int ((4 * p_shop) + p_thing))], [], zh, (zw M 88 ((4 * p_shop) + p_thing).toNatClampNeg p_v))) rfl ⟨g24, trivial⟩ ?_
                  refine zF_go (n := 1) (ps := []) (s' := (173, [(6, .int w9)], [.int w9], zh, (zw M 88 ((4 * p_shop) + p_thing).toNatClampNeg p_v))) rfl trivial ?_
                  cases h
                  exact zF_ret rfl trivial
              · rw [if_pos c21] at h
                obtain ⟨g25, h⟩ := zq_some h
                refine zF_go (n := 6) (ps := [vp_in ((4 * p_shop) + p_thing) 8]) (s' := (171, [(6, .int w9), (0, .ref 86), (3, .int p_what), (4, .int p_v), (5, .int ((4 * p_shop) + p_thing))], [], zh, (zw M 87 ((4 * p_shop) + p_thing).toNatClampNeg p_v))) rfl ⟨g25, trivial⟩ ?_
                refine zF_go (n := 1) (ps := []) (s' := (173, [(6, .int w9)], [.int w9], zh, (zw M 87 ((4 * p_shop) + p_thing).toNatClampNeg p_v))) rfl trivial ?_
                cases h
                exact zF_ret rfl trivial
            refine zF_ne (t := 105) (u := (95, [(5, .int ((4 * p_shop) + p_thing)), (0, .ref 86), (1, .int p_shop), (2, .int p_thing), (3, .int p_what), (4, .int p_v)], [], zh, M)) rfl (fun c26 => ?_) (fun c26 => ?_)
            · rw [if_neg c26] at g19
              refine zF_go (n := 2) (ps := []) (s' := (107, [(5, .int ((4 * p_shop) + p_thing)), (0, .ref 86), (1, .int p_shop), (2, .int p_thing), (3, .int p_what), (4, .int p_v)], [.int 1, .int p_what], zh, M)) rfl trivial ?_
              refine zF_ne (t := 120) (u := (110, [(5, .int ((4 * p_shop) + p_thing)), (0, .ref 86), (1, .int p_shop), (2, .int p_thing), (3, .int p_what), (4, .int p_v)], [], zh, M)) rfl (fun c27 => ?_) (fun c27 => ?_)
              · rw [if_neg c27] at g19
                obtain ⟨g28, g19⟩ := zq_some g19
                refine zF_go (n := 4) (ps := [vp_in ((4 * p_shop) + p_thing) 8]) (s' := (127, [(5, .int ((4 * p_shop) + p_thing)), (0, .ref 86), (1, .int p_shop), (2, .int p_thing), (3, .int p_what), (4, .int p_v)], [.int (M 89 ((4 * p_shop) + p_thing).toNatClampNeg)], zh, M)) rfl ⟨g28, trivial⟩ ?_
                cases g19
                exact zF_as hk20 rfl
              · rw [if_pos c27] at g19
                obtain ⟨g29, g19⟩ := zq_some g19
                refine zF_go (n := 5) (ps := [vp_in ((4 * p_shop) + p_thing) 8]) (s' := (127, [(5, .int ((4 * p_shop) + p_thing)), (0, .ref 86), (1, .int p_shop), (2, .int p_thing), (3, .int p_what), (4, .int p_v)], [.int (M 88 ((4 * p_shop) + p_thing).toNatClampNeg)], zh, M)) rfl ⟨g29, trivial⟩ ?_
                cases g19
                exact zF_as hk20 rfl
            · rw [if_pos c26] at g19
              obtain ⟨g30, g19⟩ := zq_some g19
              refine zF_go (n := 5) (ps := [vp_in ((4 * p_shop) + p_thing) 8]) (s' := (127, [(5, .int ((4 * p_shop) + p_thing)), (0, .ref 86), (1, .int p_shop), (2, .int p_thing), (3, .int p_what), (4, .int p_v)], [.int (M 87 ((4 * p_shop) + p_thing).toNatClampNeg)], zh, M)) rfl ⟨g30, trivial⟩ ?_
              cases g19
              exact zF_as hk20 rfl
          · intro k8 hk8 h
            try dsimp only at h
            refine zF_ge (t := 84) (u := (58, [(0, .ref 86), (1, .int p_shop), (2, .int p_thing), (3, .int p_what), (4, .int p_v)], [], zh, M)) rfl (fun c31 => ?_) (fun c31 => ?_)
            · rw [if_neg c31] at h
              exact zF_as (hk8 () _ h) rfl
            · rw [if_pos c31] at h
              refine zF_go (n := 4) (ps := []) (s' := (63, [(0, .ref 86), (1, .int p_shop), (2, .int p_thing), (3, .int p_what), (4, .int p_v)], [.int p_what, .long 0, .long p_v.toInt64], zh, M)) rfl trivial ?_
              have hk32 : zF S 142 (75, [(0, .ref 86), (1, .int p_shop), (2, .int p_thing), (3, .int p_what), (4, .int p_v)], [.long (if p_what = 0 then 99 else 3), .long 0, .long p_v.toInt64], zh, M) (some (.int r.1)) (r.2) := by
                obtain ⟨x11, e33, h⟩ := zb_some h
                refine zF_call (y' := 134) (as := [.long p_v.toInt64, .long 0, .long (if p_what = 0 then 99 else 3)]) (u := (78, [(0, .ref 86), (1, .int p_shop), (2, .int p_thing), (3, .int p_what), (4, .int p_v)], [], zh, M)) rfl ⟨rfl, rfl⟩ rfl (qM_in_ok (S := S) (M := M) e33) ?_
                show zF S 142 (78, [(0, .ref 86), (1, .int p_shop), (2, .int p_thing), (3, .int p_what), (4, .int p_v)], [.int x11], zh, M) _ _
                refine zF_ne (t := 84) (u := (81, [(0, .ref 86), (1, .int p_shop), (2, .int p_thing), (3, .int p_what), (4, .int p_v)], [], zh, M)) rfl (fun c34 => ?_) (fun c34 => ?_)
                · rw [if_neg c34] at h
                  exact zF_as (hk8 () _ h) rfl
                · rw [if_pos c34] at h
                  refine zF_go (n := 1) (ps := []) (s' := (83, [], [.int (-2)], zh, M)) rfl trivial ?_
                  cases h
                  exact zF_ret rfl trivial
              refine zF_ne (t := 72) (u := (66, [(0, .ref 86), (1, .int p_shop), (2, .int p_thing), (3, .int p_what), (4, .int p_v)], [.long 0, .long p_v.toInt64], zh, M)) rfl (fun c35 => ?_) (fun c35 => ?_)
              · skip
                refine zF_go (n := 1) (ps := []) (s' := (75, [(0, .ref 86), (1, .int p_shop), (2, .int p_thing), (3, .int p_what), (4, .int p_v)], [.long 3, .long 0, .long p_v.toInt64], zh, M)) rfl trivial ?_
                simp only [if_neg c35] at hk32
                try simp only [if_neg c35]
                exact zF_as hk32 rfl
              · skip
                refine zF_go (n := 2) (ps := []) (s' := (75, [(0, .ref 86), (1, .int p_shop), (2, .int p_thing), (3, .int p_what), (4, .int p_v)], [.long 99, .long 0, .long p_v.toInt64], zh, M)) rfl trivial ?_
                simp only [if_pos c35] at hk32
                try simp only [if_pos c35]
                exact zF_as hk32 rfl
      · intro k4 hk4 h
        try dsimp only at h
        refine zF_ne (t := 41) (u := (20, [(0, .ref 86), (1, .int p_shop), (2, .int p_thing), (3, .int p_what), (4, .int p_v)], [], zh, M)) rfl (fun c36 => ?_) (fun c36 => ?_)
        · rw [if_neg c36] at h
          exact zF_as (hk4 () _ h) rfl
        · rw [if_pos c36] at h
          obtain ⟨g37, h⟩ := zq_some h
          refine zF_go (n := 10) (ps := [vp_in p_thing 4]) (s' := (33, [(0, .ref 86), (1, .int p_shop), (2, .int p_thing), (3, .int p_what), (4, .int p_v)], [.long ((M 92 p_thing.toNatClampNeg) - 1).toInt64, .long 0, .long p_v.toInt64], zh, M)) rfl ⟨g37, trivial⟩ ?_
          obtain ⟨x12, e38, h⟩ := zb_some h
          refine zF_call (y' := 134) (as := [.long p_v.toInt64, .long 0, .long ((M 92 p_thing.toNatClampNeg) - 1).toInt64]) (u := (36, [(0, .ref 86), (1, .int p_shop), (2, .int p_thing), (3, .int p_what), (4, .int p_v)], [], zh, M)) rfl ⟨rfl, rfl⟩ rfl (qM_in_ok (S := S) (M := M) e38) ?_
          show zF S 142 (36, [(0, .ref 86), (1, .int p_shop), (2, .int p_thing), (3, .int p_what), (4, .int p_v)], [.int x12], zh, M) _ _
          refine zF_ne (t := 41) (u := (39, [(0, .ref 86), (1, .int p_shop), (2, .int p_thing), (3, .int p_what), (4, .int p_v)], [], zh, M)) rfl (fun c39 => ?_) (fun c39 => ?_)
          · rw [if_neg c39] at h
            exact zF_as (hk4 () _ h) rfl
          · rw [if_pos c39] at h
            refine zF_go (n := 1) (ps := []) (s' := (40, [], [.int (-1)], zh, M)) rfl trivial ?_
            cases h
            exact zF_ret rfl trivial
noncomputable def qS_exchange_1_9 (M : zM) (p_place : Int32) (p_v : Int32) : Option (Int32 × zM) :=
  zb (qS_isOut p_place 0 ((Int32.ofNat 2) - 1)) fun x1 =>
  if x1 = 0 then
    (zb (qD_forget M) fun M2 =>
    zq (vp_in p_place 2) <| zq (vp_in p_place 2) <| some ((M2 9 p_place.toNatClampNeg), (zw M2 9 p_place.toNatClampNeg p_v)))
  else
    (some ((-1), M))
set_option maxRecDepth 20000 in
set_option maxHeartbeats 4000000 in
theorem qS_exchange_1_9_ok {S : zSc} {M : zM} {p_place : Int32} {p_v : Int32} {r : Int32 × zM} (h : qS_exchange_1_9 M p_place p_v = some r) : zF S 131 (0, [(0, .ref 1), (1, .ref 9), (2, .int p_place), (3, .int p_v)], [], zh, M) (some (.int r.1)) (r.2) := by
  unfold qS_exchange_1_9 at h
  refine zF_go (n := 6) (ps := []) (s' := (6, [(0, .ref 1), (1, .ref 9), (2, .int p_place), (3, .int p_v)], [.int ((Int32.ofNat 2) - 1), .int 0, .int p_place], zh, M)) rfl trivial ?_
  obtain ⟨x1, e3, h⟩ := zb_some h
  refine zF_call (y' := 125) (as := [.int p_place, .int 0, .int ((Int32.ofNat 2) - 1)]) (u := (9, [(0, .ref 1), (1, .ref 9), (2, .int p_place), (3, .int p_v)], [], zh, M)) rfl ⟨rfl, rfl⟩ rfl (qS_isOut_ok (S := S) (M := M) e3) ?_
  show zF S 131 (9, [(0, .ref 1), (1, .ref 9), (2, .int p_place), (3, .int p_v)], [.int x1], zh, M) _ _
  refine zF_eq (t := 14) (u := (12, [(0, .ref 1), (1, .ref 9), (2, .int p_place), (3, .int p_v)], [], zh, M)) rfl (fun c4 => ?_) (fun c4 => ?_)
  · rw [if_pos c4] at h
    refine zF_go (n := 2) (ps := []) (s' := (18, [(0, .ref 1), (1, .ref 9), (2, .int p_place), (3, .int p_v)], [.ref 78], zh, M)) rfl trivial ?_
    obtain ⟨M2, e5, h⟩ := zb_some h
    refine zF_call (y' := 1) (as := [.ref 78]) (u := (21, [(0, .ref 1), (1, .ref 9), (2, .int p_place), (3, .int p_v)], [], zh, M)) rfl ⟨rfl, rfl⟩ rfl (qD_forget_ok (S := S) (M := M) e5) ?_
    show zF S 131 (21, [(0, .ref 1), (1, .ref 9), (2, .int p_place), (3, .int p_v)], [], zh, M2) _ _
    obtain ⟨g6, h⟩ := zq_some h
    obtain ⟨g7, h⟩ := zq_some h
    refine zF_go (n := 9) (ps := [vp_in p_place 2, vp_in p_place 2]) (s' := (32, [(4, .int (M2 9 p_place.toNatClampNeg)), (0, .ref 1), (1, .ref 9), (2, .int p_place), (3, .int p_v)], [.int (M2 9 p_place.toNatClampNeg)], zh, (zw M2 9 p_place.toNatClampNeg p_v))) rfl ⟨g6, g7, trivial⟩ ?_
    cases h
    exact zF_ret rfl trivial
  · rw [if_neg c4] at h
    refine zF_go (n := 1) (ps := []) (s' := (13, [(0, .ref 1), (1, .ref 9), (2, .int p_place), (3, .int p_v)], [.int (-1)], zh, M)) rfl trivial ?_
    cases h
    exact zF_ret rfl trivial
noncomputable def qS_show (M : zM) (p_shop : Int32) (p_things : Int32) : Option (Int32 × zM) :=
  zb (qS_noShop p_shop) fun x1 =>
  if x1 = 0 then
    (zb (qS_isOut p_things 0 15) fun x2 =>
    if x2 = 0 then
      (zb2 (qS_exchange_1_9 M p_shop p_things) fun x3 M4 =>
      some (x3, M4))
    else
      (some ((-2), M)))
  else
    (some ((-1), M))
set_option maxRecDepth 20000 in
set_option maxHeartbeats 4000000 in
theorem qS_show_ok {S : zSc} {M : zM} {p_shop : Int32} {p_things : Int32} {r : Int32 × zM} (h : qS_show M p_shop p_things = some r) : zF S 90 (0, [(0, .ref 1), (1, .int p_shop), (2, .int p_things)], [], zh, M) (some (.int r.1)) (r.2) := by
  unfold qS_show at h
  refine zF_go (n := 1) (ps := []) (s' := (1, [(0, .ref 1), (1, .int p_shop), (2, .int p_things)], [.int p_shop], zh, M)) rfl trivial ?_
  obtain ⟨x1, e5, h⟩ := zb_some h
  refine zF_call (y' := 126) (as := [.int p_shop]) (u := (4, [(0, .ref 1), (1, .int p_shop), (2, .int p_things)], [], zh, M)) rfl ⟨rfl, rfl⟩ rfl (qS_noShop_ok (S := S) (M := M) e5) ?_
  show zF S 90 (4, [(0, .ref 1), (1, .int p_shop), (2, .int p_things)], [.int x1], zh, M) _ _
  refine zF_eq (t := 9) (u := (7, [(0, .ref 1), (1, .int p_shop), (2, .int p_things)], [], zh, M)) rfl (fun c6 => ?_) (fun c6 => ?_)
  · rw [if_pos c6] at h
    refine zF_go (n := 3) (ps := []) (s' := (13, [(0, .ref 1), (1, .int p_shop), (2, .int p_things)], [.int 15, .int 0, .int p_things], zh, M)) rfl trivial ?_
    obtain ⟨x2, e7, h⟩ := zb_some h
    refine zF_call (y' := 125) (as := [.int p_things, .int 0, .int 15]) (u := (16, [(0, .ref 1), (1, .int p_shop), (2, .int p_things)], [], zh, M)) rfl ⟨rfl, rfl⟩ rfl (qS_isOut_ok (S := S) (M := M) e7) ?_
    show zF S 90 (16, [(0, .ref 1), (1, .int p_shop), (2, .int p_things)], [.int x2], zh, M) _ _
    refine zF_eq (t := 22) (u := (19, [(0, .ref 1), (1, .int p_shop), (2, .int p_things)], [], zh, M)) rfl (fun c8 => ?_) (fun c8 => ?_)
    · rw [if_pos c8] at h
      refine zF_go (n := 7) (ps := []) (s' := (35, [(0, .ref 1), (1, .int p_shop), (2, .int p_things)], [.int p_things, .int p_shop, .ref 9, .ref 1], zh, M)) rfl trivial ?_
      obtain ⟨x3, M4, e9, h⟩ := zb2_some h
      refine zF_call (y' := 131) (as := [.ref 1, .ref 9, .int p_shop, .int p_things]) (u := (38, [(0, .ref 1), (1, .int p_shop), (2, .int p_things)], [], zh, M)) rfl ⟨rfl, rfl⟩ rfl (qS_exchange_1_9_ok (S := S) (M := M) e9) ?_
      show zF S 90 (38, [(0, .ref 1), (1, .int p_shop), (2, .int p_things)], [.int x3], zh, M4) _ _
      cases h
      exact zF_ret rfl trivial
    · rw [if_neg c8] at h
      refine zF_go (n := 1) (ps := []) (s' := (21, [(0, .ref 1), (1, .int p_shop), (2, .int p_things)], [.int (-2)], zh, M)) rfl trivial ?_
      cases h
      exact zF_ret rfl trivial
  · rw [if_neg c6] at h
    refine zF_go (n := 1) (ps := []) (s' := (8, [(0, .ref 1), (1, .int p_shop), (2, .int p_things)], [.int (-1)], zh, M)) rfl trivial ?_
    cases h
    exact zF_ret rfl trivial
noncomputable def qM_show (M : zM) (p_shop : Int32) (p_things : Int32) : Option (Int32 × zM) :=
  zb (qM_isShop p_shop) fun x1 =>
  if x1 = 0 then
    (some ((-1), M))
  else
    (zb (qM_in p_things.toInt64 0 15) fun x2 =>
    if x2 = 0 then
      (some ((-2), M))
    else
      (zq (vp_in p_shop 2) <| zq (vp_in p_shop 2) <| some ((M 90 p_shop.toNatClampNeg), (zw M 90 p_shop.toNatClampNeg p_things))))
set_option maxRecDepth 20000 in
set_option maxHeartbeats 4000000 in
theorem qM_show_ok {S : zSc} {M : zM} {p_shop : Int32} {p_things : Int32} {r : Int32 × zM} (h : qM_show M p_shop p_things = some r) : zF S 143 (0, [(0, .ref 86), (1, .int p_shop), (2, .int p_things)], [], zh, M) (some (.int r.1)) (r.2) := by
  unfold qM_show at h
  refine zF_go (n := 1) (ps := []) (s' := (1, [(0, .ref 86), (1, .int p_shop), (2, .int p_things)], [.int p_shop], zh, M)) rfl trivial ?_
  obtain ⟨x1, e3, h⟩ := zb_some h
  refine zF_call (y' := 136) (as := [.int p_shop]) (u := (4, [(0, .ref 86), (1, .int p_shop), (2, .int p_things)], [], zh, M)) rfl ⟨rfl, rfl⟩ rfl (qM_isShop_ok (S := S) (M := M) e3) ?_
  show zF S 143 (4, [(0, .ref 86), (1, .int p_shop), (2, .int p_things)], [.int x1], zh, M) _ _
  refine zF_ne (t := 9) (u := (7, [(0, .ref 86), (1, .int p_shop), (2, .int p_things)], [], zh, M)) rfl (fun c4 => ?_) (fun c4 => ?_)
  · rw [if_neg c4] at h
    refine zF_go (n := 4) (ps := []) (s' := (15, [(0, .ref 86), (1, .int p_shop), (2, .int p_things)], [.long 15, .long 0, .long p_things.toInt64], zh, M)) rfl trivial ?_
    obtain ⟨x2, e5, h⟩ := zb_some h
    refine zF_call (y' := 134) (as := [.long p_things.toInt64, .long 0, .long 15]) (u := (18, [(0, .ref 86), (1, .int p_shop), (2, .int p_things)], [], zh, M)) rfl ⟨rfl, rfl⟩ rfl (qM_in_ok (S := S) (M := M) e5) ?_
    show zF S 143 (18, [(0, .ref 86), (1, .int p_shop), (2, .int p_things)], [.int x2], zh, M) _ _
    refine zF_ne (t := 24) (u := (21, [(0, .ref 86), (1, .int p_shop), (2, .int p_things)], [], zh, M)) rfl (fun c6 => ?_) (fun c6 => ?_)
    · rw [if_neg c6] at h
      obtain ⟨g7, h⟩ := zq_some h
      obtain ⟨g8, h⟩ := zq_some h
      refine zF_go (n := 11) (ps := [vp_in p_shop 2, vp_in p_shop 2]) (s' := (39, [(3, .int (M 90 p_shop.toNatClampNeg)), (0, .ref 86), (1, .int p_shop), (2, .int p_things)], [.int (M 90 p_shop.toNatClampNeg)], zh, (zw M 90 p_shop.toNatClampNeg p_things))) rfl ⟨g7, g8, trivial⟩ ?_
      cases h
      exact zF_ret rfl trivial
    · rw [if_pos c6] at h
      refine zF_go (n := 1) (ps := []) (s' := (23, [(0, .ref 86), (1, .int p_shop), (2, .int p_things)], [.int (-2)], zh, M)) rfl trivial ?_
      cases h
      exact zF_ret rfl trivial
  · rw [if_pos c4] at h
    refine zF_go (n := 1) (ps := []) (s' := (8, [(0, .ref 86), (1, .int p_shop), (2, .int p_things)], [.int (-1)], zh, M)) rfl trivial ?_
    cases h
    exact zF_ret rfl trivial
noncomputable def qE_addSort_L56 (M : zM) (rec3 : (Int32 × zM) → Option (Int32 × zM)) (v : Int32 × zM) : Option (Int32 × zM) := match v with
  | (v6_1, M2) =>
    if v6_1 < 4 then
      (zq (vp_in (((M 10 0) * 4) + v6_1) 20) <| rec3 ((v6_1 + 1), (zw M2 15 (((M 10 0) * 4) + v6_1).toNatClampNeg 0)))
    else
      (some ((M 10 0), (zw M2 10 0 ((M2 10 0) + 1))))
noncomputable def qE_addSort (M : zM) (p_number : Int32) (p_farHere : Int32) (p_farThere : Int32) (p_how : Int32) : Option (Int32 × zM) :=
  zq (vp_in (M 10 0) 5) <| zq (vp_in ((M 10 0) * 2) 10) <| zq (vp_in (((M 10 0) * 2) + 1) 10) <| zq (vp_in (M 10 0) 5) <| zq (vp_in (M 10 0) 5) <| zlp (qE_addSort_L56 M) zfu (0, (zw (zw (zw (zw (zw M 11 (M 10 0).toNatClampNeg p_number) 12 ((M 10 0) * 2).toNatClampNeg p_farHere) 12 (((M 10 0) * 2) + 1).toNatClampNeg p_farThere) 13 (M 10 0).toNatClampNeg p_how) 14 (M 10 0).toNatClampNeg 0))
set_option maxRecDepth 20000 in
set_option maxHeartbeats 4000000 in
theorem qE_addSort_ok {S : zSc} {M : zM} {p_number : Int32} {p_farHere : Int32} {p_farThere : Int32} {p_how : Int32} {r : Int32 × zM} (h : qE_addSort M p_number p_farHere p_farThere p_how = some r) : zF S 40 (0, [(0, .ref 10), (1, .int p_number), (2, .int p_farHere), (3, .int p_farThere), (4, .int p_how)], [], zh, M) (some (.int r.1)) (r.2) := by
  unfold qE_addSort at h
  obtain ⟨g4, h⟩ := zq_some h
  obtain ⟨g5, h⟩ := zq_some h
  obtain ⟨g6, h⟩ := zq_some h
  obtain ⟨g7, h⟩ := zq_some h
  obtain ⟨g8, h⟩ := zq_some h
  refine zF_go (n := 36) (ps := [vp_in (M 10 0) 5, vp_in ((M 10 0) * 2) 10, vp_in (((M 10 0) * 2) + 1) 10, vp_in (M 10 0) 5, vp_in (M 10 0) 5]) (s' := (56, [(6, .int 0), (5, .int (M 10 0)), (0, .ref 10), (1, .int p_number), (2, .int p_farHere), (3, .int p_farThere), (4, .int p_how)], [], zh, (zw (zw (zw (zw (zw M 11 (M 10 0).toNatClampNeg p_number) 12 ((M 10 0) * 2).toNatClampNeg p_farHere) 12 (((M 10 0) * 2) + 1).toNatClampNeg p_farThere) 13 (M 10 0).toNatClampNeg p_how) 14 (M 10 0).toNatClampNeg 0))) rfl ⟨g4, g5, g6, g7, g8, trivial⟩ ?_
  refine zF_same (s' := (56, [(0, .ref 10), (5, .int (M 10 0)), (6, .int 0)], [], zh, (zw (zw (zw (zw (zw M 11 (M 10 0).toNatClampNeg p_number) 12 ((M 10 0) * 2).toNatClampNeg p_farHere) 12 (((M 10 0) * 2) + 1).toNatClampNeg p_farThere) 13 (M 10 0).toNatClampNeg p_how) 14 (M 10 0).toNatClampNeg 0))) rfl ?_
  refine zlp_ind (P := fun (v : Int32 × zM) r => zF S 40 (56, [(0, .ref 10), (5, .int (M 10 0)), (6, .int v.1)], [], zh, v.2) (some (.int r.1)) (r.2)) ?_ _ _ _ h
  intro rec3 hrec3 v r h
  obtain ⟨v6_1, M2⟩ := v
  unfold qE_addSort_L56 at h
  dsimp only at h
  show zF S 40 (56, [(0, .ref 10), (5, .int (M 10 0)), (6, .int v6_1)], [], zh, M2) _ _
  refine zF_go (n := 2) (ps := []) (s' := (59, [(0, .ref 10), (5, .int (M 10 0)), (6, .int v6_1)], [.int 4, .int v6_1], zh, M2)) rfl trivial ?_
  refine zF_ge (t := 81) (u := (62, [(0, .ref 10), (5, .int (M 10 0)), (6, .int v6_1)], [], zh, M2)) rfl (fun c9 => ?_) (fun c9 => ?_)
  · rw [if_neg c9] at h
    refine zF_go (n := 7) (ps := []) (s' := (93, [(0, .ref 10), (5, .int (M 10 0)), (6, .int v6_1)], [.int (M 10 0)], zh, (zw M2 10 0 ((M2 10 0) + 1)))) rfl trivial ?_
    cases h
    exact zF_ret rfl trivial
  · rw [if_pos c9] at h
    obtain ⟨g10, h⟩ := zq_some h
    refine zF_go (n := 11) (ps := [vp_in (((M 10 0) * 4) + v6_1) 20]) (s' := (56, [(6, .int (v6_1 + 1)), (0, .ref 10), (5, .int (M 10 0))], [], zh, (zw M2 15 (((M 10 0) * 4) + v6_1).toNatClampNeg 0))) rfl ⟨g10, trivial⟩ ?_
    exact zF_as (hrec3 _ _ h) rfl
noncomputable def qS_sort (M : zM) (p_many : Int32) (p_far : Int32) (p_other : Int32) (p_way : Int32) : Option (Int32 × zM) :=
  zb (qS_isOut p_many 1 99) fun x1 =>
  if x1 = 0 then
    (zb (qS_isOut p_far 0 99) fun x2 =>
    if x2 = 0 then
      (zb (qS_isOut p_other 0 99) fun x3 =>
      if x3 = 0 then
        (zb (qS_isOut p_way 0 2) fun x4 =>
        if x4 = 0 then
          (if (M 10 0) < 5 then
            (zb (qD_forget M) fun M5 =>
            zb2 (qE_addSort M5 p_many p_far p_other p_way) fun x6 M7 =>
            some (x6, M7))
          else
            (some ((-4), M)))
        else
          (some ((-2), M)))
      else
        (some ((-2), M)))
    else
      (some ((-2), M)))
  else
    (some ((-2), M))
set_option maxRecDepth 20000 in
set_option maxHeartbeats 4000000 in
theorem qS_sort_ok {S : zSc} {M : zM} {p_many : Int32} {p_far : Int32} {p_other : Int32} {p_way : Int32} {r : Int32 × zM} (h : qS_sort M p_many p_far p_other p_way = some r) : zF S 91 (0, [(0, .ref 1), (1, .int p_many), (2, .int p_far), (3, .int p_other), (4, .int p_way)], [], zh, M) (some (.int r.1)) (r.2) := by
  unfold qS_sort at h
  refine zF_go (n := 3) (ps := []) (s' := (4, [(0, .ref 1), (1, .int p_many), (2, .int p_far), (3, .int p_other), (4, .int p_way)], [.int 99, .int 1, .int p_many], zh, M)) rfl trivial ?_
  obtain ⟨x1, e8, h⟩ := zb_some h
  refine zF_call (y' := 125) (as := [.int p_many, .int 1, .int 99]) (u := (7, [(0, .ref 1), (1, .int p_many), (2, .int p_far), (3, .int p_other), (4, .int p_way)], [], zh, M)) rfl ⟨rfl, rfl⟩ rfl (qS_isOut_ok (S := S) (M := M) e8) ?_
  show zF S 91 (7, [(0, .ref 1), (1, .int p_many), (2, .int p_far), (3, .int p_other), (4, .int p_way)], [.int x1], zh, M) _ _
  refine zF_ne (t := 40) (u := (10, [(0, .ref 1), (1, .int p_many), (2, .int p_far), (3, .int p_other), (4, .int p_way)], [], zh, M)) rfl (fun c9 => ?_) (fun c9 => ?_)
  · rw [if_neg c9] at h
    refine zF_go (n := 1) (ps := []) (s' := (42, [], [.int (-2)], zh, M)) rfl trivial ?_
    cases h
    exact zF_ret rfl trivial
  · rw [if_pos c9] at h
    refine zF_go (n := 3) (ps := []) (s' := (14, [(0, .ref 1), (1, .int p_many), (2, .int p_far), (3, .int p_other), (4, .int p_way)], [.int 99, .int 0, .int p_far], zh, M)) rfl trivial ?_
    obtain ⟨x2, e10, h⟩ := zb_some h
    refine zF_call (y' := 125) (as := [.int p_far, .int 0, .int 99]) (u := (17, [(0, .ref 1), (1, .int p_many), (2, .int p_far), (3, .int p_other), (4, .int p_way)], [], zh, M)) rfl ⟨rfl, rfl⟩ rfl (qS_isOut_ok (S := S) (M := M) e10) ?_
    show zF S 91 (17, [(0, .ref 1), (1, .int p_many), (2, .int p_far), (3, .int p_other), (4, .int p_way)], [.int x2], zh, M) _ _
    refine zF_ne (t := 40) (u := (20, [(0, .ref 1), (1, .int p_many), (2, .int p_far), (3, .int p_other), (4, .int p_way)], [], zh, M)) rfl (fun c11 => ?_) (fun c11 => ?_)
    · rw [if_neg c11] at h
      refine zF_go (n := 1) (ps := []) (s' := (42, [], [.int (-2)], zh, M)) rfl trivial ?_
      cases h
      exact zF_ret rfl trivial
    · rw [if_pos c11] at h
      refine zF_go (n := 3) (ps := []) (s' := (24, [(0, .ref 1), (1, .int p_many), (2, .int p_far), (3, .int p_other), (4, .int p_way)], [.int 99, .int 0, .int p_other], zh, M)) rfl trivial ?_
      obtain ⟨x3, e12, h⟩ := zb_some h
      refine zF_call (y' := 125) (as := [.int p_other, .int 0, .int 99]) (u := (27, [(0, .ref 1), (1, .int p_many), (2, .int p_far), (3, .int p_other), (4, .int p_way)], [], zh, M)) rfl ⟨rfl, rfl⟩ rfl (qS_isOut_ok (S := S) (M := M) e12) ?_
      show zF S 91 (27, [(0, .ref 1), (1, .int p_many), (2, .int p_far), (3, .int p_other), (4, .int p_way)], [.int x3], zh, M) _ _
      refine zF_ne (t := 40) (u := (30, [(0, .ref 1), (1, .int p_many), (2, .int p_far), (3, .int p_other), (4, .int p_way)], [], zh, M)) rfl (fun c13 => ?_) (fun c13 => ?_)
      · rw [if_neg c13] at h
        refine zF_go (n := 1) (ps := []) (s' := (42, [], [.int (-2)], zh, M)) rfl trivial ?_
        cases h
        exact zF_ret rfl trivial
      · rw [if_pos c13] at h
        refine zF_go (n := 3) (ps := []) (s' := (34, [(0, .ref 1), (1, .int p_many), (2, .int p_far), (3, .int p_other), (4, .int p_way)], [.int 2, .int 0, .int p_way], zh, M)) rfl trivial ?_
        obtain ⟨x4, e14, h⟩ := zb_some h
        refine zF_call (y' := 125) (as := [.int p_way, .int 0, .int 2]) (u := (37, [(0, .ref 1), (1, .int p_many), (2, .int p_far), (3, .int p_other), (4, .int p_way)], [], zh, M)) rfl ⟨rfl, rfl⟩ rfl (qS_isOut_ok (S := S) (M := M) e14) ?_
        show zF S 91 (37, [(0, .ref 1), (1, .int p_many), (2, .int p_far), (3, .int p_other), (4, .int p_way)], [.int x4], zh, M) _ _
        refine zF_eq (t := 43) (u := (40, [(0, .ref 1), (1, .int p_many), (2, .int p_far), (3, .int p_other), (4, .int p_way)], [], zh, M)) rfl (fun c15 => ?_) (fun c15 => ?_)
        · rw [if_pos c15] at h
          refine zF_go (n := 5) (ps := []) (s' := (54, [(0, .ref 1), (1, .int p_many), (2, .int p_far), (3, .int p_other), (4, .int p_way)], [.int 5, .int (M 10 0)], zh, M)) rfl trivial ?_
          refine zF_lt (t := 60) (u := (57, [(0, .ref 1), (1, .int p_many), (2, .int p_far), (3, .int p_other), (4, .int p_way)], [], zh, M)) rfl (fun c16 => ?_) (fun c16 => ?_)
          · rw [if_pos c16] at h
            refine zF_go (n := 2) (ps := []) (s' := (64, [(0, .ref 1), (1, .int p_many), (2, .int p_far), (3, .int p_other), (4, .int p_way)], [.ref 78], zh, M)) rfl trivial ?_
            obtain ⟨M5, e17, h⟩ := zb_some h
            refine zF_call (y' := 1) (as := [.ref 78]) (u := (67, [(0, .ref 1), (1, .int p_many), (2, .int p_far), (3, .int p_other), (4, .int p_way)], [], zh, M)) rfl ⟨rfl, rfl⟩ rfl (qD_forget_ok (S := S) (M := M) e17) ?_
            show zF S 91 (67, [(0, .ref 1), (1, .int p_many), (2, .int p_far), (3, .int p_other), (4, .int p_way)], [], zh, M5) _ _
            refine zF_go (n := 7) (ps := []) (s' := (79, [(0, .ref 1), (1, .int p_many), (2, .int p_far), (3, .int p_other), (4, .int p_way)], [.int p_way, .int p_other, .int p_far, .int p_many, .ref 10], zh, M5)) rfl trivial ?_
            obtain ⟨x6, M7, e18, h⟩ := zb2_some h
            refine zF_call (y' := 40) (as := [.ref 10, .int p_many, .int p_far, .int p_other, .int p_way]) (u := (82, [(0, .ref 1), (1, .int p_many), (2, .int p_far), (3, .int p_other), (4, .int p_way)], [], zh, M5)) rfl ⟨rfl, rfl⟩ rfl (qE_addSort_ok (S := S) (M := M5) e18) ?_
            show zF S 91 (82, [(0, .ref 1), (1, .int p_many), (2, .int p_far), (3, .int p_other), (4, .int p_way)], [.int x6], zh, M7) _ _
            cases h
            exact zF_ret rfl trivial
          · rw [if_neg c16] at h
            refine zF_go (n := 1) (ps := []) (s' := (59, [(0, .ref 1), (1, .int p_many), (2, .int p_far), (3, .int p_other), (4, .int p_way)], [.int (-4)], zh, M)) rfl trivial ?_
            cases h
            exact zF_ret rfl trivial
        · rw [if_neg c15] at h
          refine zF_go (n := 1) (ps := []) (s' := (42, [], [.int (-2)], zh, M)) rfl trivial ?_
          cases h
          exact zF_ret rfl trivial
noncomputable def qM_clearList_L2 (p_sort : Int32) (rec3 : (Int32 × zM) → Option (zM)) (v : Int32 × zM) : Option (zM) := match v with
  | (v2_1, M2) =>
    if v2_1 < 4 then
      (zq (vp_in ((4 * p_sort) + v2_1) 20) <| rec3 ((v2_1 + 1), (zw M2 97 ((4 * p_sort) + v2_1).toNatClampNeg 0)))
    else
      (some M2)
noncomputable def qM_clearList (M : zM) (p_sort : Int32) : Option (zM) :=
  zlp (qM_clearList_L2 p_sort) zfu (0, M)
set_option maxRecDepth 20000 in
set_option maxHeartbeats 4000000 in
theorem qM_clearList_ok {S : zSc} {M : zM} {p_sort : Int32} {r : zM} (h : qM_clearList M p_sort = some r) : zF S 147 (0, [(0, .ref 86), (1, .int p_sort)], [], zh, M) (none) (r) := by
  unfold qM_clearList at h
  refine zF_go (n := 2) (ps := []) (s' := (2, [(2, .int 0), (0, .ref 86), (1, .int p_sort)], [], zh, M)) rfl trivial ?_
  refine zF_same (s' := (2, [(0, .ref 86), (1, .int p_sort), (2, .int 0)], [], zh, M)) rfl ?_
  refine zlp_ind (P := fun (v : Int32 × zM) r => zF S 147 (2, [(0, .ref 86), (1, .int p_sort), (2, .int v.1)], [], zh, v.2) (none) (r)) ?_ _ _ _ h
  intro rec3 hrec3 v r h
  obtain ⟨v2_1, M2⟩ := v
  unfold qM_clearList_L2 at h
  dsimp only at h
  show zF S 147 (2, [(0, .ref 86), (1, .int p_sort), (2, .int v2_1)], [], zh, M2) _ _
  refine zF_go (n := 2) (ps := []) (s' := (4, [(0, .ref 86), (1, .int p_sort), (2, .int v2_1)], [.int 4, .int v2_1], zh, M2)) rfl trivial ?_
  refine zF_ge (t := 24) (u := (7, [(0, .ref 86), (1, .int p_sort), (2, .int v2_1)], [], zh, M2)) rfl (fun c4 => ?_) (fun c4 => ?_)
  · rw [if_neg c4] at h
    cases h
    exact zF_ret rfl trivial
  · rw [if_pos c4] at h
    obtain ⟨g5, h⟩ := zq_some h
    refine zF_go (n := 11) (ps := [vp_in ((4 * p_sort) + v2_1) 20]) (s' := (2, [(2, .int (v2_1 + 1)), (0, .ref 86), (1, .int p_sort)], [], zh, (zw M2 97 ((4 * p_sort) + v2_1).toNatClampNeg 0))) rfl ⟨g5, trivial⟩ ?_
    exact zF_as (hrec3 _ _ h) rfl
end ZT
