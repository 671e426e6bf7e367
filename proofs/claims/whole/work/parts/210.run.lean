section ZT
noncomputable def qT_clear (M : zM) : Option (Int32 × zM) :=
  some ((M 18 0), (zw M 18 0 0))
set_option maxRecDepth 20000 in
set_option maxHeartbeats 4000000 in
theorem qT_clear_ok {S : zSc} {M : zM} {r : Int32 × zM} (h : qT_clear M = some r) : zF S 56 (0, [(0, .ref 18)], [], zh, M) (some (.int r.1)) (r.2) := by
  unfold qT_clear at h
  refine zF_go (n := 7) (ps := []) (s' := (11, [(1, .int (M 18 0)), (0, .ref 18)], [.int (M 18 0)], zh, (zw M 18 0 0))) rfl trivial ?_
  cases h
  exact zF_ret rfl trivial
noncomputable def qS_burn (M : zM) : Option (Int32 × zM) :=
  zb2 (qT_clear M) fun x1 M2 =>
  some (x1, M2)
set_option maxRecDepth 20000 in
set_option maxHeartbeats 4000000 in
theorem qS_burn_ok {S : zSc} {M : zM} {r : Int32 × zM} (h : qS_burn M = some r) : zF S 118 (0, [(0, .ref 1)], [], zh, M) (some (.int r.1)) (r.2) := by
  unfold qS_burn at h
  refine zF_go (n := 3) (ps := []) (s' := (7, [(0, .ref 1)], [.ref 18], zh, M)) rfl trivial ?_
  obtain ⟨x1, M2, e3, h⟩ := zb2_some h
  refine zF_call (y' := 56) (as := [.ref 18]) (u := (10, [(0, .ref 1)], [], zh, M)) rfl ⟨rfl, rfl⟩ rfl (qT_clear_ok (S := S) (M := M) e3) ?_
  show zF S 118 (10, [(0, .ref 1)], [.int x1], zh, M2) _ _
  cases h
  exact zF_ret rfl trivial
noncomputable def qM_burn (M : zM) : Option (Int32 × zM) :=
  some ((M 86 29), (zw M 86 29 0))
set_option maxRecDepth 20000 in
set_option maxHeartbeats 4000000 in
theorem qM_burn_ok {S : zSc} {M : zM} {r : Int32 × zM} (h : qM_burn M = some r) : zF S 199 (0, [(0, .ref 86)], [], zh, M) (some (.int r.1)) (r.2) := by
  unfold qM_burn at h
  refine zF_go (n := 7) (ps := []) (s' := (11, [(1, .int (M 86 29)), (0, .ref 86)], [.int (M 86 29)], zh, (zw M 86 29 0))) rfl trivial ?_
  cases h
  exact zF_ret rfl trivial
noncomputable def qT_countWith_L4 (M : zM) (p_bits : Int32) (rec3 : (Int32 × Int32) → Option (Int32)) (v : Int32 × Int32) : Option (Int32) := match v with
  | (v2_1, v3_2) =>
    if v3_2 < (M 18 0) then
      (zq (vp_in v3_2 30) <| if ((M 19 v3_2.toNatClampNeg) &&& p_bits) = p_bits then
        (rec3 ((v2_1 + 1), (v3_2 + 1)))
      else
        (rec3 (v2_1, (v3_2 + 1))))
    else
      (some v2_1)
noncomputable def qT_countWith (M : zM) (p_bits : Int32) : Option (Int32) :=
  zlp (qT_countWith_L4 M p_bits) zfu (0, 0)
set_option maxRecDepth 20000 in
set_option maxHeartbeats 4000000 in
theorem qT_countWith_ok {S : zSc} {M : zM} {p_bits : Int32} {r : Int32} (h : qT_countWith M p_bits = some r) : zF S 57 (0, [(0, .ref 18), (1, .int p_bits)], [], zh, M) (some (.int r)) (M) := by
  unfold qT_countWith at h
  refine zF_go (n := 4) (ps := []) (s' := (4, [(3, .int 0), (2, .int 0), (0, .ref 18), (1, .int p_bits)], [], zh, M)) rfl trivial ?_
  refine zF_same (s' := (4, [(0, .ref 18), (1, .int p_bits), (2, .int 0), (3, .int 0)], [], zh, M)) rfl ?_
  refine zlp_ind (P := fun (v : Int32 × Int32) r => zF S 57 (4, [(0, .ref 18), (1, .int p_bits), (2, .int v.1), (3, .int v.2)], [], zh, M) (some (.int r)) (M)) ?_ _ _ _ h
  intro rec3 hrec3 v r h
  obtain ⟨v2_1, v3_2⟩ := v
  unfold qT_countWith_L4 at h
  dsimp only at h
  show zF S 57 (4, [(0, .ref 18), (1, .int p_bits), (2, .int v2_1), (3, .int v3_2)], [], zh, M) _ _
  refine zF_go (n := 3) (ps := []) (s' := (9, [(0, .ref 18), (1, .int p_bits), (2, .int v2_1), (3, .int v3_2)], [.int (M 18 0), .int v3_2], zh, M)) rfl trivial ?_
  refine zF_ge (t := 33) (u := (12, [(0, .ref 18), (1, .int p_bits), (2, .int v2_1), (3, .int v3_2)], [], zh, M)) rfl (fun c4 => ?_) (fun c4 => ?_)
  · rw [if_neg c4] at h
    refine zF_go (n := 1) (ps := []) (s' := (34, [(0, .ref 18), (1, .int p_bits), (2, .int v2_1), (3, .int v3_2)], [.int v2_1], zh, M)) rfl trivial ?_
    cases h
    exact zF_ret rfl trivial
  · rw [if_pos c4] at h
    obtain ⟨g5, h⟩ := zq_some h
    refine zF_go (n := 7) (ps := [vp_in v3_2 30]) (s' := (21, [(0, .ref 18), (1, .int p_bits), (2, .int v2_1), (3, .int v3_2)], [.int p_bits, .int ((M 19 v3_2.toNatClampNeg) &&& p_bits)], zh, M)) rfl ⟨g5, trivial⟩ ?_
    refine zF_ne (t := 27) (u := (24, [(0, .ref 18), (1, .int p_bits), (2, .int v2_1), (3, .int v3_2)], [], zh, M)) rfl (fun c6 => ?_) (fun c6 => ?_)
    · rw [if_neg c6] at h
      refine zF_go (n := 2) (ps := []) (s' := (4, [(3, .int (v3_2 + 1)), (0, .ref 18), (1, .int p_bits), (2, .int v2_1)], [], zh, M)) rfl trivial ?_
      exact zF_as (hrec3 _ _ h) rfl
    · rw [if_pos c6] at h
      refine zF_go (n := 1) (ps := []) (s' := (27, [(2, .int (v2_1 + 1)), (0, .ref 18), (1, .int p_bits), (3, .int v3_2)], [], zh, M)) rfl trivial ?_
      refine zF_go (n := 2) (ps := []) (s' := (4, [(3, .int (v3_2 + 1)), (0, .ref 18), (1, .int p_bits), (2, .int (v2_1 + 1))], [], zh, M)) rfl trivial ?_
      exact zF_as (hrec3 _ _ h) rfl
noncomputable def qS_with (M : zM) (p_thing : Int32) (p_other : Int32) : Option (Int32) :=
  zb (qS_noLetter p_thing) fun x1 =>
  if x1 = 0 then
    (zb (qS_noLetter p_other) fun x2 =>
    if x2 = 0 then
      (zb (qT_countWith M ((1 <<< (p_thing &&& 31)) ||| (1 <<< (p_other &&& 31)))) fun x3 =>
      some x3)
    else
      (some (-1)))
  else
    (some (-1))
set_option maxRecDepth 20000 in
set_option maxHeartbeats 4000000 in
theorem qS_with_ok {S : zSc} {M : zM} {p_thing : Int32} {p_other : Int32} {r : Int32} (h : qS_with M p_thing p_other = some r) : zF S 119 (0, [(0, .ref 1), (1, .int p_thing), (2, .int p_other)], [], zh, M) (some (.int r)) (M) := by
  unfold qS_with at h
  refine zF_go (n := 1) (ps := []) (s' := (1, [(0, .ref 1), (1, .int p_thing), (2, .int p_other)], [.int p_thing], zh, M)) rfl trivial ?_
  obtain ⟨x1, e4, h⟩ := zb_some h
  refine zF_call (y' := 127) (as := [.int p_thing]) (u := (4, [(0, .ref 1), (1, .int p_thing), (2, .int p_other)], [], zh, M)) rfl ⟨rfl, rfl⟩ rfl (qS_noLetter_ok (S := S) (M := M) e4) ?_
  show zF S 119 (4, [(0, .ref 1), (1, .int p_thing), (2, .int p_other)], [.int x1], zh, M) _ _
  refine zF_ne (t := 14) (u := (7, [(0, .ref 1), (1, .int p_thing), (2, .int p_other)], [], zh, M)) rfl (fun c5 => ?_) (fun c5 => ?_)
  · rw [if_neg c5] at h
    refine zF_go (n := 1) (ps := []) (s' := (15, [], [.int (-1)], zh, M)) rfl trivial ?_
    cases h
    exact zF_ret rfl trivial
  · rw [if_pos c5] at h
    refine zF_go (n := 1) (ps := []) (s' := (8, [(0, .ref 1), (1, .int p_thing), (2, .int p_other)], [.int p_other], zh, M)) rfl trivial ?_
    obtain ⟨x2, e6, h⟩ := zb_some h
    refine zF_call (y' := 127) (as := [.int p_other]) (u := (11, [(0, .ref 1), (1, .int p_thing), (2, .int p_other)], [], zh, M)) rfl ⟨rfl, rfl⟩ rfl (qS_noLetter_ok (S := S) (M := M) e6) ?_
    show zF S 119 (11, [(0, .ref 1), (1, .int p_thing), (2, .int p_other)], [.int x2], zh, M) _ _
    refine zF_eq (t := 16) (u := (14, [(0, .ref 1), (1, .int p_thing), (2, .int p_other)], [], zh, M)) rfl (fun c7 => ?_) (fun c7 => ?_)
    · rw [if_pos c7] at h
      refine zF_go (n := 10) (ps := []) (s' := (30, [(0, .ref 1), (1, .int p_thing), (2, .int p_other)], [.int ((1 <<< (p_thing &&& 31)) ||| (1 <<< (p_other &&& 31))), .ref 18], zh, M)) rfl trivial ?_
      obtain ⟨x3, e8, h⟩ := zb_some h
      refine zF_call (y' := 57) (as := [.ref 18, .int ((1 <<< (p_thing &&& 31)) ||| (1 <<< (p_other &&& 31)))]) (u := (33, [(0, .ref 1), (1, .int p_thing), (2, .int p_other)], [], zh, M)) rfl ⟨rfl, rfl⟩ rfl (qT_countWith_ok (S := S) (M := M) e8) ?_
      show zF S 119 (33, [(0, .ref 1), (1, .int p_thing), (2, .int p_other)], [.int x3], zh, M) _ _
      cases h
      exact zF_ret rfl trivial
    · rw [if_neg c7] at h
      refine zF_go (n := 1) (ps := []) (s' := (15, [], [.int (-1)], zh, M)) rfl trivial ?_
      cases h
      exact zF_ret rfl trivial
noncomputable def qM_withBoth_L5 (M : zM) (p_a : Int32) (p_b : Int32) (rec3 : (Int32 × Int32) → Option (Int32)) (v : Int32 × Int32) : Option (Int32) := match v with
  | (v3_1, v4_2) =>
    if v4_2 < (M 86 29) then
      (zq (vp_in v4_2 30) <| zq (vp_in v4_2 30) <| rec3 ((v3_1 + ((((M 105 v4_2.toNatClampNeg) >>> (p_a &&& 31)) &&& ((M 105 v4_2.toNatClampNeg) >>> (p_b &&& 31))) &&& 1)), (v4_2 + 1)))
    else
      (some v3_1)
noncomputable def qM_withBoth (M : zM) (p_a : Int32) (p_b : Int32) : Option (Int32) :=
  zlp (qM_withBoth_L5 M p_a p_b) zfu (0, 0)
set_option maxRecDepth 20000 in
set_option maxHeartbeats 4000000 in
theorem qM_withBoth_ok {S : zSc} {M : zM} {p_a : Int32} {p_b : Int32} {r : Int32} (h : qM_withBoth M p_a p_b = some r) : zF S 200 (0, [(0, .ref 86), (1, .int p_a), (2, .int p_b)], [], zh, M) (some (.int r)) (M) := by
  unfold qM_withBoth at h
  refine zF_go (n := 4) (ps := []) (s' := (5, [(4, .int 0), (3, .int 0), (0, .ref 86), (1, .int p_a), (2, .int p_b)], [], zh, M)) rfl trivial ?_
  refine zF_same (s' := (5, [(0, .ref 86), (1, .int p_a), (2, .int p_b), (3, .int 0), (4, .int 0)], [], zh, M)) rfl ?_
  refine zlp_ind (P := fun (v : Int32 × Int32) r => zF S 200 (5, [(0, .ref 86), (1, .int p_a), (2, .int p_b), (3, .int v.1), (4, .int v.2)], [], zh, M) (some (.int r)) (M)) ?_ _ _ _ h
  intro rec3 hrec3 v r h
  obtain ⟨v3_1, v4_2⟩ := v
  unfold qM_withBoth_L5 at h
  dsimp only at h
  show zF S 200 (5, [(0, .ref 86), (1, .int p_a), (2, .int p_b), (3, .int v3_1), (4, .int v4_2)], [], zh, M) _ _
  refine zF_go (n := 3) (ps := []) (s' := (11, [(0, .ref 86), (1, .int p_a), (2, .int p_b), (3, .int v3_1), (4, .int v4_2)], [.int (M 86 29), .int v4_2], zh, M)) rfl trivial ?_
  refine zF_ge (t := 44) (u := (14, [(0, .ref 86), (1, .int p_a), (2, .int p_b), (3, .int v3_1), (4, .int v4_2)], [], zh, M)) rfl (fun c4 => ?_) (fun c4 => ?_)
  · rw [if_neg c4] at h
    refine zF_go (n := 1) (ps := []) (s' := (45, [(0, .ref 86), (1, .int p_a), (2, .int p_b), (3, .int v3_1), (4, .int v4_2)], [.int v3_1], zh, M)) rfl trivial ?_
    cases h
    exact zF_ret rfl trivial
  · rw [if_pos c4] at h
    obtain ⟨g5, h⟩ := zq_some h
    obtain ⟨g6, h⟩ := zq_some h
    refine zF_go (n := 20) (ps := [vp_in v4_2 30, vp_in v4_2 30]) (s' := (5, [(4, .int (v4_2 + 1)), (3, .int (v3_1 + ((((M 105 v4_2.toNatClampNeg) >>> (p_a &&& 31)) &&& ((M 105 v4_2.toNatClampNeg) >>> (p_b &&& 31))) &&& 1))), (0, .ref 86), (1, .int p_a), (2, .int p_b)], [], zh, M)) rfl ⟨g5, g6, trivial⟩ ?_
    exact zF_as (hrec3 _ _ h) rfl
noncomputable def qM_with (M : zM) (p_thing : Int32) (p_other : Int32) : Option (Int32) :=
  zb (qM_isLetter p_thing) fun x1 =>
  if x1 = 0 then
    (some (-1))
  else
    (zb (qM_isLetter p_other) fun x2 =>
    if x2 = 0 then
      (some (-1))
    else
      (zb (qM_withBoth M p_thing p_other) fun x3 =>
      some x3))
set_option maxRecDepth 20000 in
set_option maxHeartbeats 4000000 in
theorem qM_with_ok {S : zSc} {M : zM} {p_thing : Int32} {p_other : Int32} {r : Int32} (h : qM_with M p_thing p_other = some r) : zF S 201 (0, [(0, .ref 86), (1, .int p_thing), (2, .int p_other)], [], zh, M) (some (.int r)) (M) := by
  unfold qM_with at h
  refine zF_go (n := 1) (ps := []) (s' := (1, [(0, .ref 86), (1, .int p_thing), (2, .int p_other)], [.int p_thing], zh, M)) rfl trivial ?_
  obtain ⟨x1, e4, h⟩ := zb_some h
  refine zF_call (y' := 138) (as := [.int p_thing]) (u := (4, [(0, .ref 86), (1, .int p_thing), (2, .int p_other)], [], zh, M)) rfl ⟨rfl, rfl⟩ rfl (qM_isLetter_ok (S := S) (M := M) e4) ?_
  show zF S 201 (4, [(0, .ref 86), (1, .int p_thing), (2, .int p_other)], [.int x1], zh, M) _ _
  refine zF_eq (t := 23) (u := (7, [(0, .ref 86), (1, .int p_thing), (2, .int p_other)], [], zh, M)) rfl (fun c5 => ?_) (fun c5 => ?_)
  · rw [if_pos c5] at h
    refine zF_go (n := 1) (ps := []) (s' := (24, [], [.int (-1)], zh, M)) rfl trivial ?_
    cases h
    exact zF_ret rfl trivial
  · rw [if_neg c5] at h
    refine zF_go (n := 1) (ps := []) (s' := (8, [(0, .ref 86), (1, .int p_thing), (2, .int p_other)], [.int p_other], zh, M)) rfl trivial ?_
    obtain ⟨x2, e6, h⟩ := zb_some h
    refine zF_call (y' := 138) (as := [.int p_other]) (u := (11, [(0, .ref 86), (1, .int p_thing), (2, .int p_other)], [], zh, M)) rfl ⟨rfl, rfl⟩ rfl (qM_isLetter_ok (S := S) (M := M) e6) ?_
    show zF S 201 (11, [(0, .ref 86), (1, .int p_thing), (2, .int p_other)], [.int x2], zh, M) _ _
    refine zF_eq (t := 23) (u := (14, [(0, .ref 86), (1, .int p_thing), (2, .int p_other)], [], zh, M)) rfl (fun c7 => ?_) (fun c7 => ?_)
    · rw [if_pos c7] at h
      refine zF_go (n := 1) (ps := []) (s' := (24, [], [.int (-1)], zh, M)) rfl trivial ?_
      cases h
      exact zF_ret rfl trivial
    · rw [if_neg c7] at h
      refine zF_go (n := 3) (ps := []) (s' := (17, [(0, .ref 86), (1, .int p_thing), (2, .int p_other)], [.int p_other, .int p_thing, .ref 86], zh, M)) rfl trivial ?_
      obtain ⟨x3, e8, h⟩ := zb_some h
      refine zF_call (y' := 200) (as := [.ref 86, .int p_thing, .int p_other]) (u := (20, [(0, .ref 86), (1, .int p_thing), (2, .int p_other)], [], zh, M)) rfl ⟨rfl, rfl⟩ rfl (qM_withBoth_ok (S := S) (M := M) e8) ?_
      show zF S 201 (20, [(0, .ref 86), (1, .int p_thing), (2, .int p_other)], [.int x3], zh, M) _ _
      refine zF_go (n := 1) (ps := []) (s' := (24, [(0, .ref 86), (1, .int p_thing), (2, .int p_other)], [.int x3], zh, M)) rfl trivial ?_
      cases h
      exact zF_ret rfl trivial
noncomputable def qT_choose_L16 (p_number : Int32) (p_from : Int32) (rec3 : (Int64 × Int32) → Option (Int64)) (v : Int64 × Int32) : Option (Int64) := match v with
  | (v2_1, v4_2) =>
    if v4_2 < p_number then
      (zq (¬ (v4_2 + 1).toInt64 = 0) <| rec3 (((v2_1 * (p_from - v4_2).toInt64) / (v4_2 + 1).toInt64), (v4_2 + 1)))
    else
      (some v2_1)
noncomputable def qT_choose (p_from : Int32) (p_number : Int32) : Option (Int64) :=
  if p_number < 0 then
    (some 0)
  else
    (if p_from < p_number then
      (some 0)
    else
      (zlp (qT_choose_L16 p_number p_from) zfu (1, 0)))
set_option maxRecDepth 20000 in
set_option maxHeartbeats 4000000 in
theorem qT_choose_ok {S : zSc} {M : zM} {p_from : Int32} {p_number : Int32} {r : Int64} (h : qT_choose p_from p_number = some r) : zF S 59 (0, [(0, .int p_from), (1, .int p_number)], [], zh, M) (some (.long r)) (M) := by
  unfold qT_choose at h
  refine zF_go (n := 1) (ps := []) (s' := (1, [(0, .int p_from), (1, .int p_number)], [.int p_number], zh, M)) rfl trivial ?_
  refine zF_lt (t := 9) (u := (4, [(0, .int p_from), (1, .int p_number)], [], zh, M)) rfl (fun c4 => ?_) (fun c4 => ?_)
  · rw [if_pos c4] at h
    refine zF_go (n := 1) (ps := []) (s' := (10, [], [.long 0], zh, M)) rfl trivial ?_
    cases h
    exact zF_ret rfl trivial
  · rw [if_neg c4] at h
    refine zF_go (n := 2) (ps := []) (s' := (6, [(0, .int p_from), (1, .int p_number)], [.int p_from, .int p_number], zh, M)) rfl trivial ?_
    refine zF_le (t := 11) (u := (9, [(0, .int p_from), (1, .int p_number)], [], zh, M)) rfl (fun c5 => ?_) (fun c5 => ?_)
    · rw [if_neg c5] at h
      refine zF_go (n := 4) (ps := []) (s' := (16, [(4, .int 0), (2, .long 1), (0, .int p_from), (1, .int p_number)], [], zh, M)) rfl trivial ?_
      refine zF_same (s' := (16, [(0, .int p_from), (1, .int p_number), (2, .long 1), (4, .int 0)], [], zh, M)) rfl ?_
      refine zlp_ind (P := fun (v : Int64 × Int32) r => zF S 59 (16, [(0, .int p_from), (1, .int p_number), (2, .long v.1), (4, .int v.2)], [], zh, M) (some (.long r)) (M)) ?_ _ _ _ h
      intro rec3 hrec3 v r h
      obtain ⟨v2_1, v4_2⟩ := v
      unfold qT_choose_L16 at h
      dsimp only at h
      show zF S 59 (16, [(0, .int p_from), (1, .int p_number), (2, .long v2_1), (4, .int v4_2)], [], zh, M) _ _
      refine zF_go (n := 2) (ps := []) (s' := (19, [(0, .int p_from), (1, .int p_number), (2, .long v2_1), (4, .int v4_2)], [.int p_number, .int v4_2], zh, M)) rfl trivial ?_
      refine zF_ge (t := 42) (u := (22, [(0, .int p_from), (1, .int p_number), (2, .long v2_1), (4, .int v4_2)], [], zh, M)) rfl (fun c6 => ?_) (fun c6 => ?_)
      · rw [if_neg c6] at h
        refine zF_go (n := 1) (ps := []) (s' := (43, [(0, .int p_from), (1, .int p_number), (2, .long v2_1), (4, .int v4_2)], [.long v2_1], zh, M)) rfl trivial ?_
        cases h
        exact zF_ret rfl trivial
      · rw [if_pos c6] at h
        obtain ⟨g7, h⟩ := zq_some h
        refine zF_go (n := 14) (ps := [¬ (v4_2 + 1).toInt64 = 0]) (s' := (16, [(4, .int (v4_2 + 1)), (2, .long ((v2_1 * (p_from - v4_2).toInt64) / (v4_2 + 1).toInt64)), (0, .int p_from), (1, .int p_number)], [], zh, M)) rfl ⟨g7, trivial⟩ ?_
        exact zF_as (hrec3 _ _ h) rfl
    · rw [if_pos c5] at h
      refine zF_go (n := 1) (ps := []) (s' := (10, [], [.long 0], zh, M)) rfl trivial ?_
      cases h
      exact zF_ret rfl trivial
noncomputable def qT_commonDivisor_L9 (rec4 : (Int64 × Int64 × Int32) → Option (Int64)) (v : Int64 × Int64 × Int32) : Option (Int64) := match v with
  | (v4_1, v6_2, v8_3) =>
    if v8_3 < 100 then
      (if (lg_cmp v6_2 0) = 0 then
        (some v4_1)
      else
        (zq (¬ v6_2 = 0) <| rec4 (v6_2, (v4_1 - v4_1 / v6_2 * v6_2), (v8_3 + 1))))
    else
      (some v4_1)
noncomputable def qT_commonDivisor (p_a : Int64) (p_b : Int64) : Option (Int64) :=
  zlp (qT_commonDivisor_L9) zfu (p_a, p_b, 0)
set_option maxRecDepth 20000 in
set_option maxHeartbeats 4000000 in
theorem qT_commonDivisor_ok {S : zSc} {M : zM} {p_a : Int64} {p_b : Int64} {r : Int64} (h : qT_commonDivisor p_a p_b = some r) : zF S 60 (0, [(0, .long p_a), (2, .long p_b)], [], zh, M) (some (.long r)) (M) := by
  unfold qT_commonDivisor at h
  refine zF_go (n := 6) (ps := []) (s' := (9, [(8, .int 0), (6, .long p_b), (4, .long p_a), (0, .long p_a), (2, .long p_b)], [], zh, M)) rfl trivial ?_
  refine zF_same (s' := (9, [(4, .long p_a), (6, .long p_b), (8, .int 0)], [], zh, M)) rfl ?_
  refine zlp_ind (P := fun (v : Int64 × Int64 × Int32) r => zF S 60 (9, [(4, .long v.1), (6, .long v.2.1), (8, .int v.2.2)], [], zh, M) (some (.long r)) (M)) ?_ _ _ _ h
  intro rec4 hrec4 v r h
  obtain ⟨v4_1, v6_2, v8_3⟩ := v
  unfold qT_commonDivisor_L9 at h
  dsimp only at h
  show zF S 60 (9, [(4, .long v4_1), (6, .long v6_2), (8, .int v8_3)], [], zh, M) _ _
  refine zF_go (n := 2) (ps := []) (s' := (13, [(4, .long v4_1), (6, .long v6_2), (8, .int v8_3)], [.int 100, .int v8_3], zh, M)) rfl trivial ?_
  refine zF_ge (t := 44) (u := (16, [(4, .long v4_1), (6, .long v6_2), (8, .int v8_3)], [], zh, M)) rfl (fun c5 => ?_) (fun c5 => ?_)
  · rw [if_neg c5] at h
    refine zF_go (n := 1) (ps := []) (s' := (46, [(4, .long v4_1)], [.long v4_1], zh, M)) rfl trivial ?_
    cases h
    exact zF_ret rfl trivial
  · rw [if_pos c5] at h
    refine zF_go (n := 3) (ps := []) (s' := (20, [(4, .long v4_1), (6, .long v6_2), (8, .int v8_3)], [.int (lg_cmp v6_2 0)], zh, M)) rfl trivial ?_
    refine zF_eq (t := 44) (u := (23, [(4, .long v4_1), (6, .long v6_2), (8, .int v8_3)], [], zh, M)) rfl (fun c6 => ?_) (fun c6 => ?_)
    · rw [if_pos c6] at h
      refine zF_go (n := 1) (ps := []) (s' := (46, [(4, .long v4_1)], [.long v4_1], zh, M)) rfl trivial ?_
      cases h
      exact zF_ret rfl trivial
    · rw [if_neg c6] at h
      obtain ⟨g7, h⟩ := zq_some h
      refine zF_go (n := 10) (ps := [¬ v6_2 = 0]) (s' := (9, [(8, .int (v8_3 + 1)), (6, .long (v4_1 - v4_1 / v6_2 * v6_2)), (4, .long v6_2), (9, .long (v4_1 - v4_1 / v6_2 * v6_2))], [], zh, M)) rfl ⟨g7, trivial⟩ ?_
      exact zF_as (hrec4 _ _ h) rfl
noncomputable def qT_odds_L26 (x1 : Int32) (M : zM) (p_part : Int32) (x2 : Int32) (rec6 : (Int64 × Int32) → Option (Int64)) (v : Int64 × Int32) : Option (Int64) := match v with
  | (v6_4, v8_5) =>
    if x1 < v8_5 then
      (zb (qT_choose (M 18 0) x1) fun x7 =>
      zb (qT_commonDivisor x7 v6_4) fun x8 =>
      if p_part = 0 then
        (zq (¬ (if x8 < 1 then 1 else x8) = 0) <| some (v6_4 / (if x8 < 1 then 1 else x8)))
      else
        (zq (¬ (if x8 < 1 then 1 else x8) = 0) <| some (x7 / (if x8 < 1 then 1 else x8))))
    else
      (zb (qT_choose x2 v8_5) fun x9 =>
      zb (qT_choose ((M 18 0) - x2) (x1 - v8_5)) fun x10 =>
      rec6 ((v6_4 + (x9 * x10)), (v8_5 + 1)))
noncomputable def qT_odds (M : zM) (p_one : Int32) (p_other : Int32) (p_part : Int32) : Option (Int64) :=
  zb (qT_countWith M p_one) fun x1 =>
  zb (qT_countWith M p_other) fun x2 =>
  zb (qT_countWith M (p_one ||| p_other)) fun x3 =>
  zlp (qT_odds_L26 x1 M p_part x2) zfu (0, x3)
set_option maxRecDepth 20000 in
set_option maxHeartbeats 4000000 in
theorem qT_odds_ok {S : zSc} {M : zM} {p_one : Int32} {p_other : Int32} {p_part : Int32} {r : Int64} (h : qT_odds M p_one p_other p_part = some r) : zF S 58 (0, [(0, .ref 18), (1, .int p_one), (2, .int p_other), (3, .int p_part)], [], zh, M) (some (.long r)) (M) := by
  unfold qT_odds at h
  refine zF_go (n := 2) (ps := []) (s' := (2, [(0, .ref 18), (1, .int p_one), (2, .int p_other), (3, .int p_part)], [.int p_one, .ref 18], zh, M)) rfl trivial ?_
  obtain ⟨x1, e11, h⟩ := zb_some h
  refine zF_call (y' := 57) (as := [.ref 18, .int p_one]) (u := (5, [(0, .ref 18), (1, .int p_one), (2, .int p_other), (3, .int p_part)], [], zh, M)) rfl ⟨rfl, rfl⟩ rfl (qT_countWith_ok (S := S) (M := M) e11) ?_
  show zF S 58 (5, [(0, .ref 18), (1, .int p_one), (2, .int p_other), (3, .int p_part)], [.int x1], zh, M) _ _
  refine zF_go (n := 3) (ps := []) (s' := (9, [(4, .int x1), (0, .ref 18), (1, .int p_one), (2, .int p_other), (3, .int p_part)], [.int p_other, .ref 18], zh, M)) rfl trivial ?_
  obtain ⟨x2, e12, h⟩ := zb_some h
  refine zF_call (y' := 57) (as := [.ref 18, .int p_other]) (u := (12, [(4, .int x1), (0, .ref 18), (1, .int p_one), (2, .int p_other), (3, .int p_part)], [], zh, M)) rfl ⟨rfl, rfl⟩ rfl (qT_countWith_ok (S := S) (M := M) e12) ?_
  show zF S 58 (12, [(4, .int x1), (0, .ref 18), (1, .int p_one), (2, .int p_other), (3, .int p_part)], [.int x2], zh, M) _ _
  refine zF_go (n := 7) (ps := []) (s' := (21, [(6, .long 0), (5, .int x2), (4, .int x1), (0, .ref 18), (1, .int p_one), (2, .int p_other), (3, .int p_part)], [.int (p_one ||| p_other), .ref 18], zh, M)) rfl trivial ?_
  obtain ⟨x3, e13, h⟩ := zb_some h
  refine zF_call (y' := 57) (as := [.ref 18, .int (p_one ||| p_other)]) (u := (24, [(6, .long 0), (5, .int x2), (4, .int x1), (0, .ref 18), (1, .int p_one), (2, .int p_other), (3, .int p_part)], [], zh, M)) rfl ⟨rfl, rfl⟩ rfl (qT_countWith_ok (S := S) (M := M) e13) ?_
  show zF S 58 (24, [(6, .long 0), (5, .int x2), (4, .int x1), (0, .ref 18), (1, .int p_one), (2, .int p_other), (3, .int p_part)], [.int x3], zh, M) _ _
  refine zF_go (n := 1) (ps := []) (s' := (26, [(8, .int x3), (6, .long 0), (5, .int x2), (4, .int x1), (0, .ref 18), (1, .int p_one), (2, .int p_other), (3, .int p_part)], [], zh, M)) rfl trivial ?_
  refine zF_same (s' := (26, [(0, .ref 18), (3, .int p_part), (4, .int x1), (5, .int x2), (6, .long 0), (8, .int x3)], [], zh, M)) rfl ?_
  refine zlp_ind (P := fun (v : Int64 × Int32) r => zF S 58 (26, [(0, .ref 18), (3, .int p_part), (4, .int x1), (5, .int x2), (6, .long v.1), (8, .int v.2)], [], zh, M) (some (.long r)) (M)) ?_ _ _ _ h
  intro rec6 hrec6 v r h
  obtain ⟨v6_4, v8_5⟩ := v
  unfold qT_odds_L26 at h
  dsimp only at h
  show zF S 58 (26, [(0, .ref 18), (3, .int p_part), (4, .int x1), (5, .int x2), (6, .long v6_4), (8, .int v8_5)], [], zh, M) _ _
  refine zF_go (n := 2) (ps := []) (s' := (30, [(0, .ref 18), (3, .int p_part), (4, .int x1), (5, .int x2), (6, .long v6_4), (8, .int v8_5)], [.int x1, .int v8_5], zh, M)) rfl trivial ?_
  refine zF_gt (t := 67) (u := (33, [(0, .ref 18), (3, .int p_part), (4, .int x1), (5, .int x2), (6, .long v6_4), (8, .int v8_5)], [], zh, M)) rfl (fun c14 => ?_) (fun c14 => ?_)
  · rw [if_pos c14] at h
    refine zF_go (n := 3) (ps := []) (s' := (73, [(0, .ref 18), (3, .int p_part), (4, .int x1), (5, .int x2), (6, .long v6_4), (8, .int v8_5)], [.int x1, .int (M 18 0)], zh, M)) rfl trivial ?_
    obtain ⟨x7, e15, h⟩ := zb_some h
    refine zF_call (y' := 59) (as := [.int (M 18 0), .int x1]) (u := (76, [(0, .ref 18), (3, .int p_part), (4, .int x1), (5, .int x2), (6, .long v6_4), (8, .int v8_5)], [], zh, M)) rfl ⟨rfl, rfl⟩ rfl (qT_choose_ok (S := S) (M := M) e15) ?_
    show zF S 58 (76, [(0, .ref 18), (3, .int p_part), (4, .int x1), (5, .int x2), (6, .long v6_4), (8, .int v8_5)], [.long x7], zh, M) _ _
    refine zF_go (n := 4) (ps := []) (s' := (83, [(8, .long x7), (0, .ref 18), (3, .int p_part), (4, .int x1), (5, .int x2), (6, .long v6_4)], [.long v6_4, .long x7, .long 1], zh, M)) rfl trivial ?_
    obtain ⟨x8, e16, h⟩ := zb_some h
    refine zF_call (y' := 60) (as := [.long x7, .long v6_4]) (u := (86, [(8, .long x7), (0, .ref 18), (3, .int p_part), (4, .int x1), (5, .int x2), (6, .long v6_4)], [.long 1], zh, M)) rfl ⟨rfl, rfl⟩ rfl (qT_commonDivisor_ok (S := S) (M := M) e16) ?_
    show zF S 58 (86, [(8, .long x7), (0, .ref 18), (3, .int p_part), (4, .int x1), (5, .int x2), (6, .long v6_4)], [.long x8, .long 1], zh, M) _ _
    refine zF_go (n := 3) (ps := []) (s' := (92, [(10, .long (if x8 < 1 then 1 else x8)), (8, .long x7), (0, .ref 18), (3, .int p_part), (4, .int x1), (5, .int x2), (6, .long v6_4)], [.int p_part], zh, M)) rfl trivial ?_
    refine zF_ne (t := 100) (u := (95, [(10, .long (if x8 < 1 then 1 else x8)), (8, .long x7), (0, .ref 18), (3, .int p_part), (4, .int x1), (5, .int x2), (6, .long v6_4)], [], zh, M)) rfl (fun c17 => ?_) (fun c17 => ?_)
    · rw [if_neg c17] at h
      refine zF_go (n := 1) (ps := []) (s' := (102, [(10, .long (if x8 < 1 then 1 else x8)), (8, .long x7), (0, .ref 18), (3, .int p_part), (4, .int x1), (5, .int x2), (6, .long v6_4)], [.long x7], zh, M)) rfl trivial ?_
      obtain ⟨g18, h⟩ := zq_some h
      refine zF_go (n := 2) (ps := [¬ (if x8 < 1 then 1 else x8) = 0]) (s' := (105, [(10, .long (if x8 < 1 then 1 else x8))], [.long (x7 / (if x8 < 1 then 1 else x8))], zh, M)) rfl ⟨g18, trivial⟩ ?_
      cases h
      exact zF_ret rfl trivial
    · rw [if_pos c17] at h
      refine zF_go (n := 2) (ps := []) (s' := (102, [(10, .long (if x8 < 1 then 1 else x8)), (8, .long x7), (0, .ref 18), (3, .int p_part), (4, .int x1), (5, .int x2), (6, .long v6_4)], [.long v6_4], zh, M)) rfl trivial ?_
      obtain ⟨g19, h⟩ := zq_some h
      refine zF_go (n := 2) (ps := [¬ (if x8 < 1 then 1 else x8) = 0]) (s' := (105, [(10, .long (if x8 < 1 then 1 else x8))], [.long (v6_4 / (if x8 < 1 then 1 else x8))], zh, M)) rfl ⟨g19, trivial⟩ ?_
      cases h
      exact zF_ret rfl trivial
  · rw [if_neg c14] at h
    refine zF_go (n := 3) (ps := []) (s' := (39, [(0, .ref 18), (3, .int p_part), (4, .int x1), (5, .int x2), (6, .long v6_4), (8, .int v8_5)], [.int v8_5, .int x2, .long v6_4], zh, M)) rfl trivial ?_
    obtain ⟨x9, e20, h⟩ := zb_some h
    refine zF_call (y' := 59) (as := [.int x2, .int v8_5]) (u := (42, [(0, .ref 18), (3, .int p_part), (4, .int x1), (5, .int x2), (6, .long v6_4), (8, .int v8_5)], [.long v6_4], zh, M)) rfl ⟨rfl, rfl⟩ rfl (qT_choose_ok (S := S) (M := M) e20) ?_
    show zF S 58 (42, [(0, .ref 18), (3, .int p_part), (4, .int x1), (5, .int x2), (6, .long v6_4), (8, .int v8_5)], [.long x9, .long v6_4], zh, M) _ _
    refine zF_go (n := 7) (ps := []) (s' := (54, [(0, .ref 18), (3, .int p_part), (4, .int x1), (5, .int x2), (6, .long v6_4), (8, .int v8_5)], [.int (x1 - v8_5), .int ((M 18 0) - x2), .long x9, .long v6_4], zh, M)) rfl trivial ?_
    obtain ⟨x10, e21, h⟩ := zb_some h
    refine zF_call (y' := 59) (as := [.int ((M 18 0) - x2), .int (x1 - v8_5)]) (u := (57, [(0, .ref 18), (3, .int p_part), (4, .int x1), (5, .int x2), (6, .long v6_4), (8, .int v8_5)], [.long x9, .long v6_4], zh, M)) rfl ⟨rfl, rfl⟩ rfl (qT_choose_ok (S := S) (M := M) e21) ?_
    show zF S 58 (57, [(0, .ref 18), (3, .int p_part), (4, .int x1), (5, .int x2), (6, .long v6_4), (8, .int v8_5)], [.long x10, .long x9, .long v6_4], zh, M) _ _
    refine zF_go (n := 5) (ps := []) (s' := (26, [(8, .int (v8_5 + 1)), (6, .long (v6_4 + (x9 * x10))), (0, .ref 18), (3, .int p_part), (4, .int x1), (5, .int x2)], [], zh, M)) rfl trivial ?_
    exact zF_as (hrec6 _ _ h) rfl
noncomputable def qS_chance (M : zM) (p_thing : Int32) (p_other : Int32) (p_part : Int32) : Option (Int64) :=
  zb (qS_noLetter p_thing) fun x1 =>
  if x1 = 0 then
    (zb (qS_noLetter p_other) fun x2 =>
    if x2 = 0 then
      (if p_thing = p_other then
        (some (-1000000000000000001))
      else
        (zb (qS_isOut p_part 0 1) fun x3 =>
        if x3 = 0 then
          (if (M 18 0) = 0 then
            (some (-1000000000000000003))
          else
            (zb (qT_odds M (1 <<< (p_thing &&& 31)) (1 <<< (p_other &&& 31)) p_part) fun x4 =>
            some x4))
        else
          (some (-1000000000000000002))))
    else
      (some (-1000000000000000001)))
  else
    (some (-1000000000000000001))
set_option maxRecDepth 20000 in
set_option maxHeartbeats 4000000 in
theorem qS_chance_ok {S : zSc} {M : zM} {p_thing : Int32} {p_other : Int32} {p_part : Int32} {r : Int64} (h : qS_chance M p_thing p_other p_part = some r) : zF S 120 (0, [(0, .ref 1), (1, .int p_thing), (2, .int p_other), (3, .int p_part)], [], zh, M) (some (.long r)) (M) := by
  unfold qS_chance at h
  refine zF_go (n := 1) (ps := []) (s' := (1, [(0, .ref 1), (1, .int p_thing), (2, .int p_other), (3, .int p_part)], [.int p_thing], zh, M)) rfl trivial ?_
  obtain ⟨x1, e5, h⟩ := zb_some h
  refine zF_call (y' := 127) (as := [.int p_thing]) (u := (4, [(0, .ref 1), (1, .int p_thing), (2, .int p_other), (3, .int p_part)], [], zh, M)) rfl ⟨rfl, rfl⟩ rfl (qS_noLetter_ok (S := S) (M := M) e5) ?_
  show zF S 120 (4, [(0, .ref 1), (1, .int p_thing), (2, .int p_other), (3, .int p_part)], [.int x1], zh, M) _ _
  refine zF_ne (t := 19) (u := (7, [(0, .ref 1), (1, .int p_thing), (2, .int p_other), (3, .int p_part)], [], zh, M)) rfl (fun c6 => ?_) (fun c6 => ?_)
  · rw [if_neg c6] at h
    refine zF_go (n := 1) (ps := []) (s' := (22, [], [.long (-1000000000000000001)], zh, M)) rfl trivial ?_
    cases h
    exact zF_ret rfl trivial
  · rw [if_pos c6] at h
    refine zF_go (n := 1) (ps := []) (s' := (8, [(0, .ref 1), (1, .int p_thing), (2, .int p_other), (3, .int p_part)], [.int p_other], zh, M)) rfl trivial ?_
    obtain ⟨x2, e7, h⟩ := zb_some h
    refine zF_call (y' := 127) (as := [.int p_other]) (u := (11, [(0, .ref 1), (1, .int p_thing), (2, .int p_other), (3, .int p_part)], [], zh, M)) rfl ⟨rfl, rfl⟩ rfl (qS_noLetter_ok (S := S) (M := M) e7) ?_
    show zF S 120 (11, [(0, .ref 1), (1, .int p_thing), (2, .int p_other), (3, .int p_part)], [.int x2], zh, M) _ _
    refine zF_ne (t := 19) (u := (14, [(0, .ref 1), (1, .int p_thing), (2, .int p_other), (3, .int p_part)], [], zh, M)) rfl (fun c8 => ?_) (fun c8 => ?_)
    · rw [if_neg c8] at h
      refine zF_go (n := 1) (ps := []) (s' := (22, [], [.long (-1000000000000000001)], zh, M)) rfl trivial ?_
      cases h
      exact zF_ret rfl trivial
    · rw [if_pos c8] at h
      refine zF_go (n := 2) (ps := []) (s' := (16, [(0, .ref 1), (1, .int p_thing), (2, .int p_other), (3, .int p_part)], [.int p_other, .int p_thing], zh, M)) rfl trivial ?_
      refine zF_ne (t := 23) (u := (19, [(0, .ref 1), (1, .int p_thing), (2, .int p_other), (3, .int p_part)], [], zh, M)) rfl (fun c9 => ?_) (fun c9 => ?_)
      · rw [if_neg c9] at h
        refine zF_go (n := 3) (ps := []) (s' := (26, [(0, .ref 1), (1, .int p_thing), (2, .int p_other), (3, .int p_part)], [.int 1, .int 0, .int p_part], zh, M)) rfl trivial ?_
        obtain ⟨x3, e10, h⟩ := zb_some h
        refine zF_call (y' := 125) (as := [.int p_part, .int 0, .int 1]) (u := (29, [(0, .ref 1), (1, .int p_thing), (2, .int p_other), (3, .int p_part)], [], zh, M)) rfl ⟨rfl, rfl⟩ rfl (qS_isOut_ok (S := S) (M := M) e10) ?_
        show zF S 120 (29, [(0, .ref 1), (1, .int p_thing), (2, .int p_other), (3, .int p_part)], [.int x3], zh, M) _ _
        refine zF_eq (t := 36) (u := (32, [(0, .ref 1), (1, .int p_thing), (2, .int p_other), (3, .int p_part)], [], zh, M)) rfl (fun c11 => ?_) (fun c11 => ?_)
        · rw [if_pos c11] at h
          refine zF_go (n := 4) (ps := []) (s' := (46, [(0, .ref 1), (1, .int p_thing), (2, .int p_other), (3, .int p_part)], [.int (M 18 0)], zh, M)) rfl trivial ?_
          refine zF_ne (t := 53) (u := (49, [(0, .ref 1), (1, .int p_thing), (2, .int p_other), (3, .int p_part)], [], zh, M)) rfl (fun c12 => ?_) (fun c12 => ?_)
          · rw [if_neg c12] at h
            refine zF_go (n := 10) (ps := []) (s' := (67, [(0, .ref 1), (1, .int p_thing), (2, .int p_other), (3, .int p_part)], [.int p_part, .int (1 <<< (p_other &&& 31)), .int (1 <<< (p_thing &&& 31)), .ref 18], zh, M)) rfl trivial ?_
            obtain ⟨x4, e13, h⟩ := zb_some h
            refine zF_call (y' := 58) (as := [.ref 18, .int (1 <<< (p_thing &&& 31)), .int (1 <<< (p_other &&& 31)), .int p_part]) (u := (70, [(0, .ref 1), (1, .int p_thing), (2, .int p_other), (3, .int p_part)], [], zh, M)) rfl ⟨rfl, rfl⟩ rfl (qT_odds_ok (S := S) (M := M) e13) ?_
            show zF S 120 (70, [(0, .ref 1), (1, .int p_thing), (2, .int p_other), (3, .int p_part)], [.long x4], zh, M) _ _
            cases h
            exact zF_ret rfl trivial
          · rw [if_pos c12] at h
            refine zF_go (n := 1) (ps := []) (s' := (52, [(0, .ref 1), (1, .int p_thing), (2, .int p_other), (3, .int p_part)], [.long (-1000000000000000003)], zh, M)) rfl trivial ?_
            cases h
            exact zF_ret rfl trivial
        · rw [if_neg c11] at h
          refine zF_go (n := 1) (ps := []) (s' := (35, [(0, .ref 1), (1, .int p_thing), (2, .int p_other), (3, .int p_part)], [.long (-1000000000000000002)], zh, M)) rfl trivial ?_
          cases h
          exact zF_ret rfl trivial
      · rw [if_pos c9] at h
        refine zF_go (n := 1) (ps := []) (s' := (22, [], [.long (-1000000000000000001)], zh, M)) rfl trivial ?_
        cases h
        exact zF_ret rfl trivial
noncomputable def qM_choose_L16 (p_k : Int32) (p_n : Int32) (rec3 : (Int64 × Int32) → Option (Int64)) (v : Int64 × Int32) : Option (Int64) := match v with
  | (v2_1, v4_2) =>
    if p_k < v4_2 then
      (some v2_1)
    else
      (zq (¬ v4_2.toInt64 = 0) <| rec3 (((v2_1 * ((p_n - p_k) + v4_2).toInt64) / v4_2.toInt64), (v4_2 + 1)))
noncomputable def qM_choose (p_n : Int32) (p_k : Int32) : Option (Int64) :=
  if p_k < 0 then
    (some 0)
  else
    (if p_n < p_k then
      (some 0)
    else
      (zlp (qM_choose_L16 p_k p_n) zfu (1, 1)))
set_option maxRecDepth 20000 in
set_option maxHeartbeats 4000000 in
theorem qM_choose_ok {S : zSc} {M : zM} {p_n : Int32} {p_k : Int32} {r : Int64} (h : qM_choose p_n p_k = some r) : zF S 202 (0, [(0, .int p_n), (1, .int p_k)], [], zh, M) (some (.long r)) (M) := by
  unfold qM_choose at h
  refine zF_go (n := 1) (ps := []) (s' := (1, [(0, .int p_n), (1, .int p_k)], [.int p_k], zh, M)) rfl trivial ?_
  refine zF_lt (t := 9) (u := (4, [(0, .int p_n), (1, .int p_k)], [], zh, M)) rfl (fun c4 => ?_) (fun c4 => ?_)
  · rw [if_pos c4] at h
    refine zF_go (n := 1) (ps := []) (s' := (10, [], [.long 0], zh, M)) rfl trivial ?_
    cases h
    exact zF_ret rfl trivial
  · rw [if_neg c4] at h
    refine zF_go (n := 2) (ps := []) (s' := (6, [(0, .int p_n), (1, .int p_k)], [.int p_n, .int p_k], zh, M)) rfl trivial ?_
    refine zF_le (t := 11) (u := (9, [(0, .int p_n), (1, .int p_k)], [], zh, M)) rfl (fun c5 => ?_) (fun c5 => ?_)
    · rw [if_neg c5] at h
      refine zF_go (n := 4) (ps := []) (s' := (16, [(4, .int 1), (2, .long 1), (0, .int p_n), (1, .int p_k)], [], zh, M)) rfl trivial ?_
      refine zF_same (s' := (16, [(0, .int p_n), (1, .int p_k), (2, .long 1), (4, .int 1)], [], zh, M)) rfl ?_
      refine zlp_ind (P := fun (v : Int64 × Int32) r => zF S 202 (16, [(0, .int p_n), (1, .int p_k), (2, .long v.1), (4, .int v.2)], [], zh, M) (some (.long r)) (M)) ?_ _ _ _ h
      intro rec3 hrec3 v r h
      obtain ⟨v2_1, v4_2⟩ := v
      unfold qM_choose_L16 at h
      dsimp only at h
      show zF S 202 (16, [(0, .int p_n), (1, .int p_k), (2, .long v2_1), (4, .int v4_2)], [], zh, M) _ _
      refine zF_go (n := 2) (ps := []) (s' := (19, [(0, .int p_n), (1, .int p_k), (2, .long v2_1), (4, .int v4_2)], [.int p_k, .int v4_2], zh, M)) rfl trivial ?_
      refine zF_gt (t := 42) (u := (22, [(0, .int p_n), (1, .int p_k), (2, .long v2_1), (4, .int v4_2)], [], zh, M)) rfl (fun c6 => ?_) (fun c6 => ?_)
      · rw [if_pos c6] at h
        refine zF_go (n := 1) (ps := []) (s' := (43, [(0, .int p_n), (1, .int p_k), (2, .long v2_1), (4, .int v4_2)], [.long v2_1], zh, M)) rfl trivial ?_
        cases h
        exact zF_ret rfl trivial
      · rw [if_neg c6] at h
        obtain ⟨g7, h⟩ := zq_some h
        refine zF_go (n := 14) (ps := [¬ v4_2.toInt64 = 0]) (s' := (16, [(4, .int (v4_2 + 1)), (2, .long ((v2_1 * ((p_n - p_k) + v4_2).toInt64) / v4_2.toInt64)), (0, .int p_n), (1, .int p_k)], [], zh, M)) rfl ⟨g7, trivial⟩ ?_
        exact zF_as (hrec3 _ _ h) rfl
    · rw [if_pos c5] at h
      refine zF_go (n := 1) (ps := []) (s' := (10, [], [.long 0], zh, M)) rfl trivial ?_
      cases h
      exact zF_ret rfl trivial
noncomputable def qM_chance_L135 (p_part : Int32) (v6_7 : Int64) (x10 : Int64) (rec13 : (Int64 × Int64) → Option (Int64)) (v : Int64 × Int64) : Option (Int64) := match v with
  | (v10_11, v12_12) =>
    if (lg_cmp v12_12 0) = 0 then
      (if p_part = 0 then
        (zq (¬ v10_11 = 0) <| some (v6_7 / v10_11))
      else
        (zq (¬ v10_11 = 0) <| some (x10 / v10_11)))
    else
      (zq (¬ v12_12 = 0) <| rec13 (v12_12, (v10_11 - v10_11 / v12_12 * v12_12)))
noncomputable def qM_chance_L75 (x4 : Int32) (M : zM) (p_part : Int32) (x5 : Int32) (rec9 : (Int64 × Int32) → Option (Int64)) (v : Int64 × Int32) : Option (Int64) := match v with
  | (v6_7, v8_8) =>
    if x4 < v8_8 then
      (zb (qM_choose (M 86 29) x4) fun x10 =>
      zlp (qM_chance_L135 p_part v6_7 x10) zfu (v6_7, x10))
    else
      (zb (qM_choose x5 v8_8) fun x14 =>
      zb (qM_choose ((M 86 29) - x5) (x4 - v8_8)) fun x15 =>
      rec9 ((v6_7 + (x14 * x15)), (v8_8 + 1)))
noncomputable def qM_chance (M : zM) (p_thing : Int32) (p_other : Int32) (p_part : Int32) : Option (Int64) :=
  zb (qM_isLetter p_thing) fun x1 =>
  if x1 = 0 then
    (some (-1000000000000000001))
  else
    (zb (qM_isLetter p_other) fun x2 =>
    if x2 = 0 then
      (some (-1000000000000000001))
    else
      (if p_thing = p_other then
        (some (-1000000000000000001))
      else
        (zb (qM_in p_part.toInt64 0 1) fun x3 =>
        if x3 = 0 then
          (some (-1000000000000000002))
        else
          (if (M 86 29) = 0 then
            (some (-1000000000000000003))
          else
            (zb (qM_withBoth M p_thing p_thing) fun x4 =>
            zb (qM_withBoth M p_other p_other) fun x5 =>
            zb (qM_withBoth M p_thing p_other) fun x6 =>
            zlp (qM_chance_L75 x4 M p_part x5) zfu (0, x6))))))
set_option maxRecDepth 20000 in
set_option maxHeartbeats 4000000 in
theorem qM_chance_ok {S : zSc} {M : zM} {p_thing : Int32} {p_other : Int32} {p_part : Int32} {r : Int64} (h : qM_chance M p_thing p_other p_part = some r) : zF S 203 (0, [(0, .ref 86), (1, .int p_thing), (2, .int p_other), (3, .int p_part)], [], zh, M) (some (.long r)) (M) := by
  unfold qM_chance at h
  refine zF_go (n := 1) (ps := []) (s' := (1, [(0, .ref 86), (1, .int p_thing), (2, .int p_other), (3, .int p_part)], [.int p_thing], zh, M)) rfl trivial ?_
  obtain ⟨x1, e16, h⟩ := zb_some h
  refine zF_call (y' := 138) (as := [.int p_thing]) (u := (4, [(0, .ref 86), (1, .int p_thing), (2, .int p_other), (3, .int p_part)], [], zh, M)) rfl ⟨rfl, rfl⟩ rfl (qM_isLetter_ok (S := S) (M := M) e16) ?_
  show zF S 203 (4, [(0, .ref 86), (1, .int p_thing), (2, .int p_other), (3, .int p_part)], [.int x1], zh, M) _ _
  refine zF_eq (t := 19) (u := (7, [(0, .ref 86), (1, .int p_thing), (2, .int p_other), (3, .int p_part)], [], zh, M)) rfl (fun c17 => ?_) (fun c17 => ?_)
  · rw [if_pos c17] at h
    refine zF_go (n := 1) (ps := []) (s' := (22, [], [.long (-1000000000000000001)], zh, M)) rfl trivial ?_
    cases h
    exact zF_ret rfl trivial
  · rw [if_neg c17] at h
    refine zF_go (n := 1) (ps := []) (s' := (8, [(0, .ref 86), (1, .int p_thing), (2, .int p_other), (3, .int p_part)], [.int p_other], zh, M)) rfl trivial ?_
    obtain ⟨x2, e18, h⟩ := zb_some h
    refine zF_call (y' := 138) (as := [.int p_other]) (u := (11, [(0, .ref 86), (1, .int p_thing), (2, .int p_other), (3, .int p_part)], [], zh, M)) rfl ⟨rfl, rfl⟩ rfl (qM_isLetter_ok (S := S) (M := M) e18) ?_
    show zF S 203 (11, [(0, .ref 86), (1, .int p_thing), (2, .int p_other), (3, .int p_part)], [.int x2], zh, M) _ _
    refine zF_eq (t := 19) (u := (14, [(0, .ref 86), (1, .int p_thing), (2, .int p_other), (3, .int p_part)], [], zh, M)) rfl (fun c19 => ?_) (fun c19 => ?_)
    · rw [if_pos c19] at h
      refine zF_go (n := 1) (ps := []) (s' := (22, [], [.long (-1000000000000000001)], zh, M)) rfl trivial ?_
      cases h
      exact zF_ret rfl trivial
    · rw [if_neg c19] at h
      refine zF_go (n := 2) (ps := []) (s' := (16, [(0, .ref 86), (1, .int p_thing), (2, .int p_other), (3, .int p_part)], [.int p_other, .int p_thing], zh, M)) rfl trivial ?_
      refine zF_ne (t := 23) (u := (19, [(0, .ref 86), (1, .int p_thing), (2, .int p_other), (3, .int p_part)], [], zh, M)) rfl (fun c20 => ?_) (fun c20 => ?_)
      · rw [if_neg c20] at h
        refine zF_go (n := 4) (ps := []) (s' := (27, [(0, .ref 86), (1, .int p_thing), (2, .int p_other), (3, .int p_part)], [.long 1, .long 0, .long p_part.toInt64], zh, M)) rfl trivial ?_
        obtain ⟨x3, e21, h⟩ := zb_some h
        refine zF_call (y' := 134) (as := [.long p_part.toInt64, .long 0, .long 1]) (u := (30, [(0, .ref 86), (1, .int p_thing), (2, .int p_other), (3, .int p_part)], [], zh, M)) rfl ⟨rfl, rfl⟩ rfl (qM_in_ok (S := S) (M := M) e21) ?_
        show zF S 203 (30, [(0, .ref 86), (1, .int p_thing), (2, .int p_other), (3, .int p_part)], [.int x3], zh, M) _ _
        refine zF_ne (t := 37) (u := (33, [(0, .ref 86), (1, .int p_thing), (2, .int p_other), (3, .int p_part)], [], zh, M)) rfl (fun c22 => ?_) (fun c22 => ?_)
        · rw [if_neg c22] at h
          refine zF_go (n := 2) (ps := []) (s' := (41, [(0, .ref 86), (1, .int p_thing), (2, .int p_other), (3, .int p_part)], [.int (M 86 29)], zh, M)) rfl trivial ?_
          refine zF_ne (t := 48) (u := (44, [(0, .ref 86), (1, .int p_thing), (2, .int p_other), (3, .int p_part)], [], zh, M)) rfl (fun c23 => ?_) (fun c23 => ?_)
          · rw [if_neg c23] at h
            refine zF_go (n := 3) (ps := []) (s' := (51, [(0, .ref 86), (1, .int p_thing), (2, .int p_other), (3, .int p_part)], [.int p_thing, .int p_thing, .ref 86], zh, M)) rfl trivial ?_
            obtain ⟨x4, e24, h⟩ := zb_some h
            refine zF_call (y' := 200) (as := [.ref 86, .int p_thing, .int p_thing]) (u := (54, [(0, .ref 86), (1, .int p_thing), (2, .int p_other), (3, .int p_part)], [], zh, M)) rfl ⟨rfl, rfl⟩ rfl (qM_withBoth_ok (S := S) (M := M) e24) ?_
            show zF S 203 (54, [(0, .ref 86), (1, .int p_thing), (2, .int p_other), (3, .int p_part)], [.int x4], zh, M) _ _
            refine zF_go (n := 4) (ps := []) (s' := (59, [(4, .int x4), (0, .ref 86), (1, .int p_thing), (2, .int p_other), (3, .int p_part)], [.int p_other, .int p_other, .ref 86], zh, M)) rfl trivial ?_
            obtain ⟨x5, e25, h⟩ := zb_some h
            refine zF_call (y' := 200) (as := [.ref 86, .int p_other, .int p_other]) (u := (62, [(4, .int x4), (0, .ref 86), (1, .int p_thing), (2, .int p_other), (3, .int p_part)], [], zh, M)) rfl ⟨rfl, rfl⟩ rfl (qM_withBoth_ok (S := S) (M := M) e25) ?_
            show zF S 203 (62, [(4, .int x4), (0, .ref 86), (1, .int p_thing), (2, .int p_other), (3, .int p_part)], [.int x5], zh, M) _ _
            refine zF_go (n := 6) (ps := []) (s' := (70, [(6, .long 0), (5, .int x5), (4, .int x4), (0, .ref 86), (1, .int p_thing), (2, .int p_other), (3, .int p_part)], [.int p_other, .int p_thing, .ref 86], zh, M)) rfl trivial ?_
            obtain ⟨x6, e26, h⟩ := zb_some h
            refine zF_call (y' := 200) (as := [.ref 86, .int p_thing, .int p_other]) (u := (73, [(6, .long 0), (5, .int x5), (4, .int x4), (0, .ref 86), (1, .int p_thing), (2, .int p_other), (3, .int p_part)], [], zh, M)) rfl ⟨rfl, rfl⟩ rfl (qM_withBoth_ok (S := S) (M := M) e26) ?_
            show zF S 203 (73, [(6, .long 0), (5, .int x5), (4, .int x4), (0, .ref 86), (1, .int p_thing), (2, .int p_other), (3, .int p_part)], [.int x6], zh, M) _ _
            refine zF_go (n := 1) (ps := []) (s' := (75, [(8, .int x6), (6, .long 0), (5, .int x5), (4, .int x4), (0, .ref 86), (1, .int p_thing), (2, .int p_other), (3, .int p_part)], [], zh, M)) rfl trivial ?_
            refine zF_same (s' := (75, [(0, .ref 86), (3, .int p_part), (4, .int x4), (5, .int x5), (6, .long 0), (8, .int x6)], [], zh, M)) rfl ?_
            refine zlp_ind (P := fun (v : Int64 × Int32) r => zF S 203 (75, [(0, .ref 86), (3, .int p_part), (4, .int x4), (5, .int x5), (6, .long v.1), (8, .int v.2)], [], zh, M) (some (.long r)) (M)) ?_ _ _ _ h
            intro rec9 hrec9 v r h
            obtain ⟨v6_7, v8_8⟩ := v
            unfold qM_chance_L75 at h
            dsimp only at h
            show zF S 203 (75, [(0, .ref 86), (3, .int p_part), (4, .int x4), (5, .int x5), (6, .long v6_7), (8, .int v8_8)], [], zh, M) _ _
            refine zF_go (n := 2) (ps := []) (s' := (79, [(0, .ref 86), (3, .int p_part), (4, .int x4), (5, .int x5), (6, .long v6_7), (8, .int v8_8)], [.int x4, .int v8_8], zh, M)) rfl trivial ?_
            refine zF_gt (t := 116) (u := (82, [(0, .ref 86), (3, .int p_part), (4, .int x4), (5, .int x5), (6, .long v6_7), (8, .int v8_8)], [], zh, M)) rfl (fun c27 => ?_) (fun c27 => ?_)
            · rw [if_pos c27] at h
              refine zF_go (n := 3) (ps := []) (s' := (122, [(0, .ref 86), (3, .int p_part), (4, .int x4), (5, .int x5), (6, .long v6_7), (8, .int v8_8)], [.int x4, .int (M 86 29)], zh, M)) rfl trivial ?_
              obtain ⟨x10, e28, h⟩ := zb_some h
              refine zF_call (y' := 202) (as := [.int (M 86 29), .int x4]) (u := (125, [(0, .ref 86), (3, .int p_part), (4, .int x4), (5, .int x5), (6, .long v6_7), (8, .int v8_8)], [], zh, M)) rfl ⟨rfl, rfl⟩ rfl (qM_choose_ok (S := S) (M := M) e28) ?_
              show zF S 203 (125, [(0, .ref 86), (3, .int p_part), (4, .int x4), (5, .int x5), (6, .long v6_7), (8, .int v8_8)], [.long x10], zh, M) _ _
              refine zF_go (n := 5) (ps := []) (s' := (135, [(12, .long x10), (10, .long v6_7), (8, .long x10), (0, .ref 86), (3, .int p_part), (4, .int x4), (5, .int x5), (6, .long v6_7)], [], zh, M)) rfl trivial ?_
              refine zF_same (s' := (135, [(3, .int p_part), (6, .long v6_7), (8, .long x10), (10, .long v6_7), (12, .long x10)], [], zh, M)) rfl ?_
              refine zlp_ind (P := fun (v : Int64 × Int64) r => zF S 203 (135, [(3, .int p_part), (6, .long v6_7), (8, .long x10), (10, .long v.1), (12, .long v.2)], [], zh, M) (some (.long r)) (M)) ?_ _ _ _ h
              intro rec13 hrec13 v r h
              obtain ⟨v10_11, v12_12⟩ := v
              unfold qM_chance_L135 at h
              dsimp only at h
              show zF S 203 (135, [(3, .int p_part), (6, .long v6_7), (8, .long x10), (10, .long v10_11), (12, .long v12_12)], [], zh, M) _ _
              refine zF_go (n := 3) (ps := []) (s' := (139, [(3, .int p_part), (6, .long v6_7), (8, .long x10), (10, .long v10_11), (12, .long v12_12)], [.int (lg_cmp v12_12 0)], zh, M)) rfl trivial ?_
              refine zF_eq (t := 160) (u := (142, [(3, .int p_part), (6, .long v6_7), (8, .long x10), (10, .long v10_11), (12, .long v12_12)], [], zh, M)) rfl (fun c29 => ?_) (fun c29 => ?_)
              · rw [if_pos c29] at h
                refine zF_go (n := 1) (ps := []) (s' := (161, [(3, .int p_part), (6, .long v6_7), (8, .long x10), (10, .long v10_11), (12, .long v12_12)], [.int p_part], zh, M)) rfl trivial ?_
                refine zF_ne (t := 172) (u := (164, [(3, .int p_part), (6, .long v6_7), (8, .long x10), (10, .long v10_11), (12, .long v12_12)], [], zh, M)) rfl (fun c30 => ?_) (fun c30 => ?_)
                · rw [if_neg c30] at h
                  obtain ⟨g31, h⟩ := zq_some h
                  refine zF_go (n := 3) (ps := [¬ v10_11 = 0]) (s' := (177, [(3, .int p_part), (6, .long v6_7), (8, .long x10), (10, .long v10_11), (12, .long v12_12)], [.long (x10 / v10_11)], zh, M)) rfl ⟨g31, trivial⟩ ?_
                  cases h
                  exact zF_ret rfl trivial
                · rw [if_pos c30] at h
                  obtain ⟨g32, h⟩ := zq_some h
                  refine zF_go (n := 4) (ps := [¬ v10_11 = 0]) (s' := (177, [(3, .int p_part), (6, .long v6_7), (8, .long x10), (10, .long v10_11), (12, .long v12_12)], [.long (v6_7 / v10_11)], zh, M)) rfl ⟨g32, trivial⟩ ?_
                  cases h
                  exact zF_ret rfl trivial
              · rw [if_neg c29] at h
                obtain ⟨g33, h⟩ := zq_some h
                refine zF_go (n := 9) (ps := [¬ v12_12 = 0]) (s' := (135, [(12, .long (v10_11 - v10_11 / v12_12 * v12_12)), (10, .long v12_12), (14, .long (v10_11 - v10_11 / v12_12 * v12_12)), (3, .int p_part), (6, .long v6_7), (8, .long x10)], [], zh, M)) rfl ⟨g33, trivial⟩ ?_
                exact zF_as (hrec13 _ _ h) rfl
            · rw [if_neg c27] at h
              refine zF_go (n := 3) (ps := []) (s' := (88, [(0, .ref 86), (3, .int p_part), (4, .int x4), (5, .int x5), (6, .long v6_7), (8, .int v8_8)], [.int v8_8, .int x5, .long v6_7], zh, M)) rfl trivial ?_
              obtain ⟨x14, e34, h⟩ := zb_some h
              refine zF_call (y' := 202) (as := [.int x5, .int v8_8]) (u := (91, [(0, .ref 86), (3, .int p_part), (4, .int x4), (5, .int x5), (6, .long v6_7), (8, .int v8_8)], [.long v6_7], zh, M)) rfl ⟨rfl, rfl⟩ rfl (qM_choose_ok (S := S) (M := M) e34) ?_
              show zF S 203 (91, [(0, .ref 86), (3, .int p_part), (4, .int x4), (5, .int x5), (6, .long v6_7), (8, .int v8_8)], [.long x14, .long v6_7], zh, M) _ _
              refine zF_go (n := 7) (ps := []) (s' := (103, [(0, .ref 86), (3, .int p_part), (4, .int x4), (5, .int x5), (6, .long v6_7), (8, .int v8_8)], [.int (x4 - v8_8), .int ((M 86 29) - x5), .long x14, .long v6_7], zh, M)) rfl trivial ?_
              obtain ⟨x15, e35, h⟩ := zb_some h
              refine zF_call (y' := 202) (as := [.int ((M 86 29) - x5), .int (x4 - v8_8)]) (u := (106, [(0, .ref 86), (3, .int p_part), (4, .int x4), (5, .int x5), (6, .long v6_7), (8, .int v8_8)], [.long x14, .long v6_7], zh, M)) rfl ⟨rfl, rfl⟩ rfl (qM_choose_ok (S := S) (M := M) e35) ?_
              show zF S 203 (106, [(0, .ref 86), (3, .int p_part), (4, .int x4), (5, .int x5), (6, .long v6_7), (8, .int v8_8)], [.long x15, .long x14, .long v6_7], zh, M) _ _
              refine zF_go (n := 5) (ps := []) (s' := (75, [(8, .int (v8_8 + 1)), (6, .long (v6_7 + (x14 * x15))), (0, .ref 86), (3, .int p_part), (4, .int x4), (5, .int x5)], [], zh, M)) rfl trivial ?_
              exact zF_as (hrec9 _ _ h) rfl
          · rw [if_pos c23] at h
            refine zF_go (n := 1) (ps := []) (s' := (47, [(0, .ref 86), (1, .int p_thing), (2, .int p_other), (3, .int p_part)], [.long (-1000000000000000003)], zh, M)) rfl trivial ?_
            cases h
            exact zF_ret rfl trivial
        · rw [if_pos c22] at h
          refine zF_go (n := 1) (ps := []) (s' := (36, [(0, .ref 86), (1, .int p_thing), (2, .int p_other), (3, .int p_part)], [.long (-1000000000000000002)], zh, M)) rfl trivial ?_
          cases h
          exact zF_ret rfl trivial
      · rw [if_pos c20] at h
        refine zF_go (n := 1) (ps := []) (s' := (22, [], [.long (-1000000000000000001)], zh, M)) rfl trivial ?_
        cases h
        exact zF_ret rfl trivial
noncomputable def qP_turnsBest (M : zM) (p_shop : Int32) (p_thing : Int32) (p_law : Int32) (p_cost : Int32) (p_usual : Int32) : Option (Int32 × zM) :=
  zq (vp_in ((p_shop * 4) + p_thing) 8) <| zb (qW_learnThing (zw M 66 ((p_shop * 4) + p_thing).toNatClampNeg p_cost) p_shop p_thing) fun M1 =>
  zb2 (qP_bestRow M1 p_shop p_law) fun x2 M3 =>
  if x2 = (-6) then
    (some (0, M3))
  else
    (if x2 = p_usual then
      (some (0, M3))
    else
      (some (1, M3)))
set_option maxRecDepth 20000 in
set_option maxHeartbeats 4000000 in
theorem qP_turnsBest_ok {S : zSc} {M : zM} {p_shop : Int32} {p_thing : Int32} {p_law : Int32} {p_cost : Int32} {p_usual : Int32} {r : Int32 × zM} (h : qP_turnsBest M p_shop p_thing p_law p_cost p_usual = some r) : zF S 52 (0, [(0, .ref 76), (1, .int p_shop), (2, .int p_thing), (3, .int p_law), (4, .int p_cost), (5, .int p_usual)], [], zh, M) (some (.int r.1)) (r.2) := by
  unfold qP_turnsBest at h
  obtain ⟨g4, h⟩ := zq_some h
  refine zF_go (n := 14) (ps := [vp_in ((p_shop * 4) + p_thing) 8]) (s' := (21, [(0, .ref 76), (1, .int p_shop), (2, .int p_thing), (3, .int p_law), (4, .int p_cost), (5, .int p_usual)], [.int p_thing, .int p_shop, .ref 70], zh, (zw M 66 ((p_shop * 4) + p_thing).toNatClampNeg p_cost))) rfl ⟨g4, trivial⟩ ?_
  obtain ⟨M1, e5, h⟩ := zb_some h
  refine zF_call (y' := 65) (as := [.ref 70, .int p_shop, .int p_thing]) (u := (24, [(0, .ref 76), (1, .int p_shop), (2, .int p_thing), (3, .int p_law), (4, .int p_cost), (5, .int p_usual)], [], zh, (zw M 66 ((p_shop * 4) + p_thing).toNatClampNeg p_cost))) rfl ⟨rfl, rfl⟩ rfl (qW_learnThing_ok (S := S) (M := (zw M 66 ((p_shop * 4) + p_thing).toNatClampNeg p_cost)) e5) ?_
  show zF S 52 (24, [(0, .ref 76), (1, .int p_shop), (2, .int p_thing), (3, .int p_law), (4, .int p_cost), (5, .int p_usual)], [], zh, M1) _ _
  refine zF_go (n := 3) (ps := []) (s' := (27, [(0, .ref 76), (1, .int p_shop), (2, .int p_thing), (3, .int p_law), (4, .int p_cost), (5, .int p_usual)], [.int p_law, .int p_shop, .ref 76], zh, M1)) rfl trivial ?_
  obtain ⟨x2, M3, e6, h⟩ := zb2_some h
  refine zF_call (y' := 42) (as := [.ref 76, .int p_shop, .int p_law]) (u := (30, [(0, .ref 76), (1, .int p_shop), (2, .int p_thing), (3, .int p_law), (4, .int p_cost), (5, .int p_usual)], [], zh, M1)) rfl ⟨rfl, rfl⟩ rfl (qP_bestRow_ok (S := S) (M := M1) e6) ?_
  show zF S 52 (30, [(0, .ref 76), (1, .int p_shop), (2, .int p_thing), (3, .int p_law), (4, .int p_cost), (5, .int p_usual)], [.int x2], zh, M3) _ _
  refine zF_go (n := 3) (ps := []) (s' := (36, [(6, .int x2), (0, .ref 76), (1, .int p_shop), (2, .int p_thing), (3, .int p_law), (4, .int p_cost), (5, .int p_usual)], [.int (-6), .int x2], zh, M3)) rfl trivial ?_
  refine zF_eq (t := 50) (u := (39, [(6, .int x2), (0, .ref 76), (1, .int p_shop), (2, .int p_thing), (3, .int p_law), (4, .int p_cost), (5, .int p_usual)], [], zh, M3)) rfl (fun c7 => ?_) (fun c7 => ?_)
  · rw [if_pos c7] at h
    refine zF_go (n := 1) (ps := []) (s' := (51, [], [.int 0], zh, M3)) rfl trivial ?_
    cases h
    exact zF_ret rfl ⟨(Or.inl rfl), trivial⟩
  · rw [if_neg c7] at h
    refine zF_go (n := 2) (ps := []) (s' := (43, [(6, .int x2), (0, .ref 76), (1, .int p_shop), (2, .int p_thing), (3, .int p_law), (4, .int p_cost), (5, .int p_usual)], [.int p_usual, .int x2], zh, M3)) rfl trivial ?_
    refine zF_eq (t := 50) (u := (46, [(6, .int x2), (0, .ref 76), (1, .int p_shop), (2, .int p_thing), (3, .int p_law), (4, .int p_cost), (5, .int p_usual)], [], zh, M3)) rfl (fun c8 => ?_) (fun c8 => ?_)
    · rw [if_pos c8] at h
      refine zF_go (n := 1) (ps := []) (s' := (51, [], [.int 0], zh, M3)) rfl trivial ?_
      cases h
      exact zF_ret rfl ⟨(Or.inl rfl), trivial⟩
    · rw [if_neg c8] at h
      refine zF_go (n := 2) (ps := []) (s' := (51, [(6, .int x2), (0, .ref 76), (1, .int p_shop), (2, .int p_thing), (3, .int p_law), (4, .int p_cost), (5, .int p_usual)], [.int 1], zh, M3)) rfl trivial ?_
      cases h
      exact zF_ret rfl ⟨(Or.inr rfl), trivial⟩
noncomputable def qP_edgeOf_L26 (M : zM) (p_shop : Int32) (p_thing : Int32) (p_law : Int32) (x1 : Int32) (rec5 : (Int32 × zM) → Option (Int32 × zM)) (v : Int32 × zM) : Option (Int32 × zM) := match v with
  | (v6_3, M4) =>
    if (99 : Int32) < v6_3 then
      (some ((-6), M4))
    else
      (zlj (fun (M8 : zM) =>
        if (99 : Int32) < ((M 66 ((p_shop * 4) + p_thing).toNatClampNeg) + v6_3) then
          (rec5 ((v6_3 + 1), M8))
        else
          (zb2 (qP_turnsBest M8 p_shop p_thing p_law ((M 66 ((p_shop * 4) + p_thing).toNatClampNeg) + v6_3) x1) fun x10 M11 =>
          if x10 = 0 then
            (rec5 ((v6_3 + 1), M11))
          else
            (some (((M 66 ((p_shop * 4) + p_thing).toNatClampNeg) + v6_3), M11)))) fun k9 =>
      if ((M 66 ((p_shop * 4) + p_thing).toNatClampNeg) - v6_3) < 0 then
        (k9 M4)
      else
        (zb2 (qP_turnsBest M4 p_shop p_thing p_law ((M 66 ((p_shop * 4) + p_thing).toNatClampNeg) - v6_3) x1) fun x12 M13 =>
        if x12 = 0 then
          (k9 M13)
        else
          (some (((M 66 ((p_shop * 4) + p_thing).toNatClampNeg) - v6_3), M13))))
noncomputable def qP_edgeOf (M : zM) (p_shop : Int32) (p_thing : Int32) (p_law : Int32) : Option (Int32 × zM) :=
  zq (vp_in ((p_shop * 4) + p_thing) 8) <| zb2 (qP_bestRow M p_shop p_law) fun x1 M2 =>
  zlp (qP_edgeOf_L26 M p_shop p_thing p_law x1) zfu (1, M2)
set_option maxRecDepth 20000 in
set_option maxHeartbeats 4000000 in
theorem qP_edgeOf_ok {S : zSc} {M : zM} {p_shop : Int32} {p_thing : Int32} {p_law : Int32} {r : Int32 × zM} (h : qP_edgeOf M p_shop p_thing p_law = some r) : zF S 51 (0, [(0, .ref 76), (1, .int p_shop), (2, .int p_thing), (3, .int p_law)], [], zh, M) (some (.int r.1)) (r.2) := by
  unfold qP_edgeOf at h
  obtain ⟨g14, h⟩ := zq_some h
  refine zF_go (n := 13) (ps := [vp_in ((p_shop * 4) + p_thing) 8]) (s' := (18, [(4, .int (M 66 ((p_shop * 4) + p_thing).toNatClampNeg)), (0, .ref 76), (1, .int p_shop), (2, .int p_thing), (3, .int p_law)], [.int p_law, .int p_shop, .ref 76], zh, M)) rfl ⟨g14, trivial⟩ ?_
  obtain ⟨x1, M2, e15, h⟩ := zb2_some h
  refine zF_call (y' := 42) (as := [.ref 76, .int p_shop, .int p_law]) (u := (21, [(4, .int (M 66 ((p_shop * 4) + p_thing).toNatClampNeg)), (0, .ref 76), (1, .int p_shop), (2, .int p_thing), (3, .int p_law)], [], zh, M)) rfl ⟨rfl, rfl⟩ rfl (qP_bestRow_ok (S := S) (M := M) e15) ?_
  show zF S 51 (21, [(4, .int (M 66 ((p_shop * 4) + p_thing).toNatClampNeg)), (0, .ref 76), (1, .int p_shop), (2, .int p_thing), (3, .int p_law)], [.int x1], zh, M2) _ _
  refine zF_go (n := 3) (ps := []) (s' := (26, [(6, .int 1), (5, .int x1), (4, .int (M 66 ((p_shop * 4) + p_thing).toNatClampNeg)), (0, .ref 76), (1, .int p_shop), (2, .int p_thing), (3, .int p_law)], [], zh, M2)) rfl trivial ?_
  refine zF_same (s' := (26, [(0, .ref 76), (1, .int p_shop), (2, .int p_thing), (3, .int p_law), (4, .int (M 66 ((p_shop * 4) + p_thing).toNatClampNeg)), (5, .int x1), (6, .int 1)], [], zh, M2)) rfl ?_
  refine zlp_ind (P := fun (v : Int32 × zM) r => zF S 51 (26, [(0, .ref 76), (1, .int p_shop), (2, .int p_thing), (3, .int p_law), (4, .int (M 66 ((p_shop * 4) + p_thing).toNatClampNeg)), (5, .int x1), (6, .int v.1)], [], zh, v.2) (some (.int r.1)) (r.2)) ?_ _ _ _ h
  intro rec5 hrec5 v r h
  obtain ⟨v6_3, M4⟩ := v
  unfold qP_edgeOf_L26 at h
  dsimp only at h
  show zF S 51 (26, [(0, .ref 76), (1, .int p_shop), (2, .int p_thing), (3, .int p_law), (4, .int (M 66 ((p_shop * 4) + p_thing).toNatClampNeg)), (5, .int x1), (6, .int v6_3)], [], zh, M4) _ _
  refine zF_go (n := 2) (ps := []) (s' := (30, [(0, .ref 76), (1, .int p_shop), (2, .int p_thing), (3, .int p_law), (4, .int (M 66 ((p_shop * 4) + p_thing).toNatClampNeg)), (5, .int x1), (6, .int v6_3)], [.int 99, .int v6_3], zh, M4)) rfl trivial ?_
  refine zF_gt (t := 103) (u := (33, [(0, .ref 76), (1, .int p_shop), (2, .int p_thing), (3, .int p_law), (4, .int (M 66 ((p_shop * 4) + p_thing).toNatClampNeg)), (5, .int x1), (6, .int v6_3)], [], zh, M4)) rfl (fun c16 => ?_) (fun c16 => ?_)
  · rw [if_pos c16] at h
    refine zF_go (n := 1) (ps := []) (s' := (105, [(0, .ref 76), (1, .int p_shop), (2, .int p_thing), (3, .int p_law), (4, .int (M 66 ((p_shop * 4) + p_thing).toNatClampNeg)), (5, .int x1), (6, .int v6_3)], [.int (-6)], zh, M4)) rfl trivial ?_
    cases h
    exact zF_ret rfl trivial
  · rw [if_neg c16] at h
    refine zF_go (n := 3) (ps := []) (s' := (38, [(0, .ref 76), (1, .int p_shop), (2, .int p_thing), (3, .int p_law), (4, .int (M 66 ((p_shop * 4) + p_thing).toNatClampNeg)), (5, .int x1), (6, .int v6_3)], [.int ((M 66 ((p_shop * 4) + p_thing).toNatClampNeg) - v6_3)], zh, M4)) rfl trivial ?_
    refine zlj_e h (fun k => ∀ (M8 : zM) r, k M8 = some r → zF S 51 (64, [(0, .ref 76), (1, .int p_shop), (2, .int p_thing), (3, .int p_law), (4, .int (M 66 ((p_shop * 4) + p_thing).toNatClampNeg)), (5, .int x1), (6, .int v6_3)], [], zh, M8) (some (.int r.1)) (r.2)) ?_ ?_
    · intro M8 r h
      try dsimp only at h
      refine zF_go (n := 4) (ps := []) (s' := (71, [(0, .ref 76), (1, .int p_shop), (2, .int p_thing), (3, .int p_law), (4, .int (M 66 ((p_shop * 4) + p_thing).toNatClampNeg)), (5, .int x1), (6, .int v6_3)], [.int 99, .int ((M 66 ((p_shop * 4) + p_thing).toNatClampNeg) + v6_3)], zh, M8)) rfl trivial ?_
      refine zF_gt (t := 97) (u := (74, [(0, .ref 76), (1, .int p_shop), (2, .int p_thing), (3, .int p_law), (4, .int (M 66 ((p_shop * 4) + p_thing).toNatClampNeg)), (5, .int x1), (6, .int v6_3)], [], zh, M8)) rfl (fun c17 => ?_) (fun c17 => ?_)
      · rw [if_pos c17] at h
        refine zF_go (n := 2) (ps := []) (s' := (26, [(6, .int (v6_3 + 1)), (0, .ref 76), (1, .int p_shop), (2, .int p_thing), (3, .int p_law), (4, .int (M 66 ((p_shop * 4) + p_thing).toNatClampNeg)), (5, .int x1)], [], zh, M8)) rfl trivial ?_
        exact zF_as (hrec5 _ _ h) rfl
      · rw [if_neg c17] at h
        refine zF_go (n := 8) (ps := []) (s' := (85, [(0, .ref 76), (1, .int p_shop), (2, .int p_thing), (3, .int p_law), (4, .int (M 66 ((p_shop * 4) + p_thing).toNatClampNeg)), (5, .int x1), (6, .int v6_3)], [.int x1, .int ((M 66 ((p_shop * 4) + p_thing).toNatClampNeg) + v6_3), .int p_law, .int p_thing, .int p_shop, .ref 76], zh, M8)) rfl trivial ?_
        obtain ⟨x10, M11, e18, h⟩ := zb2_some h
        refine zF_call (y' := 52) (as := [.ref 76, .int p_shop, .int p_thing, .int p_law, .int ((M 66 ((p_shop * 4) + p_thing).toNatClampNeg) + v6_3), .int x1]) (u := (88, [(0, .ref 76), (1, .int p_shop), (2, .int p_thing), (3, .int p_law), (4, .int (M 66 ((p_shop * 4) + p_thing).toNatClampNeg)), (5, .int x1), (6, .int v6_3)], [], zh, M8)) rfl ⟨rfl, rfl⟩ rfl (qP_turnsBest_ok (S := S) (M := M8) e18) ?_
        show zF S 51 (88, [(0, .ref 76), (1, .int p_shop), (2, .int p_thing), (3, .int p_law), (4, .int (M 66 ((p_shop * 4) + p_thing).toNatClampNeg)), (5, .int x1), (6, .int v6_3)], [.int x10], zh, M11) _ _
        refine zF_eq (t := 97) (u := (91, [(0, .ref 76), (1, .int p_shop), (2, .int p_thing), (3, .int p_law), (4, .int (M 66 ((p_shop * 4) + p_thing).toNatClampNeg)), (5, .int x1), (6, .int v6_3)], [], zh, M11)) rfl (fun c19 => ?_) (fun c19 => ?_)
        · rw [if_pos c19] at h
          refine zF_go (n := 2) (ps := []) (s' := (26, [(6, .int (v6_3 + 1)), (0, .ref 76), (1, .int p_shop), (2, .int p_thing), (3, .int p_law), (4, .int (M 66 ((p_shop * 4) + p_thing).toNatClampNeg)), (5, .int x1)], [], zh, M11)) rfl trivial ?_
          exact zF_as (hrec5 _ _ h) rfl
        · rw [if_neg c19] at h
          refine zF_go (n := 3) (ps := []) (s' := (96, [(0, .ref 76), (1, .int p_shop), (2, .int p_thing), (3, .int p_law), (4, .int (M 66 ((p_shop * 4) + p_thing).toNatClampNeg)), (5, .int x1), (6, .int v6_3)], [.int ((M 66 ((p_shop * 4) + p_thing).toNatClampNeg) + v6_3)], zh, M11)) rfl trivial ?_
          cases h
          exact zF_ret rfl trivial
    · intro k9 hk9 h
      try dsimp only at h
      refine zF_lt (t := 64) (u := (41, [(0, .ref 76), (1, .int p_shop), (2, .int p_thing), (3, .int p_law), (4, .int (M 66 ((p_shop * 4) + p_thing).toNatClampNeg)), (5, .int x1), (6, .int v6_3)], [], zh, M4)) rfl (fun c20 => ?_) (fun c20 => ?_)
      · rw [if_pos c20] at h
        exact zF_as (hk9 _ _ h) rfl
      · rw [if_neg c20] at h
        refine zF_go (n := 8) (ps := []) (s' := (52, [(0, .ref 76), (1, .int p_shop), (2, .int p_thing), (3, .int p_law), (4, .int (M 66 ((p_shop * 4) + p_thing).toNatClampNeg)), (5, .int x1), (6, .int v6_3)], [.int x1, .int ((M 66 ((p_shop * 4) + p_thing).toNatClampNeg) - v6_3), .int p_law, .int p_thing, .int p_shop, .ref 76], zh, M4)) rfl trivial ?_
        obtain ⟨x12, M13, e21, h⟩ := zb2_some h
        refine zF_call (y' := 52) (as := [.ref 76, .int p_shop, .int p_thing, .int p_law, .int ((M 66 ((p_shop * 4) + p_thing).toNatClampNeg) - v6_3), .int x1]) (u := (55, [(0, .ref 76), (1, .int p_shop), (2, .int p_thing), (3, .int p_law), (4, .int (M 66 ((p_shop * 4) + p_thing).toNatClampNeg)), (5, .int x1), (6, .int v6_3)], [], zh, M4)) rfl ⟨rfl, rfl⟩ rfl (qP_turnsBest_ok (S := S) (M := M4) e21) ?_
        show zF S 51 (55, [(0, .ref 76), (1, .int p_shop), (2, .int p_thing), (3, .int p_law), (4, .int (M 66 ((p_shop * 4) + p_thing).toNatClampNeg)), (5, .int x1), (6, .int v6_3)], [.int x12], zh, M13) _ _
        refine zF_eq (t := 64) (u := (58, [(0, .ref 76), (1, .int p_shop), (2, .int p_thing), (3, .int p_law), (4, .int (M 66 ((p_shop * 4) + p_thing).toNatClampNeg)), (5, .int x1), (6, .int v6_3)], [], zh, M13)) rfl (fun c22 => ?_) (fun c22 => ?_)
        · rw [if_pos c22] at h
          exact zF_as (hk9 _ _ h) rfl
        · rw [if_neg c22] at h
          refine zF_go (n := 3) (ps := []) (s' := (63, [(0, .ref 76), (1, .int p_shop), (2, .int p_thing), (3, .int p_law), (4, .int (M 66 ((p_shop * 4) + p_thing).toNatClampNeg)), (5, .int x1), (6, .int v6_3)], [.int ((M 66 ((p_shop * 4) + p_thing).toNatClampNeg) - v6_3)], zh, M13)) rfl trivial ?_
          cases h
          exact zF_ret rfl trivial
noncomputable def qS_edge (M : zM) (p_shop : Int32) (p_thing : Int32) : Option (Int32 × zM) :=
  zb (qS_noShop p_shop) fun x1 =>
  if x1 = 0 then
    (zb (qS_noThing M p_thing) fun x2 =>
    if x2 = 0 then
      (zb (qS_forbidsAll M p_shop (M 2 3)) fun x3 =>
      if x3 = 0 then
        (zb (qS_lookAsItIs M) fun M4 =>
        zb2 (qP_edgeOf M4 p_shop p_thing (M4 2 3)) fun x5 M6 =>
        some (x5, M6))
      else
        (some ((-5), M)))
    else
      (some ((-1), M)))
  else
    (some ((-1), M))
set_option maxRecDepth 20000 in
set_option maxHeartbeats 4000000 in
theorem qS_edge_ok {S : zSc} {M : zM} {p_shop : Int32} {p_thing : Int32} {r : Int32 × zM} (h : qS_edge M p_shop p_thing = some r) : zF S 121 (0, [(0, .ref 1), (1, .int p_shop), (2, .int p_thing)], [], zh, M) (some (.int r.1)) (r.2) := by
  unfold qS_edge at h
  refine zF_go (n := 1) (ps := []) (s' := (1, [(0, .ref 1), (1, .int p_shop), (2, .int p_thing)], [.int p_shop], zh, M)) rfl trivial ?_
  obtain ⟨x1, e7, h⟩ := zb_some h
  refine zF_call (y' := 126) (as := [.int p_shop]) (u := (4, [(0, .ref 1), (1, .int p_shop), (2, .int p_thing)], [], zh, M)) rfl ⟨rfl, rfl⟩ rfl (qS_noShop_ok (S := S) (M := M) e7) ?_
  show zF S 121 (4, [(0, .ref 1), (1, .int p_shop), (2, .int p_thing)], [.int x1], zh, M) _ _
  refine zF_ne (t := 15) (u := (7, [(0, .ref 1), (1, .int p_shop), (2, .int p_thing)], [], zh, M)) rfl (fun c8 => ?_) (fun c8 => ?_)
  · rw [if_neg c8] at h
    refine zF_go (n := 1) (ps := []) (s' := (16, [], [.int (-1)], zh, M)) rfl trivial ?_
    cases h
    exact zF_ret rfl trivial
  · rw [if_pos c8] at h
    refine zF_go (n := 2) (ps := []) (s' := (9, [(0, .ref 1), (1, .int p_shop), (2, .int p_thing)], [.int p_thing, .ref 1], zh, M)) rfl trivial ?_
    obtain ⟨x2, e9, h⟩ := zb_some h
    refine zF_call (y' := 128) (as := [.ref 1, .int p_thing]) (u := (12, [(0, .ref 1), (1, .int p_shop), (2, .int p_thing)], [], zh, M)) rfl ⟨rfl, rfl⟩ rfl (qS_noThing_ok (S := S) (M := M) e9) ?_
    show zF S 121 (12, [(0, .ref 1), (1, .int p_shop), (2, .int p_thing)], [.int x2], zh, M) _ _
    refine zF_eq (t := 17) (u := (15, [(0, .ref 1), (1, .int p_shop), (2, .int p_thing)], [], zh, M)) rfl (fun c10 => ?_) (fun c10 => ?_)
    · rw [if_pos c10] at h
      refine zF_go (n := 5) (ps := []) (s' := (26, [(0, .ref 1), (1, .int p_shop), (2, .int p_thing)], [.int (M 2 3), .int p_shop, .ref 1], zh, M)) rfl trivial ?_
      obtain ⟨x3, e11, h⟩ := zb_some h
      refine zF_call (y' := 130) (as := [.ref 1, .int p_shop, .int (M 2 3)]) (u := (29, [(0, .ref 1), (1, .int p_shop), (2, .int p_thing)], [], zh, M)) rfl ⟨rfl, rfl⟩ rfl (qS_forbidsAll_ok (S := S) (M := M) e11) ?_
      show zF S 121 (29, [(0, .ref 1), (1, .int p_shop), (2, .int p_thing)], [.int x3], zh, M) _ _
      refine zF_eq (t := 35) (u := (32, [(0, .ref 1), (1, .int p_shop), (2, .int p_thing)], [], zh, M)) rfl (fun c12 => ?_) (fun c12 => ?_)
      · rw [if_pos c12] at h
        refine zF_go (n := 1) (ps := []) (s' := (36, [(0, .ref 1), (1, .int p_shop), (2, .int p_thing)], [.ref 1], zh, M)) rfl trivial ?_
        obtain ⟨M4, e13, h⟩ := zb_some h
        refine zF_call (y' := 132) (as := [.ref 1]) (u := (39, [(0, .ref 1), (1, .int p_shop), (2, .int p_thing)], [], zh, M)) rfl ⟨rfl, rfl⟩ rfl (qS_lookAsItIs_ok (S := S) (M := M) e13) ?_
        show zF S 121 (39, [(0, .ref 1), (1, .int p_shop), (2, .int p_thing)], [], zh, M4) _ _
        refine zF_go (n := 7) (ps := []) (s' := (52, [(0, .ref 1), (1, .int p_shop), (2, .int p_thing)], [.int (M4 2 3), .int p_thing, .int p_shop, .ref 76], zh, M4)) rfl trivial ?_
        obtain ⟨x5, M6, e14, h⟩ := zb2_some h
        refine zF_call (y' := 51) (as := [.ref 76, .int p_shop, .int p_thing, .int (M4 2 3)]) (u := (55, [(0, .ref 1), (1, .int p_shop), (2, .int p_thing)], [], zh, M4)) rfl ⟨rfl, rfl⟩ rfl (qP_edgeOf_ok (S := S) (M := M4) e14) ?_
        show zF S 121 (55, [(0, .ref 1), (1, .int p_shop), (2, .int p_thing)], [.int x5], zh, M6) _ _
        cases h
        exact zF_ret rfl trivial
      · rw [if_neg c12] at h
        refine zF_go (n := 1) (ps := []) (s' := (34, [(0, .ref 1), (1, .int p_shop), (2, .int p_thing)], [.int (-5)], zh, M)) rfl trivial ?_
        cases h
        exact zF_ret rfl trivial
    · rw [if_neg c10] at h
      refine zF_go (n := 1) (ps := []) (s' := (16, [], [.int (-1)], zh, M)) rfl trivial ?_
      cases h
      exact zF_ret rfl trivial
noncomputable def qM_edge_L68 (M4 : zM) (p_shop : Int32) (p_thing : Int32) (v7_6 : Int32) (x3 : Int32) (rec8 : (Int32 × Int32 × zM) → Option (Int32 × zM)) (rec12 : (Int32 × Int32 × zM) → Option (Int32 × zM)) (v : Int32 × Int32 × zM) : Option (Int32 × zM) := match v with
  | (v6_9, v8_10, M11) =>
    if v8_10 < 2 then
      (if v6_9 < 0 then
        (zb (qM_isPrice (if v8_10 = 0 then ((M4 87 ((4 * p_shop) + p_thing).toNatClampNeg) - v7_6) else ((M4 87 ((4 * p_shop) + p_thing).toNatClampNeg) + v7_6))) fun x14 =>
        if x14 = 0 then
          (rec12 (v6_9, (v8_10 + 1), M11))
        else
          (zq (vp_in ((4 * p_shop) + p_thing) 8) <| zb2 (qM_bestOf (zw M11 87 ((4 * p_shop) + p_thing).toNatClampNeg (if v8_10 = 0 then ((M4 87 ((4 * p_shop) + p_thing).toNatClampNeg) - v7_6) else ((M4 87 ((4 * p_shop) + p_thing).toNatClampNeg) + v7_6))) p_shop) fun x15 M16 =>
          if x15 < 0 then
            (rec12 ((-6), (v8_10 + 1), M16))
          else
            (if x15 = x3 then
              (rec12 ((-6), (v8_10 + 1), M16))
            else
              (rec12 ((if v8_10 = 0 then ((M4 87 ((4 * p_shop) + p_thing).toNatClampNeg) - v7_6) else ((M4 87 ((4 * p_shop) + p_thing).toNatClampNeg) + v7_6)), (v8_10 + 1), M16)))))
      else
        (rec8 (v6_9, (v7_6 + 1), M11)))
    else
      (rec8 (v6_9, (v7_6 + 1), M11))
noncomputable def qM_edge_L53 (p_shop : Int32) (p_thing : Int32) (M4 : zM) (x3 : Int32) (rec8 : (Int32 × Int32 × zM) → Option (Int32 × zM)) (v : Int32 × Int32 × zM) : Option (Int32 × zM) := match v with
  | (v6_5, v7_6, M7) =>
    if (99 : Int32) < v7_6 then
      (zq (vp_in ((4 * p_shop) + p_thing) 8) <| some (v6_5, (zw M7 87 ((4 * p_shop) + p_thing).toNatClampNeg (M4 87 ((4 * p_shop) + p_thing).toNatClampNeg))))
    else
      (if v6_5 < 0 then
        (zlp (qM_edge_L68 M4 p_shop p_thing v7_6 x3 rec8) zfu (v6_5, 0, M7))
      else
        (zq (vp_in ((4 * p_shop) + p_thing) 8) <| some (v6_5, (zw M7 87 ((4 * p_shop) + p_thing).toNatClampNeg (M4 87 ((4 * p_shop) + p_thing).toNatClampNeg)))))
noncomputable def qM_edge (M : zM) (p_shop : Int32) (p_thing : Int32) : Option (Int32 × zM) :=
  zb (qM_isShop p_shop) fun x1 =>
  if x1 = 0 then
    (some ((-1), M))
  else
    (zb (qM_isThing M p_thing) fun x2 =>
    if x2 = 0 then
      (some ((-1), M))
    else
      (zb2 (qM_bestOf M p_shop) fun x3 M4 =>
      if x3 < 0 then
        (some ((-5), M4))
      else
        (zq (vp_in ((4 * p_shop) + p_thing) 8) <| zlp (qM_edge_L53 p_shop p_thing M4 x3) zfu ((-6), 1, M4))))
set_option maxRecDepth 20000 in
set_option maxHeartbeats 4000000 in
theorem qM_edge_ok {S : zSc} {M : zM} {p_shop : Int32} {p_thing : Int32} {r : Int32 × zM} (h : qM_edge M p_shop p_thing = some r) : zF S 204 (0, [(0, .ref 86), (1, .int p_shop), (2, .int p_thing)], [], zh, M) (some (.int r.1)) (r.2) := by
  unfold qM_edge at h
  refine zF_go (n := 1) (ps := []) (s' := (1, [(0, .ref 86), (1, .int p_shop), (2, .int p_thing)], [.int p_shop], zh, M)) rfl trivial ?_
  obtain ⟨x1, e17, h⟩ := zb_some h
  refine zF_call (y' := 136) (as := [.int p_shop]) (u := (4, [(0, .ref 86), (1, .int p_shop), (2, .int p_thing)], [], zh, M)) rfl ⟨rfl, rfl⟩ rfl (qM_isShop_ok (S := S) (M := M) e17) ?_
  show zF S 204 (4, [(0, .ref 86), (1, .int p_shop), (2, .int p_thing)], [.int x1], zh, M) _ _
  refine zF_eq (t := 15) (u := (7, [(0, .ref 86), (1, .int p_shop), (2, .int p_thing)], [], zh, M)) rfl (fun c18 => ?_) (fun c18 => ?_)
  · rw [if_pos c18] at h
    refine zF_go (n := 1) (ps := []) (s' := (16, [], [.int (-1)], zh, M)) rfl trivial ?_
    cases h
    exact zF_ret rfl trivial
  · rw [if_neg c18] at h
    refine zF_go (n := 2) (ps := []) (s' := (9, [(0, .ref 86), (1, .int p_shop), (2, .int p_thing)], [.int p_thing, .ref 86], zh, M)) rfl trivial ?_
    obtain ⟨x2, e19, h⟩ := zb_some h
    refine zF_call (y' := 137) (as := [.ref 86, .int p_thing]) (u := (12, [(0, .ref 86), (1, .int p_shop), (2, .int p_thing)], [], zh, M)) rfl ⟨rfl, rfl⟩ rfl (qM_isThing_ok (S := S) (M := M) e19) ?_
    show zF S 204 (12, [(0, .ref 86), (1, .int p_shop), (2, .int p_thing)], [.int x2], zh, M) _ _
    refine zF_ne (t := 17) (u := (15, [(0, .ref 86), (1, .int p_shop), (2, .int p_thing)], [], zh, M)) rfl (fun c20 => ?_) (fun c20 => ?_)
    · rw [if_neg c20] at h
      refine zF_go (n := 2) (ps := []) (s' := (19, [(0, .ref 86), (1, .int p_shop), (2, .int p_thing)], [.int p_shop, .ref 86], zh, M)) rfl trivial ?_
      obtain ⟨x3, M4, e21, h⟩ := zb2_some h
      refine zF_call (y' := 179) (as := [.ref 86, .int p_shop]) (u := (22, [(0, .ref 86), (1, .int p_shop), (2, .int p_thing)], [], zh, M)) rfl ⟨rfl, rfl⟩ rfl (qM_bestOf_ok (S := S) (M := M) e21) ?_
      show zF S 204 (22, [(0, .ref 86), (1, .int p_shop), (2, .int p_thing)], [.int x3], zh, M4) _ _
      refine zF_go (n := 2) (ps := []) (s' := (24, [(3, .int x3), (0, .ref 86), (1, .int p_shop), (2, .int p_thing)], [.int x3], zh, M4)) rfl trivial ?_
      refine zF_ge (t := 30) (u := (27, [(3, .int x3), (0, .ref 86), (1, .int p_shop), (2, .int p_thing)], [], zh, M4)) rfl (fun c22 => ?_) (fun c22 => ?_)
      · rw [if_neg c22] at h
        obtain ⟨g23, h⟩ := zq_some h
        refine zF_go (n := 15) (ps := [vp_in ((4 * p_shop) + p_thing) 8]) (s' := (53, [(7, .int 1), (6, .int (-6)), (5, .int (M4 87 ((4 * p_shop) + p_thing).toNatClampNeg)), (4, .int ((4 * p_shop) + p_thing)), (3, .int x3), (0, .ref 86), (1, .int p_shop), (2, .int p_thing)], [], zh, M4)) rfl ⟨g23, trivial⟩ ?_
        refine zF_same (s' := (53, [(0, .ref 86), (1, .int p_shop), (3, .int x3), (4, .int ((4 * p_shop) + p_thing)), (5, .int (M4 87 ((4 * p_shop) + p_thing).toNatClampNeg)), (6, .int (-6)), (7, .int 1)], [], zh, M4)) rfl ?_
        refine zlp_ind (P := fun (v : Int32 × Int32 × zM) r => zF S 204 (53, [(0, .ref 86), (1, .int p_shop), (3, .int x3), (4, .int ((4 * p_shop) + p_thing)), (5, .int (M4 87 ((4 * p_shop) + p_thing).toNatClampNeg)), (6, .int v.1), (7, .int v.2.1)], [], zh, v.2.2) (some (.int r.1)) (r.2)) ?_ _ _ _ h
        intro rec8 hrec8 v r h
        obtain ⟨v6_5, v7_6, M7⟩ := v
        unfold qM_edge_L53 at h
        dsimp only at h
        show zF S 204 (53, [(0, .ref 86), (1, .int p_shop), (3, .int x3), (4, .int ((4 * p_shop) + p_thing)), (5, .int (M4 87 ((4 * p_shop) + p_thing).toNatClampNeg)), (6, .int v6_5), (7, .int v7_6)], [], zh, M7) _ _
        refine zF_go (n := 2) (ps := []) (s' := (57, [(0, .ref 86), (1, .int p_shop), (3, .int x3), (4, .int ((4 * p_shop) + p_thing)), (5, .int (M4 87 ((4 * p_shop) + p_thing).toNatClampNeg)), (6, .int v6_5), (7, .int v7_6)], [.int 99, .int v7_6], zh, M7)) rfl trivial ?_
        refine zF_gt (t := 155) (u := (60, [(0, .ref 86), (1, .int p_shop), (3, .int x3), (4, .int ((4 * p_shop) + p_thing)), (5, .int (M4 87 ((4 * p_shop) + p_thing).toNatClampNeg)), (6, .int v6_5), (7, .int v7_6)], [], zh, M7)) rfl (fun c24 => ?_) (fun c24 => ?_)
        · rw [if_pos c24] at h
          obtain ⟨g25, h⟩ := zq_some h
          refine zF_go (n := 6) (ps := [vp_in ((4 * p_shop) + p_thing) 8]) (s' := (166, [(0, .ref 86), (4, .int ((4 * p_shop) + p_thing)), (5, .int (M4 87 ((4 * p_shop) + p_thing).toNatClampNeg)), (6, .int v6_5)], [.int v6_5], zh, (zw M7 87 ((4 * p_shop) + p_thing).toNatClampNeg (M4 87 ((4 * p_shop) + p_thing).toNatClampNeg)))) rfl ⟨g25, trivial⟩ ?_
          cases h
          exact zF_ret rfl trivial
        · rw [if_neg c24] at h
          refine zF_go (n := 1) (ps := []) (s' := (62, [(0, .ref 86), (1, .int p_shop), (3, .int x3), (4, .int ((4 * p_shop) + p_thing)), (5, .int (M4 87 ((4 * p_shop) + p_thing).toNatClampNeg)), (6, .int v6_5), (7, .int v7_6)], [.int v6_5], zh, M7)) rfl trivial ?_
          refine zF_ge (t := 155) (u := (65, [(0, .ref 86), (1, .int p_shop), (3, .int x3), (4, .int ((4 * p_shop) + p_thing)), (5, .int (M4 87 ((4 * p_shop) + p_thing).toNatClampNeg)), (6, .int v6_5), (7, .int v7_6)], [], zh, M7)) rfl (fun c26 => ?_) (fun c26 => ?_)
          · rw [if_neg c26] at h
            obtain ⟨g27, h⟩ := zq_some h
            refine zF_go (n := 6) (ps := [vp_in ((4 * p_shop) + p_thing) 8]) (s' := (166, [(0, .ref 86), (4, .int ((4 * p_shop) + p_thing)), (5, .int (M4 87 ((4 * p_shop) + p_thing).toNatClampNeg)), (6, .int v6_5)], [.int v6_5], zh, (zw M7 87 ((4 * p_shop) + p_thing).toNatClampNeg (M4 87 ((4 * p_shop) + p_thing).toNatClampNeg)))) rfl ⟨g27, trivial⟩ ?_
            cases h
            exact zF_ret rfl trivial
          · rw [if_pos c26] at h
            refine zF_go (n := 2) (ps := []) (s' := (68, [(8, .int 0), (0, .ref 86), (1, .int p_shop), (3, .int x3), (4, .int ((4 * p_shop) + p_thing)), (5, .int (M4 87 ((4 * p_shop) + p_thing).toNatClampNeg)), (6, .int v6_5), (7, .int v7_6)], [], zh, M7)) rfl trivial ?_
            refine zF_same (s' := (68, [(0, .ref 86), (1, .int p_shop), (3, .int x3), (4, .int ((4 * p_shop) + p_thing)), (5, .int (M4 87 ((4 * p_shop) + p_thing).toNatClampNeg)), (6, .int v6_5), (7, .int v7_6), (8, .int 0)], [], zh, M7)) rfl ?_
            refine zlp_ind (P := fun (v : Int32 × Int32 × zM) r => zF S 204 (68, [(0, .ref 86), (1, .int p_shop), (3, .int x3), (4, .int ((4 * p_shop) + p_thing)), (5, .int (M4 87 ((4 * p_shop) + p_thing).toNatClampNeg)), (6, .int v.1), (7, .int v7_6), (8, .int v.2.1)], [], zh, v.2.2) (some (.int r.1)) (r.2)) ?_ _ _ _ h
            intro rec12 hrec12 v r h
            obtain ⟨v6_9, v8_10, M11⟩ := v
            unfold qM_edge_L68 at h
            dsimp only at h
            show zF S 204 (68, [(0, .ref 86), (1, .int p_shop), (3, .int x3), (4, .int ((4 * p_shop) + p_thing)), (5, .int (M4 87 ((4 * p_shop) + p_thing).toNatClampNeg)), (6, .int v6_9), (7, .int v7_6), (8, .int v8_10)], [], zh, M11) _ _
            refine zF_go (n := 2) (ps := []) (s' := (71, [(0, .ref 86), (1, .int p_shop), (3, .int x3), (4, .int ((4 * p_shop) + p_thing)), (5, .int (M4 87 ((4 * p_shop) + p_thing).toNatClampNeg)), (6, .int v6_9), (7, .int v7_6), (8, .int v8_10)], [.int 2, .int v8_10], zh, M11)) rfl trivial ?_
            refine zF_ge (t := 149) (u := (74, [(0, .ref 86), (1, .int p_shop), (3, .int x3), (4, .int ((4 * p_shop) + p_thing)), (5, .int (M4 87 ((4 * p_shop) + p_thing).toNatClampNeg)), (6, .int v6_9), (7, .int v7_6), (8, .int v8_10)], [], zh, M11)) rfl (fun c28 => ?_) (fun c28 => ?_)
            · rw [if_neg c28] at h
              refine zF_go (n := 2) (ps := []) (s' := (53, [(7, .int (v7_6 + 1)), (0, .ref 86), (1, .int p_shop), (3, .int x3), (4, .int ((4 * p_shop) + p_thing)), (5, .int (M4 87 ((4 * p_shop) + p_thing).toNatClampNeg)), (6, .int v6_9)], [], zh, M11)) rfl trivial ?_
              exact zF_as (hrec8 _ _ h) rfl
            · rw [if_pos c28] at h
              refine zF_go (n := 1) (ps := []) (s' := (76, [(0, .ref 86), (1, .int p_shop), (3, .int x3), (4, .int ((4 * p_shop) + p_thing)), (5, .int (M4 87 ((4 * p_shop) + p_thing).toNatClampNeg)), (6, .int v6_9), (7, .int v7_6), (8, .int v8_10)], [.int v6_9], zh, M11)) rfl trivial ?_
              refine zF_ge (t := 149) (u := (79, [(0, .ref 86), (1, .int p_shop), (3, .int x3), (4, .int ((4 * p_shop) + p_thing)), (5, .int (M4 87 ((4 * p_shop) + p_thing).toNatClampNeg)), (6, .int v6_9), (7, .int v7_6), (8, .int v8_10)], [], zh, M11)) rfl (fun c29 => ?_) (fun c29 => ?_)
              · rw [if_neg c29] at h
                refine zF_go (n := 2) (ps := []) (s' := (53, [(7, .int (v7_6 + 1)), (0, .ref 86), (1, .int p_shop), (3, .int x3), (4, .int ((4 * p_shop) + p_thing)), (5, .int (M4 87 ((4 * p_shop) + p_thing).toNatClampNeg)), (6, .int v6_9)], [], zh, M11)) rfl trivial ?_
                exact zF_as (hrec8 _ _ h) rfl
              · rw [if_pos c29] at h
                refine zF_go (n := 1) (ps := []) (s' := (81, [(0, .ref 86), (1, .int p_shop), (3, .int x3), (4, .int ((4 * p_shop) + p_thing)), (5, .int (M4 87 ((4 * p_shop) + p_thing).toNatClampNeg)), (6, .int v6_9), (7, .int v7_6), (8, .int v8_10)], [.int v8_10], zh, M11)) rfl trivial ?_
                have hk30 : zF S 204 (97, [(0, .ref 86), (1, .int p_shop), (3, .int x3), (4, .int ((4 * p_shop) + p_thing)), (5, .int (M4 87 ((4 * p_shop) + p_thing).toNatClampNeg)), (6, .int v6_9), (7, .int v7_6), (8, .int v8_10)], [.int (if v8_10 = 0 then ((M4 87 ((4 * p_shop) + p_thing).toNatClampNeg) - v7_6) else ((M4 87 ((4 * p_shop) + p_thing).toNatClampNeg) + v7_6))], zh, M11) (some (.int r.1)) (r.2) := by
                  refine zF_go (n := 2) (ps := []) (s' := (101, [(9, .int (if v8_10 = 0 then ((M4 87 ((4 * p_shop) + p_thing).toNatClampNeg) - v7_6) else ((M4 87 ((4 * p_shop) + p_thing).toNatClampNeg) + v7_6))), (0, .ref 86), (1, .int p_shop), (3, .int x3), (4, .int ((4 * p_shop) + p_thing)), (5, .int (M4 87 ((4 * p_shop) + p_thing).toNatClampNeg)), (6, .int v6_9), (7, .int v7_6), (8, .int v8_10)], [.int (if v8_10 = 0 then ((M4 87 ((4 * p_shop) + p_thing).toNatClampNeg) - v7_6) else ((M4 87 ((4 * p_shop) + p_thing).toNatClampNeg) + v7_6))], zh, M11)) rfl trivial ?_
                  obtain ⟨x14, e31, h⟩ := zb_some h
                  refine zF_call (y' := 139) (as := [.int (if v8_10 = 0 then ((M4 87 ((4 * p_shop) + p_thing).toNatClampNeg) - v7_6) else ((M4 87 ((4 * p_shop) + p_thing).toNatClampNeg) + v7_6))]) (u := (104, [(9, .int (if v8_10 = 0 then ((M4 87 ((4 * p_shop) + p_thing).toNatClampNeg) - v7_6) else ((M4 87 ((4 * p_shop) + p_thing).toNatClampNeg) + v7_6))), (0, .ref 86), (1, .int p_shop), (3, .int x3), (4, .int ((4 * p_shop) + p_thing)), (5, .int (M4 87 ((4 * p_shop) + p_thing).toNatClampNeg)), (6, .int v6_9), (7, .int v7_6), (8, .int v8_10)], [], zh, M11)) rfl ⟨rfl, rfl⟩ rfl (qM_isPrice_ok (S := S) (M := M11) e31) ?_
                  show zF S 204 (104, [(9, .int (if v8_10 = 0 then ((M4 87 ((4 * p_shop) + p_thing).toNatClampNeg) - v7_6) else ((M4 87 ((4 * p_shop) + p_thing).toNatClampNeg) + v7_6))), (0, .ref 86), (1, .int p_shop), (3, .int x3), (4, .int ((4 * p_shop) + p_thing)), (5, .int (M4 87 ((4 * p_shop) + p_thing).toNatClampNeg)), (6, .int v6_9), (7, .int v7_6), (8, .int v8_10)], [.int x14], zh, M11) _ _
                  refine zF_eq (t := 143) (u := (107, [(9, .int (if v8_10 = 0 then ((M4 87 ((4 * p_shop) + p_thing).toNatClampNeg) - v7_6) else ((M4 87 ((4 * p_shop) + p_thing).toNatClampNeg) + v7_6))), (0, .ref 86), (1, .int p_shop), (3, .int x3), (4, .int ((4 * p_shop) + p_thing)), (5, .int (M4 87 ((4 * p_shop) + p_thing).toNatClampNeg)), (6, .int v6_9), (7, .int v7_6), (8, .int v8_10)], [], zh, M11)) rfl (fun c32 => ?_) (fun c32 => ?_)
                  · rw [if_pos c32] at h
                    refine zF_go (n := 2) (ps := []) (s' := (68, [(8, .int (v8_10 + 1)), (0, .ref 86), (1, .int p_shop), (3, .int x3), (4, .int ((4 * p_shop) + p_thing)), (5, .int (M4 87 ((4 * p_shop) + p_thing).toNatClampNeg)), (6, .int v6_9), (7, .int v7_6)], [], zh, M11)) rfl trivial ?_
                    exact zF_as (hrec12 _ _ h) rfl
                  · rw [if_neg c32] at h
                    obtain ⟨g33, h⟩ := zq_some h
                    refine zF_go (n := 7) (ps := [vp_in ((4 * p_shop) + p_thing) 8]) (s' := (118, [(9, .int (if v8_10 = 0 then ((M4 87 ((4 * p_shop) + p_thing).toNatClampNeg) - v7_6) else ((M4 87 ((4 * p_shop) + p_thing).toNatClampNeg) + v7_6))), (0, .ref 86), (1, .int p_shop), (3, .int x3), (4, .int ((4 * p_shop) + p_thing)), (5, .int (M4 87 ((4 * p_shop) + p_thing).toNatClampNeg)), (6, .int v6_9), (7, .int v7_6), (8, .int v8_10)], [.int p_shop, .ref 86], zh, (zw M11 87 ((4 * p_shop) + p_thing).toNatClampNeg (if v8_10 = 0 then ((M4 87 ((4 * p_shop) + p_thing).toNatClampNeg) - v7_6) else ((M4 87 ((4 * p_shop) + p_thing).toNatClampNeg) + v7_6))))) rfl ⟨g33, trivial⟩ ?_
                    obtain ⟨x15, M16, e34, h⟩ := zb2_some h
                    refine zF_call (y' := 179) (as := [.ref 86, .int p_shop]) (u := (121, [(9, .int (if v8_10 = 0 then ((M4 87 ((4 * p_shop) + p_thing).toNatClampNeg) - v7_6) else ((M4 87 ((4 * p_shop) + p_thing).toNatClampNeg) + v7_6))), (0, .ref 86), (1, .int p_shop), (3, .int x3), (4, .int ((4 * p_shop) + p_thing)), (5, .int (M4 87 ((4 * p_shop) + p_thing).toNatClampNeg)), (6, .int v6_9), (7, .int v7_6), (8, .int v8_10)], [], zh, (zw M11 87 ((4 * p_shop) + p_thing).toNatClampNeg (if v8_10 = 0 then ((M4 87 ((4 * p_shop) + p_thing).toNatClampNeg) - v7_6) else ((M4 87 ((4 * p_shop) + p_thing).toNatClampNeg) + v7_6))))) rfl ⟨rfl, rfl⟩ rfl (qM_bestOf_ok (S := S) (M := (zw M11 87 ((4 * p_shop) + p_thing).toNatClampNeg (if v8_10 = 0 then ((M4 87 ((4 * p_shop) + p_thing).toNatClampNeg) - v7_6) else ((M4 87 ((4 * p_shop) + p_thing).toNatClampNeg) + v7_6)))) e34) ?_
                    show zF S 204 (121, [(9, .int (if v8_10 = 0 then ((M4 87 ((4 * p_shop) + p_thing).toNatClampNeg) - v7_6) else ((M4 87 ((4 * p_shop) + p_thing).toNatClampNeg) + v7_6))), (0, .ref 86), (1, .int p_shop), (3, .int x3), (4, .int ((4 * p_shop) + p_thing)), (5, .int (M4 87 ((4 * p_shop) + p_thing).toNatClampNeg)), (6, .int v6_9), (7, .int v7_6), (8, .int v8_10)], [.int x15], zh, M16) _ _
                    refine zF_go (n := 2) (ps := []) (s' := (125, [(10, .int x15), (9, .int (if v8_10 = 0 then ((M4 87 ((4 * p_shop) + p_thing).toNatClampNeg) - v7_6) else ((M4 87 ((4 * p_shop) + p_thing).toNatClampNeg) + v7_6))), (0, .ref 86), (1, .int p_shop), (3, .int x3), (4, .int ((4 * p_shop) + p_thing)), (5, .int (M4 87 ((4 * p_shop) + p_thing).toNatClampNeg)), (6, .int v6_9), (7, .int v7_6), (8, .int v8_10)], [.int x15], zh, M16)) rfl trivial ?_
                    refine zF_lt (t := 139) (u := (128, [(10, .int x15), (9, .int (if v8_10 = 0 then ((M4 87 ((4 * p_shop) + p_thing).toNatClampNeg) - v7_6) else ((M4 87 ((4 * p_shop) + p_thing).toNatClampNeg) + v7_6))), (0, .ref 86), (1, .int p_shop), (3, .int x3), (4, .int ((4 * p_shop) + p_thing)), (5, .int (M4 87 ((4 * p_shop) + p_thing).toNatClampNeg)), (6, .int v6_9), (7, .int v7_6), (8, .int v8_10)], [], zh, M16)) rfl (fun c35 => ?_) (fun c35 => ?_)
                    · rw [if_pos c35] at h
                      refine zF_go (n := 1) (ps := []) (s' := (141, [(0, .ref 86), (1, .int p_shop), (3, .int x3), (4, .int ((4 * p_shop) + p_thing)), (5, .int (M4 87 ((4 * p_shop) + p_thing).toNatClampNeg)), (7, .int v7_6), (8, .int v8_10)], [.int (-6)], zh, M16)) rfl trivial ?_
                      refine zF_go (n := 1) (ps := []) (s' := (143, [(6, .int (-6)), (0, .ref 86), (1, .int p_shop), (3, .int x3), (4, .int ((4 * p_shop) + p_thing)), (5, .int (M4 87 ((4 * p_shop) + p_thing).toNatClampNeg)), (7, .int v7_6), (8, .int v8_10)], [], zh, M16)) rfl trivial ?_
                      refine zF_go (n := 2) (ps := []) (s' := (68, [(8, .int (v8_10 + 1)), (0, .ref 86), (1, .int p_shop), (3, .int x3), (4, .int ((4 * p_shop) + p_thing)), (5, .int (M4 87 ((4 * p_shop) + p_thing).toNatClampNeg)), (6, .int (-6)), (7, .int v7_6)], [], zh, M16)) rfl trivial ?_
                      exact zF_as (hrec12 _ _ h) rfl
                    · rw [if_neg c35] at h
                      refine zF_go (n := 2) (ps := []) (s' := (131, [(10, .int x15), (9, .int (if v8_10 = 0 then ((M4 87 ((4 * p_shop) + p_thing).toNatClampNeg) - v7_6) else ((M4 87 ((4 * p_shop) + p_thing).toNatClampNeg) + v7_6))), (0, .ref 86), (1, .int p_shop), (3, .int x3), (4, .int ((4 * p_shop) + p_thing)), (5, .int (M4 87 ((4 * p_shop) + p_thing).toNatClampNeg)), (6, .int v6_9), (7, .int v7_6), (8, .int v8_10)], [.int x3, .int x15], zh, M16)) rfl trivial ?_
                      refine zF_eq (t := 139) (u := (134, [(10, .int x15), (9, .int (if v8_10 = 0 then ((M4 87 ((4 * p_shop) + p_thing).toNatClampNeg) - v7_6) else ((M4 87 ((4 * p_shop) + p_thing).toNatClampNeg) + v7_6))), (0, .ref 86), (1, .int p_shop), (3, .int x3), (4, .int ((4 * p_shop) + p_thing)), (5, .int (M4 87 ((4 * p_shop) + p_thing).toNatClampNeg)), (6, .int v6_9), (7, .int v7_6), (8, .int v8_10)], [], zh, M16)) rfl (fun c36 => ?_) (fun c36 => ?_)
                      · rw [if_pos c36] at h
                        refine zF_go (n := 1) (ps := []) (s' := (141, [(0, .ref 86), (1, .int p_shop), (3, .int x3), (4, .int ((4 * p_shop) + p_thing)), (5, .int (M4 87 ((4 * p_shop) + p_thing).toNatClampNeg)), (7, .int v7_6), (8, .int v8_10)], [.int (-6)], zh, M16)) rfl trivial ?_
                        refine zF_go (n := 1) (ps := []) (s' := (143, [(6, .int (-6)), (0, .ref 86), (1, .int p_shop), (3, .int x3), (4, .int ((4 * p_shop) + p_thing)), (5, .int (M4 87 ((4 * p_shop) + p_thing).toNatClampNeg)), (7, .int v7_6), (8, .int v8_10)], [], zh, M16)) rfl trivial ?_
                        refine zF_go (n := 2) (ps := []) (s' := (68, [(8, .int (v8_10 + 1)), (0, .ref 86), (1, .int p_shop), (3, .int x3), (4, .int ((4 * p_shop) + p_thing)), (5, .int (M4 87 ((4 * p_shop) + p_thing).toNatClampNeg)), (6, .int (-6)), (7, .int v7_6)], [], zh, M16)) rfl trivial ?_
                        exact zF_as (hrec12 _ _ h) rfl
                      · rw [if_neg c36] at h
                        refine zF_go (n := 2) (ps := []) (s' := (141, [(10, .int x15), (9, .int (if v8_10 = 0 then ((M4 87 ((4 * p_shop) + p_thing).toNatClampNeg) - v7_6) else ((M4 87 ((4 * p_shop) + p_thing).toNatClampNeg) + v7_6))), (0, .ref 86), (1, .int p_shop), (3, .int x3), (4, .int ((4 * p_shop) + p_thing)), (5, .int (M4 87 ((4 * p_shop) + p_thing).toNatClampNeg)), (6, .int v6_9), (7, .int v7_6), (8, .int v8_10)], [.int (if v8_10 = 0 then ((M4 87 ((4 * p_shop) + p_thing).toNatClampNeg) - v7_6) else ((M4 87 ((4 * p_shop) + p_thing).toNatClampNeg) + v7_6))], zh, M16)) rfl trivial ?_
                        refine zF_go (n := 1) (ps := []) (s' := (143, [(6, .int (if v8_10 = 0 then ((M4 87 ((4 * p_shop) + p_thing).toNatClampNeg) - v7_6) else ((M4 87 ((4 * p_shop) + p_thing).toNatClampNeg) + v7_6))), (0, .ref 86), (1, .int p_shop), (3, .int x3), (4, .int ((4 * p_shop) + p_thing)), (5, .int (M4 87 ((4 * p_shop) + p_thing).toNatClampNeg)), (7, .int v7_6), (8, .int v8_10)], [], zh, M16)) rfl trivial ?_
                        refine zF_go (n := 2) (ps := []) (s' := (68, [(8, .int (v8_10 + 1)), (0, .ref 86), (1, .int p_shop), (3, .int x3), (4, .int ((4 * p_shop) + p_thing)), (5, .int (M4 87 ((4 * p_shop) + p_thing).toNatClampNeg)), (6, .int (if v8_10 = 0 then ((M4 87 ((4 * p_shop) + p_thing).toNatClampNeg) - v7_6) else ((M4 87 ((4 * p_shop) + p_thing).toNatClampNeg) + v7_6))), (7, .int v7_6)], [], zh, M16)) rfl trivial ?_
                        exact zF_as (hrec12 _ _ h) rfl
                refine zF_ne (t := 92) (u := (84, [(0, .ref 86), (1, .int p_shop), (3, .int x3), (4, .int ((4 * p_shop) + p_thing)), (5, .int (M4 87 ((4 * p_shop) + p_thing).toNatClampNeg)), (6, .int v6_9), (7, .int v7_6), (8, .int v8_10)], [], zh, M11)) rfl (fun c37 => ?_) (fun c37 => ?_)
                · skip
                  refine zF_go (n := 3) (ps := []) (s' := (97, [(0, .ref 86), (1, .int p_shop), (3, .int x3), (4, .int ((4 * p_shop) + p_thing)), (5, .int (M4 87 ((4 * p_shop) + p_thing).toNatClampNeg)), (6, .int v6_9), (7, .int v7_6), (8, .int v8_10)], [.int ((M4 87 ((4 * p_shop) + p_thing).toNatClampNeg) + v7_6)], zh, M11)) rfl trivial ?_
                  simp only [if_neg c37] at hk30
                  try simp only [if_neg c37]
                  exact zF_as hk30 rfl
                · skip
                  refine zF_go (n := 4) (ps := []) (s' := (97, [(0, .ref 86), (1, .int p_shop), (3, .int x3), (4, .int ((4 * p_shop) + p_thing)), (5, .int (M4 87 ((4 * p_shop) + p_thing).toNatClampNeg)), (6, .int v6_9), (7, .int v7_6), (8, .int v8_10)], [.int ((M4 87 ((4 * p_shop) + p_thing).toNatClampNeg) - v7_6)], zh, M11)) rfl trivial ?_
                  simp only [if_pos c37] at hk30
                  try simp only [if_pos c37]
                  exact zF_as hk30 rfl
      · rw [if_pos c22] at h
        refine zF_go (n := 1) (ps := []) (s' := (29, [(3, .int x3), (0, .ref 86), (1, .int p_shop), (2, .int p_thing)], [.int (-5)], zh, M4)) rfl trivial ?_
        cases h
        exact zF_ret rfl trivial
    · rw [if_pos c20] at h
      refine zF_go (n := 1) (ps := []) (s' := (16, [], [.int (-1)], zh, M)) rfl trivial ?_
      cases h
      exact zF_ret rfl trivial
noncomputable def qG_copy_22_3 (M : zM) : Option (zM) :=
  some (zA (zA (zA (zA (zA (zA (zw M 22 0 (M 3 0)) 23 (va_cpy (M 4) (M 23) ((0 : Int32).toNatClampNeg) ((0 : Int32).toNatClampNeg) ((4 : Int32).toNatClampNeg))) 24 (va_cpy (M 5) (M 24) ((0 : Int32).toNatClampNeg) ((0 : Int32).toNatClampNeg) ((12 : Int32).toNatClampNeg))) 25 (va_cpy (M 6) (M 25) ((0 : Int32).toNatClampNeg) ((0 : Int32).toNatClampNeg) ((8 : Int32).toNatClampNeg))) 26 (va_cpy (M 7) (M 26) ((0 : Int32).toNatClampNeg) ((0 : Int32).toNatClampNeg) ((8 : Int32).toNatClampNeg))) 27 (va_cpy (M 8) (M 27) ((0 : Int32).toNatClampNeg) ((0 : Int32).toNatClampNeg) ((8 : Int32).toNatClampNeg))) 28 (va_cpy (M 9) (M 28) ((0 : Int32).toNatClampNeg) ((0 : Int32).toNatClampNeg) ((2 : Int32).toNatClampNeg)))
set_option maxRecDepth 20000 in
set_option maxHeartbeats 4000000 in
theorem qG_copy_22_3_ok {S : zSc} {M : zM} {r : zM} (h : qG_copy_22_3 M = some r) : zF S 13 (0, [(0, .ref 22), (1, .ref 3)], [], zh, M) (none) (r) := by
  unfold qG_copy_22_3 at h
  refine zF_go (n := 52) (ps := [¬ (0 : Int32) < 0, ¬ (0 : Int32) < 0, ¬ (4 : Int32) < 0, (0 : Int32).toNatClampNeg + (4 : Int32).toNatClampNeg ≤ 4, (0 : Int32).toNatClampNeg + (4 : Int32).toNatClampNeg ≤ 4, ¬ (0 : Int32) < 0, ¬ (0 : Int32) < 0, ¬ (12 : Int32) < 0, (0 : Int32).toNatClampNeg + (12 : Int32).toNatClampNeg ≤ 12, (0 : Int32).toNatClampNeg + (12 : Int32).toNatClampNeg ≤ 12, ¬ (0 : Int32) < 0, ¬ (0 : Int32) < 0, ¬ (8 : Int32) < 0, (0 : Int32).toNatClampNeg + (8 : Int32).toNatClampNeg ≤ 8, (0 : Int32).toNatClampNeg + (8 : Int32).toNatClampNeg ≤ 8, ¬ (0 : Int32) < 0, ¬ (0 : Int32) < 0, ¬ (8 : Int32) < 0, (0 : Int32).toNatClampNeg + (8 : Int32).toNatClampNeg ≤ 8, (0 : Int32).toNatClampNeg + (8 : Int32).toNatClampNeg ≤ 8, ¬ (0 : Int32) < 0, ¬ (0 : Int32) < 0, ¬ (8 : Int32) < 0, (0 : Int32).toNatClampNeg + (8 : Int32).toNatClampNeg ≤ 8, (0 : Int32).toNatClampNeg + (8 : Int32).toNatClampNeg ≤ 8, ¬ (0 : Int32) < 0, ¬ (0 : Int32) < 0, ¬ (2 : Int32) < 0, (0 : Int32).toNatClampNeg + (2 : Int32).toNatClampNeg ≤ 2, (0 : Int32).toNatClampNeg + (2 : Int32).toNatClampNeg ≤ 2]) (s' := (96, [(0, .ref 22), (1, .ref 3)], [], zh, (zA (zA (zA (zA (zA (zA (zw M 22 0 (M 3 0)) 23 (va_cpy (M 4) (M 23) ((0 : Int32).toNatClampNeg) ((0 : Int32).toNatClampNeg) ((4 : Int32).toNatClampNeg))) 24 (va_cpy (M 5) (M 24) ((0 : Int32).toNatClampNeg) ((0 : Int32).toNatClampNeg) ((12 : Int32).toNatClampNeg))) 25 (va_cpy (M 6) (M 25) ((0 : Int32).toNatClampNeg) ((0 : Int32).toNatClampNeg) ((8 : Int32).toNatClampNeg))) 26 (va_cpy (M 7) (M 26) ((0 : Int32).toNatClampNeg) ((0 : Int32).toNatClampNeg) ((8 : Int32).toNatClampNeg))) 27 (va_cpy (M 8) (M 27) ((0 : Int32).toNatClampNeg) ((0 : Int32).toNatClampNeg) ((8 : Int32).toNatClampNeg))) 28 (va_cpy (M 9) (M 28) ((0 : Int32).toNatClampNeg) ((0 : Int32).toNatClampNeg) ((2 : Int32).toNatClampNeg))))) rfl ⟨(by decide), (by decide), (by decide), (by decide), (by decide), (by decide), (by decide), (by decide), (by decide), (by decide), (by decide), (by decide), (by decide), (by decide), (by decide), (by decide), (by decide), (by decide), (by decide), (by decide), (by decide), (by decide), (by decide), (by decide), (by decide), (by decide), (by decide), (by decide), (by decide), (by decide), trivial⟩ ?_
  cases h
  exact zF_ret rfl trivial
end ZT
