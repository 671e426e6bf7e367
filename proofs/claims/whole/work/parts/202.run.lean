section ZT
noncomputable def qM_stepOf (M : zM) (p_state : Int32) (p_c : Int32) : Option (Int32 × zM) :=
  zb (qM_in p_c.toInt64 48 57) fun x1 =>
  if p_state = 0 then
    (zb (qM_in p_c.toInt64 97 100) fun x2 =>
    if x2 = 0 then
      (some ((-1), M))
    else
      (if (((M 86 17) >>> ((p_c - 97) &&& 31)) &&& 1) = 1 then
        (some ((-1), M))
      else
        (some (1, (zw M 86 17 ((M 86 17) ||| (1 <<< ((p_c - 97) &&& 31))))))))
  else if p_state = 1 then
    (zb (qM_in p_c.toInt64 49 51) fun x3 =>
    if x3 = 0 then
      (some ((-1), M))
    else
      (some (2, M)))
  else if p_state = 2 then
    (if p_c = 60 then
      (some (3, M))
    else
      (some ((-1), M)))
  else if p_state = 3 then
    (if x1 = 0 then
      (some ((-1), M))
    else
      (some (4, M)))
  else if p_state = 6 then
    (if x1 = 0 then
      (some ((-1), M))
    else
      (some (7, M)))
  else 
    (if x1 = 0 then
      (zlj (fun (_ : Unit) =>
        if p_c = 59 then
          (if (M 86 17) = 15 then
            (some ((-1), M))
          else
            (some (0, M)))
        else
          (some ((-1), M))) fun k4 =>
      if p_c = 126 then
        (if p_state < 6 then
          (some (6, M))
        else
          (k4 ()))
      else
        (k4 ()))
    else
      (if p_state = 4 then
        (some ((p_state + 1), M))
      else
        (if p_state = 7 then
          (some ((p_state + 1), M))
        else
          (some ((-1), M)))))
set_option maxRecDepth 20000 in
set_option maxHeartbeats 4000000 in
theorem qM_stepOf_ok {S : zSc} {M : zM} {p_state : Int32} {p_c : Int32} {r : Int32 × zM} (h : qM_stepOf M p_state p_c = some r) : zF S 152 (0, [(0, .ref 86), (1, .int p_state), (2, .int p_c)], [], zh, M) (some (.int r.1)) (r.2) := by
  unfold qM_stepOf at h
  refine zF_go (n := 4) (ps := []) (s' := (8, [(0, .ref 86), (1, .int p_state), (2, .int p_c)], [.long 57, .long 48, .long p_c.toInt64], zh, M)) rfl trivial ?_
  obtain ⟨x1, e5, h⟩ := zb_some h
  refine zF_call (y' := 134) (as := [.long p_c.toInt64, .long 48, .long 57]) (u := (11, [(0, .ref 86), (1, .int p_state), (2, .int p_c)], [], zh, M)) rfl ⟨rfl, rfl⟩ rfl (qM_in_ok (S := S) (M := M) e5) ?_
  show zF S 152 (11, [(0, .ref 86), (1, .int p_state), (2, .int p_c)], [.int x1], zh, M) _ _
  refine zF_go (n := 2) (ps := []) (s' := (13, [(3, .int x1), (0, .ref 86), (1, .int p_state), (2, .int p_c)], [.int p_state], zh, M)) rfl trivial ?_
  by_cases c6 : p_state = 0
  · rw [if_pos c6] at h
    refine zF_sw (t := 56) (lv := [(3, .int x1), (0, .ref 86), (1, .int p_state), (2, .int p_c)]) (st := []) (M := M) rfl (by rw [c6]; rfl) ?_
    refine zF_go (n := 4) (ps := []) (s' := (64, [(3, .int x1), (0, .ref 86), (1, .int p_state), (2, .int p_c)], [.long 100, .long 97, .long p_c.toInt64], zh, M)) rfl trivial ?_
    obtain ⟨x2, e7, h⟩ := zb_some h
    refine zF_call (y' := 134) (as := [.long p_c.toInt64, .long 97, .long 100]) (u := (67, [(3, .int x1), (0, .ref 86), (1, .int p_state), (2, .int p_c)], [], zh, M)) rfl ⟨rfl, rfl⟩ rfl (qM_in_ok (S := S) (M := M) e7) ?_
    show zF S 152 (67, [(3, .int x1), (0, .ref 86), (1, .int p_state), (2, .int p_c)], [.int x2], zh, M) _ _
    refine zF_eq (t := 85) (u := (70, [(3, .int x1), (0, .ref 86), (1, .int p_state), (2, .int p_c)], [], zh, M)) rfl (fun c8 => ?_) (fun c8 => ?_)
    · rw [if_pos c8] at h
      refine zF_go (n := 1) (ps := []) (s' := (86, [], [.int (-1)], zh, M)) rfl trivial ?_
      cases h
      exact zF_ret rfl trivial
    · rw [if_neg c8] at h
      refine zF_go (n := 9) (ps := []) (s' := (82, [(3, .int x1), (0, .ref 86), (1, .int p_state), (2, .int p_c)], [.int 1, .int (((M 86 17) >>> ((p_c - 97) &&& 31)) &&& 1)], zh, M)) rfl trivial ?_
      refine zF_ne (t := 87) (u := (85, [(3, .int x1), (0, .ref 86), (1, .int p_state), (2, .int p_c)], [], zh, M)) rfl (fun c9 => ?_) (fun c9 => ?_)
      · rw [if_neg c9] at h
        refine zF_go (n := 11) (ps := []) (s' := (103, [(3, .int x1), (0, .ref 86), (1, .int p_state), (2, .int p_c)], [.int 1], zh, (zw M 86 17 ((M 86 17) ||| (1 <<< ((p_c - 97) &&& 31)))))) rfl trivial ?_
        cases h
        exact zF_ret rfl trivial
      · rw [if_pos c9] at h
        refine zF_go (n := 1) (ps := []) (s' := (86, [], [.int (-1)], zh, M)) rfl trivial ?_
        cases h
        exact zF_ret rfl trivial
  rw [if_neg c6] at h
  by_cases c10 : p_state = 1
  · rw [if_pos c10] at h
    refine zF_sw (t := 104) (lv := [(3, .int x1), (0, .ref 86), (1, .int p_state), (2, .int p_c)]) (st := []) (M := M) rfl (by rw [c10]; rfl) ?_
    refine zF_go (n := 4) (ps := []) (s' := (112, [(3, .int x1), (0, .ref 86), (1, .int p_state), (2, .int p_c)], [.long 51, .long 49, .long p_c.toInt64], zh, M)) rfl trivial ?_
    obtain ⟨x3, e11, h⟩ := zb_some h
    refine zF_call (y' := 134) (as := [.long p_c.toInt64, .long 49, .long 51]) (u := (115, [(3, .int x1), (0, .ref 86), (1, .int p_state), (2, .int p_c)], [], zh, M)) rfl ⟨rfl, rfl⟩ rfl (qM_in_ok (S := S) (M := M) e11) ?_
    show zF S 152 (115, [(3, .int x1), (0, .ref 86), (1, .int p_state), (2, .int p_c)], [.int x3], zh, M) _ _
    refine zF_eq (t := 122) (u := (118, [(3, .int x1), (0, .ref 86), (1, .int p_state), (2, .int p_c)], [], zh, M)) rfl (fun c12 => ?_) (fun c12 => ?_)
    · rw [if_pos c12] at h
      refine zF_go (n := 1) (ps := []) (s' := (123, [(3, .int x1), (0, .ref 86), (1, .int p_state), (2, .int p_c)], [.int (-1)], zh, M)) rfl trivial ?_
      cases h
      exact zF_ret rfl trivial
    · rw [if_neg c12] at h
      refine zF_go (n := 2) (ps := []) (s' := (123, [(3, .int x1), (0, .ref 86), (1, .int p_state), (2, .int p_c)], [.int 2], zh, M)) rfl trivial ?_
      cases h
      exact zF_ret rfl trivial
  rw [if_neg c10] at h
  by_cases c13 : p_state = 2
  · rw [if_pos c13] at h
    refine zF_sw (t := 124) (lv := [(3, .int x1), (0, .ref 86), (1, .int p_state), (2, .int p_c)]) (st := []) (M := M) rfl (by rw [c13]; rfl) ?_
    refine zF_go (n := 2) (ps := []) (s' := (127, [(3, .int x1), (0, .ref 86), (1, .int p_state), (2, .int p_c)], [.int 60, .int p_c], zh, M)) rfl trivial ?_
    refine zF_ne (t := 134) (u := (130, [(3, .int x1), (0, .ref 86), (1, .int p_state), (2, .int p_c)], [], zh, M)) rfl (fun c14 => ?_) (fun c14 => ?_)
    · rw [if_neg c14] at h
      refine zF_go (n := 1) (ps := []) (s' := (135, [(3, .int x1), (0, .ref 86), (1, .int p_state), (2, .int p_c)], [.int (-1)], zh, M)) rfl trivial ?_
      cases h
      exact zF_ret rfl trivial
    · rw [if_pos c14] at h
      refine zF_go (n := 2) (ps := []) (s' := (135, [(3, .int x1), (0, .ref 86), (1, .int p_state), (2, .int p_c)], [.int 3], zh, M)) rfl trivial ?_
      cases h
      exact zF_ret rfl trivial
  rw [if_neg c13] at h
  by_cases c15 : p_state = 3
  · rw [if_pos c15] at h
    refine zF_sw (t := 136) (lv := [(3, .int x1), (0, .ref 86), (1, .int p_state), (2, .int p_c)]) (st := []) (M := M) rfl (by rw [c15]; rfl) ?_
    refine zF_go (n := 1) (ps := []) (s' := (137, [(3, .int x1), (0, .ref 86), (1, .int p_state), (2, .int p_c)], [.int x1], zh, M)) rfl trivial ?_
    refine zF_eq (t := 144) (u := (140, [(3, .int x1), (0, .ref 86), (1, .int p_state), (2, .int p_c)], [], zh, M)) rfl (fun c16 => ?_) (fun c16 => ?_)
    · rw [if_pos c16] at h
      refine zF_go (n := 1) (ps := []) (s' := (145, [(3, .int x1), (0, .ref 86), (1, .int p_state), (2, .int p_c)], [.int (-1)], zh, M)) rfl trivial ?_
      cases h
      exact zF_ret rfl trivial
    · rw [if_neg c16] at h
      refine zF_go (n := 2) (ps := []) (s' := (145, [(3, .int x1), (0, .ref 86), (1, .int p_state), (2, .int p_c)], [.int 4], zh, M)) rfl trivial ?_
      cases h
      exact zF_ret rfl trivial
  rw [if_neg c15] at h
  by_cases c17 : p_state = 6
  · rw [if_pos c17] at h
    refine zF_sw (t := 146) (lv := [(3, .int x1), (0, .ref 86), (1, .int p_state), (2, .int p_c)]) (st := []) (M := M) rfl (by rw [c17]; rfl) ?_
    refine zF_go (n := 1) (ps := []) (s' := (147, [(3, .int x1), (0, .ref 86), (1, .int p_state), (2, .int p_c)], [.int x1], zh, M)) rfl trivial ?_
    refine zF_eq (t := 155) (u := (150, [(3, .int x1), (0, .ref 86), (1, .int p_state), (2, .int p_c)], [], zh, M)) rfl (fun c18 => ?_) (fun c18 => ?_)
    · rw [if_pos c18] at h
      refine zF_go (n := 1) (ps := []) (s' := (156, [(3, .int x1), (0, .ref 86), (1, .int p_state), (2, .int p_c)], [.int (-1)], zh, M)) rfl trivial ?_
      cases h
      exact zF_ret rfl trivial
    · rw [if_neg c18] at h
      refine zF_go (n := 2) (ps := []) (s' := (156, [(3, .int x1), (0, .ref 86), (1, .int p_state), (2, .int p_c)], [.int 7], zh, M)) rfl trivial ?_
      cases h
      exact zF_ret rfl trivial
  rw [if_neg c17] at h
  refine zF_sw (t := 157) (lv := [(3, .int x1), (0, .ref 86), (1, .int p_state), (2, .int p_c)]) (st := []) (M := M) rfl (ztab_d (fun j hj => match j, hj with | 0, _ => Or.inr (lv_neT c6 (show (0 : Int32).toInt = (0 : Int) + ((0 : Nat) : Int) from rfl)) | 1, _ => Or.inr (lv_neT c10 (show (1 : Int32).toInt = (0 : Int) + ((1 : Nat) : Int) from rfl)) | 2, _ => Or.inr (lv_neT c13 (show (2 : Int32).toInt = (0 : Int) + ((2 : Nat) : Int) from rfl)) | 3, _ => Or.inr (lv_neT c15 (show (3 : Int32).toInt = (0 : Int) + ((3 : Nat) : Int) from rfl)) | 4, _ => Or.inl rfl | 5, _ => Or.inl rfl | 6, _ => Or.inr (lv_neT c17 (show (6 : Int32).toInt = (0 : Int) + ((6 : Nat) : Int) from rfl)) | j + 7, hj => absurd hj (Nat.not_lt.mpr (Nat.le_add_left 7 j)))) ?_
  refine zF_go (n := 1) (ps := []) (s' := (158, [(3, .int x1), (0, .ref 86), (1, .int p_state), (2, .int p_c)], [.int x1], zh, M)) rfl trivial ?_
  refine zF_eq (t := 180) (u := (161, [(3, .int x1), (0, .ref 86), (1, .int p_state), (2, .int p_c)], [], zh, M)) rfl (fun c19 => ?_) (fun c19 => ?_)
  · rw [if_pos c19] at h
    refine zF_go (n := 2) (ps := []) (s' := (183, [(3, .int x1), (0, .ref 86), (1, .int p_state), (2, .int p_c)], [.int 126, .int p_c], zh, M)) rfl trivial ?_
    refine zlj_e h (fun k => ∀ (_ : Unit) r, k () = some r → zF S 152 (197, [(0, .ref 86), (2, .int p_c)], [], zh, M) (some (.int r.1)) (r.2)) ?_ ?_
    · intro _ r h
      try dsimp only at h
      refine zF_go (n := 2) (ps := []) (s' := (200, [(0, .ref 86), (2, .int p_c)], [.int 59, .int p_c], zh, M)) rfl trivial ?_
      refine zF_ne (t := 216) (u := (203, [(0, .ref 86), (2, .int p_c)], [], zh, M)) rfl (fun c20 => ?_) (fun c20 => ?_)
      · rw [if_neg c20] at h
        refine zF_go (n := 1) (ps := []) (s' := (217, [], [.int (-1)], zh, M)) rfl trivial ?_
        cases h
        exact zF_ret rfl trivial
      · rw [if_pos c20] at h
        refine zF_go (n := 3) (ps := []) (s' := (209, [(0, .ref 86), (2, .int p_c)], [.int 15, .int (M 86 17)], zh, M)) rfl trivial ?_
        refine zF_eq (t := 216) (u := (212, [(0, .ref 86), (2, .int p_c)], [], zh, M)) rfl (fun c21 => ?_) (fun c21 => ?_)
        · rw [if_pos c21] at h
          refine zF_go (n := 1) (ps := []) (s' := (217, [], [.int (-1)], zh, M)) rfl trivial ?_
          cases h
          exact zF_ret rfl trivial
        · rw [if_neg c21] at h
          refine zF_go (n := 2) (ps := []) (s' := (217, [(0, .ref 86), (2, .int p_c)], [.int 0], zh, M)) rfl trivial ?_
          cases h
          exact zF_ret rfl trivial
    · intro k4 hk4 h
      try dsimp only at h
      refine zF_ne (t := 197) (u := (186, [(3, .int x1), (0, .ref 86), (1, .int p_state), (2, .int p_c)], [], zh, M)) rfl (fun c22 => ?_) (fun c22 => ?_)
      · rw [if_neg c22] at h
        exact zF_as (hk4 () _ h) rfl
      · rw [if_pos c22] at h
        refine zF_go (n := 2) (ps := []) (s' := (189, [(3, .int x1), (0, .ref 86), (1, .int p_state), (2, .int p_c)], [.int 6, .int p_state], zh, M)) rfl trivial ?_
        refine zF_ge (t := 197) (u := (192, [(3, .int x1), (0, .ref 86), (1, .int p_state), (2, .int p_c)], [], zh, M)) rfl (fun c23 => ?_) (fun c23 => ?_)
        · rw [if_neg c23] at h
          exact zF_as (hk4 () _ h) rfl
        · rw [if_pos c23] at h
          refine zF_go (n := 2) (ps := []) (s' := (217, [(3, .int x1), (0, .ref 86), (1, .int p_state), (2, .int p_c)], [.int 6], zh, M)) rfl trivial ?_
          cases h
          exact zF_ret rfl trivial
  · rw [if_neg c19] at h
    refine zF_go (n := 2) (ps := []) (s' := (163, [(3, .int x1), (0, .ref 86), (1, .int p_state), (2, .int p_c)], [.int 4, .int p_state], zh, M)) rfl trivial ?_
    refine zF_eq (t := 172) (u := (166, [(3, .int x1), (0, .ref 86), (1, .int p_state), (2, .int p_c)], [], zh, M)) rfl (fun c24 => ?_) (fun c24 => ?_)
    · rw [if_pos c24] at h
      refine zF_go (n := 4) (ps := []) (s' := (179, [(1, .int p_state)], [.int (p_state + 1)], zh, M)) rfl trivial ?_
      cases h
      exact zF_ret rfl trivial
    · rw [if_neg c24] at h
      refine zF_go (n := 2) (ps := []) (s' := (169, [(3, .int x1), (0, .ref 86), (1, .int p_state), (2, .int p_c)], [.int 7, .int p_state], zh, M)) rfl trivial ?_
      refine zF_ne (t := 178) (u := (172, [(3, .int x1), (0, .ref 86), (1, .int p_state), (2, .int p_c)], [], zh, M)) rfl (fun c25 => ?_) (fun c25 => ?_)
      · rw [if_neg c25] at h
        refine zF_go (n := 1) (ps := []) (s' := (179, [(3, .int x1), (0, .ref 86), (1, .int p_state), (2, .int p_c)], [.int (-1)], zh, M)) rfl trivial ?_
        cases h
        exact zF_ret rfl trivial
      · rw [if_pos c25] at h
        refine zF_go (n := 4) (ps := []) (s' := (179, [(1, .int p_state)], [.int (p_state + 1)], zh, M)) rfl trivial ?_
        cases h
        exact zF_ret rfl trivial
noncomputable def qM_fault_L9 (rec4 : (Int32 × Int32 × zM) → Option (Int32 × zM)) (v : Int32 × Int32 × zM) : Option (Int32 × zM) := match v with
  | (v1_1, v2_2, M3) =>
    if v2_2 < (M3 86 16) then
      (zq (vp_in v2_2 40) <| zb2 (qM_stepOf M3 v1_1 (M3 100 v2_2.toNatClampNeg)) fun x5 M6 =>
      if x5 < 0 then
        (some (v2_2, M6))
      else
        (rec4 (x5, (v2_2 + 1), M6)))
    else
      (if v1_1 = 4 then
        (some ((-6), M3))
      else
        (if v1_1 = 5 then
          (some ((-6), M3))
        else
          (if v1_1 = 7 then
            (some ((-6), M3))
          else
            (if v1_1 = 8 then
              (some ((-6), M3))
            else
              (some ((M3 86 16), M3))))))
noncomputable def qM_fault (M : zM) : Option (Int32 × zM) :=
  zlp (qM_fault_L9) zfu (0, 0, (zw M 86 17 0))
set_option maxRecDepth 20000 in
set_option maxHeartbeats 4000000 in
theorem qM_fault_ok {S : zSc} {M : zM} {r : Int32 × zM} (h : qM_fault M = some r) : zF S 153 (0, [(0, .ref 86)], [], zh, M) (some (.int r.1)) (r.2) := by
  unfold qM_fault at h
  refine zF_go (n := 7) (ps := []) (s' := (9, [(2, .int 0), (1, .int 0), (0, .ref 86)], [], zh, (zw M 86 17 0))) rfl trivial ?_
  refine zF_same (s' := (9, [(0, .ref 86), (1, .int 0), (2, .int 0)], [], zh, (zw M 86 17 0))) rfl ?_
  refine zlp_ind (P := fun (v : Int32 × Int32 × zM) r => zF S 153 (9, [(0, .ref 86), (1, .int v.1), (2, .int v.2.1)], [], zh, v.2.2) (some (.int r.1)) (r.2)) ?_ _ _ _ h
  intro rec4 hrec4 v r h
  obtain ⟨v1_1, v2_2, M3⟩ := v
  unfold qM_fault_L9 at h
  dsimp only at h
  show zF S 153 (9, [(0, .ref 86), (1, .int v1_1), (2, .int v2_2)], [], zh, M3) _ _
  refine zF_go (n := 3) (ps := []) (s' := (14, [(0, .ref 86), (1, .int v1_1), (2, .int v2_2)], [.int (M3 86 16), .int v2_2], zh, M3)) rfl trivial ?_
  refine zF_ge (t := 41) (u := (17, [(0, .ref 86), (1, .int v1_1), (2, .int v2_2)], [], zh, M3)) rfl (fun c7 => ?_) (fun c7 => ?_)
  · rw [if_neg c7] at h
    refine zF_go (n := 2) (ps := []) (s' := (43, [(0, .ref 86), (1, .int v1_1), (2, .int v2_2)], [.int 4, .int v1_1], zh, M3)) rfl trivial ?_
    refine zF_eq (t := 63) (u := (46, [(0, .ref 86), (1, .int v1_1), (2, .int v2_2)], [], zh, M3)) rfl (fun c8 => ?_) (fun c8 => ?_)
    · rw [if_pos c8] at h
      refine zF_go (n := 2) (ps := []) (s' := (72, [], [.int (-6)], zh, M3)) rfl trivial ?_
      cases h
      exact zF_ret rfl trivial
    · rw [if_neg c8] at h
      refine zF_go (n := 2) (ps := []) (s' := (48, [(0, .ref 86), (1, .int v1_1), (2, .int v2_2)], [.int 5, .int v1_1], zh, M3)) rfl trivial ?_
      refine zF_eq (t := 63) (u := (51, [(0, .ref 86), (1, .int v1_1), (2, .int v2_2)], [], zh, M3)) rfl (fun c9 => ?_) (fun c9 => ?_)
      · rw [if_pos c9] at h
        refine zF_go (n := 2) (ps := []) (s' := (72, [], [.int (-6)], zh, M3)) rfl trivial ?_
        cases h
        exact zF_ret rfl trivial
      · rw [if_neg c9] at h
        refine zF_go (n := 2) (ps := []) (s' := (54, [(0, .ref 86), (1, .int v1_1), (2, .int v2_2)], [.int 7, .int v1_1], zh, M3)) rfl trivial ?_
        refine zF_eq (t := 63) (u := (57, [(0, .ref 86), (1, .int v1_1), (2, .int v2_2)], [], zh, M3)) rfl (fun c10 => ?_) (fun c10 => ?_)
        · rw [if_pos c10] at h
          refine zF_go (n := 2) (ps := []) (s' := (72, [], [.int (-6)], zh, M3)) rfl trivial ?_
          cases h
          exact zF_ret rfl trivial
        · rw [if_neg c10] at h
          refine zF_go (n := 2) (ps := []) (s' := (60, [(0, .ref 86), (1, .int v1_1), (2, .int v2_2)], [.int 8, .int v1_1], zh, M3)) rfl trivial ?_
          refine zF_ne (t := 68) (u := (63, [(0, .ref 86), (1, .int v1_1), (2, .int v2_2)], [], zh, M3)) rfl (fun c11 => ?_) (fun c11 => ?_)
          · rw [if_neg c11] at h
            refine zF_go (n := 2) (ps := []) (s' := (72, [(0, .ref 86), (1, .int v1_1), (2, .int v2_2)], [.int (M3 86 16)], zh, M3)) rfl trivial ?_
            cases h
            exact zF_ret rfl trivial
          · rw [if_pos c11] at h
            refine zF_go (n := 2) (ps := []) (s' := (72, [], [.int (-6)], zh, M3)) rfl trivial ?_
            cases h
            exact zF_ret rfl trivial
  · rw [if_pos c7] at h
    obtain ⟨g12, h⟩ := zq_some h
    refine zF_go (n := 6) (ps := [vp_in v2_2 40]) (s' := (25, [(0, .ref 86), (1, .int v1_1), (2, .int v2_2)], [.int (M3 100 v2_2.toNatClampNeg), .int v1_1, .ref 86], zh, M3)) rfl ⟨g12, trivial⟩ ?_
    obtain ⟨x5, M6, e13, h⟩ := zb2_some h
    refine zF_call (y' := 152) (as := [.ref 86, .int v1_1, .int (M3 100 v2_2.toNatClampNeg)]) (u := (28, [(0, .ref 86), (1, .int v1_1), (2, .int v2_2)], [], zh, M3)) rfl ⟨rfl, rfl⟩ rfl (qM_stepOf_ok (S := S) (M := M3) e13) ?_
    show zF S 153 (28, [(0, .ref 86), (1, .int v1_1), (2, .int v2_2)], [.int x5], zh, M6) _ _
    refine zF_go (n := 2) (ps := []) (s' := (30, [(1, .int x5), (0, .ref 86), (2, .int v2_2)], [.int x5], zh, M6)) rfl trivial ?_
    refine zF_ge (t := 35) (u := (33, [(1, .int x5), (0, .ref 86), (2, .int v2_2)], [], zh, M6)) rfl (fun c14 => ?_) (fun c14 => ?_)
    · rw [if_neg c14] at h
      refine zF_go (n := 2) (ps := []) (s' := (9, [(2, .int (v2_2 + 1)), (1, .int x5), (0, .ref 86)], [], zh, M6)) rfl trivial ?_
      exact zF_as (hrec4 _ _ h) rfl
    · rw [if_pos c14] at h
      refine zF_go (n := 1) (ps := []) (s' := (34, [(1, .int x5), (0, .ref 86), (2, .int v2_2)], [.int v2_2], zh, M6)) rfl trivial ?_
      cases h
      exact zF_ret rfl trivial
noncomputable def qA_writeTo (M : zM) (p_sort : Int32) : Option (zM) :=
  zq (¬ ((p_sort * 4) : Int32) < 0) <| zq ((p_sort * 4).toNatClampNeg + (4 : Int32).toNatClampNeg ≤ 20) <| zq (¬ ((p_sort * 4) : Int32) < 0) <| zq ((p_sort * 4).toNatClampNeg + (4 : Int32).toNatClampNeg ≤ 20) <| zq (¬ ((p_sort * 4) : Int32) < 0) <| zq ((p_sort * 4).toNatClampNeg + (4 : Int32).toNatClampNeg ≤ 20) <| some (zA (zA (zA M 15 (va_cpy (M 60) (M 15) ((0 : Int32).toNatClampNeg) ((p_sort * 4).toNatClampNeg) ((4 : Int32).toNatClampNeg))) 16 (va_cpy (M 61) (M 16) ((0 : Int32).toNatClampNeg) ((p_sort * 4).toNatClampNeg) ((4 : Int32).toNatClampNeg))) 17 (va_cpy (M 62) (M 17) ((0 : Int32).toNatClampNeg) ((p_sort * 4).toNatClampNeg) ((4 : Int32).toNatClampNeg)))
set_option maxRecDepth 20000 in
set_option maxHeartbeats 4000000 in
theorem qA_writeTo_ok {S : zSc} {M : zM} {p_sort : Int32} {r : zM} (h : qA_writeTo M p_sort = some r) : zF S 30 (0, [(0, .ref 58), (1, .ref 10), (2, .int p_sort)], [], zh, M) (none) (r) := by
  unfold qA_writeTo at h
  obtain ⟨g1, h⟩ := zq_some h
  obtain ⟨g2, h⟩ := zq_some h
  obtain ⟨g3, h⟩ := zq_some h
  obtain ⟨g4, h⟩ := zq_some h
  obtain ⟨g5, h⟩ := zq_some h
  obtain ⟨g6, h⟩ := zq_some h
  refine zF_go (n := 30) (ps := [¬ (0 : Int32) < 0, ¬ ((p_sort * 4) : Int32) < 0, ¬ (4 : Int32) < 0, (0 : Int32).toNatClampNeg + (4 : Int32).toNatClampNeg ≤ 4, (p_sort * 4).toNatClampNeg + (4 : Int32).toNatClampNeg ≤ 20, ¬ (0 : Int32) < 0, ¬ ((p_sort * 4) : Int32) < 0, ¬ (4 : Int32) < 0, (0 : Int32).toNatClampNeg + (4 : Int32).toNatClampNeg ≤ 4, (p_sort * 4).toNatClampNeg + (4 : Int32).toNatClampNeg ≤ 20, ¬ (0 : Int32) < 0, ¬ ((p_sort * 4) : Int32) < 0, ¬ (4 : Int32) < 0, (0 : Int32).toNatClampNeg + (4 : Int32).toNatClampNeg ≤ 4, (p_sort * 4).toNatClampNeg + (4 : Int32).toNatClampNeg ≤ 20]) (s' := (48, [(0, .ref 58), (1, .ref 10), (2, .int p_sort)], [], zh, (zA (zA (zA M 15 (va_cpy (M 60) (M 15) ((0 : Int32).toNatClampNeg) ((p_sort * 4).toNatClampNeg) ((4 : Int32).toNatClampNeg))) 16 (va_cpy (M 61) (M 16) ((0 : Int32).toNatClampNeg) ((p_sort * 4).toNatClampNeg) ((4 : Int32).toNatClampNeg))) 17 (va_cpy (M 62) (M 17) ((0 : Int32).toNatClampNeg) ((p_sort * 4).toNatClampNeg) ((4 : Int32).toNatClampNeg))))) rfl ⟨(by decide), g1, (by decide), (by decide), g2, (by decide), g3, (by decide), (by decide), g4, (by decide), g5, (by decide), (by decide), g6, trivial⟩ ?_
  cases h
  exact zF_ret rfl trivial
noncomputable def qS_list (M : zM) (p_sort : Int32) : Option (Int32 × zM) :=
  zb (qS_noSort M p_sort) fun x1 =>
  if x1 = 0 then
    (zb2 (qA_read M) fun x2 M3 =>
    if x2 = (-6) then
      (zb (qD_forget M3) fun M4 =>
      zb (qA_writeTo M4 p_sort) fun M5 =>
      zb2 (qA_clear M5) fun x6 M7 =>
      some ((M7 58 1), M7))
    else
      (some ((-5), M3)))
  else
    (some ((-1), M))
set_option maxRecDepth 20000 in
set_option maxHeartbeats 4000000 in
theorem qS_list_ok {S : zSc} {M : zM} {p_sort : Int32} {r : Int32 × zM} (h : qS_list M p_sort = some r) : zF S 96 (0, [(0, .ref 1), (1, .int p_sort)], [], zh, M) (some (.int r.1)) (r.2) := by
  unfold qS_list at h
  refine zF_go (n := 2) (ps := []) (s' := (2, [(0, .ref 1), (1, .int p_sort)], [.int p_sort, .ref 1], zh, M)) rfl trivial ?_
  obtain ⟨x1, e8, h⟩ := zb_some h
  refine zF_call (y' := 129) (as := [.ref 1, .int p_sort]) (u := (5, [(0, .ref 1), (1, .int p_sort)], [], zh, M)) rfl ⟨rfl, rfl⟩ rfl (qS_noSort_ok (S := S) (M := M) e8) ?_
  show zF S 96 (5, [(0, .ref 1), (1, .int p_sort)], [.int x1], zh, M) _ _
  refine zF_eq (t := 10) (u := (8, [(0, .ref 1), (1, .int p_sort)], [], zh, M)) rfl (fun c9 => ?_) (fun c9 => ?_)
  · rw [if_pos c9] at h
    refine zF_go (n := 2) (ps := []) (s' := (14, [(0, .ref 1), (1, .int p_sort)], [.ref 58], zh, M)) rfl trivial ?_
    obtain ⟨x2, M3, e10, h⟩ := zb2_some h
    refine zF_call (y' := 29) (as := [.ref 58]) (u := (17, [(0, .ref 1), (1, .int p_sort)], [], zh, M)) rfl ⟨rfl, rfl⟩ rfl (qA_read_ok (S := S) (M := M) e10) ?_
    show zF S 96 (17, [(0, .ref 1), (1, .int p_sort)], [.int x2], zh, M3) _ _
    refine zF_go (n := 1) (ps := []) (s' := (19, [(0, .ref 1), (1, .int p_sort)], [.int (-6), .int x2], zh, M3)) rfl trivial ?_
    refine zF_eq (t := 25) (u := (22, [(0, .ref 1), (1, .int p_sort)], [], zh, M3)) rfl (fun c11 => ?_) (fun c11 => ?_)
    · rw [if_pos c11] at h
      refine zF_go (n := 2) (ps := []) (s' := (29, [(0, .ref 1), (1, .int p_sort)], [.ref 78], zh, M3)) rfl trivial ?_
      obtain ⟨M4, e12, h⟩ := zb_some h
      refine zF_call (y' := 1) (as := [.ref 78]) (u := (32, [(0, .ref 1), (1, .int p_sort)], [], zh, M3)) rfl ⟨rfl, rfl⟩ rfl (qD_forget_ok (S := S) (M := M3) e12) ?_
      show zF S 96 (32, [(0, .ref 1), (1, .int p_sort)], [], zh, M4) _ _
      refine zF_go (n := 6) (ps := []) (s' := (44, [(0, .ref 1), (1, .int p_sort)], [.int p_sort, .ref 10, .ref 58], zh, M4)) rfl trivial ?_
      obtain ⟨M5, e13, h⟩ := zb_some h
      refine zF_call (y' := 30) (as := [.ref 58, .ref 10, .int p_sort]) (u := (47, [(0, .ref 1), (1, .int p_sort)], [], zh, M4)) rfl ⟨rfl, rfl⟩ rfl (qA_writeTo_ok (S := S) (M := M4) e13) ?_
      show zF S 96 (47, [(0, .ref 1), (1, .int p_sort)], [], zh, M5) _ _
      refine zF_go (n := 2) (ps := []) (s' := (51, [(0, .ref 1), (1, .int p_sort)], [.ref 58], zh, M5)) rfl trivial ?_
      obtain ⟨x6, M7, e14, h⟩ := zb2_some h
      refine zF_call (y' := 28) (as := [.ref 58]) (u := (54, [(0, .ref 1), (1, .int p_sort)], [], zh, M5)) rfl ⟨rfl, rfl⟩ rfl (qA_clear_ok (S := S) (M := M5) e14) ?_
      show zF S 96 (54, [(0, .ref 1), (1, .int p_sort)], [.int x6], zh, M7) _ _
      refine zF_go (n := 4) (ps := []) (s' := (62, [(0, .ref 1), (1, .int p_sort)], [.int (M7 58 1)], zh, M7)) rfl trivial ?_
      cases h
      exact zF_ret rfl trivial
    · rw [if_neg c11] at h
      refine zF_go (n := 1) (ps := []) (s' := (24, [(0, .ref 1), (1, .int p_sort)], [.int (-5)], zh, M3)) rfl trivial ?_
      cases h
      exact zF_ret rfl trivial
  · rw [if_neg c9] at h
    refine zF_go (n := 1) (ps := []) (s' := (9, [(0, .ref 1), (1, .int p_sort)], [.int (-1)], zh, M)) rfl trivial ?_
    cases h
    exact zF_ret rfl trivial
noncomputable def qM_list_L40 (p_sort : Int32) (rec10 : (Int32 × Int32 × Int32 × Int32 × zM) → Option (Int32 × zM)) (v : Int32 × Int32 × Int32 × Int32 × zM) : Option (Int32 × zM) := match v with
  | (v2_5, v3_6, v4_7, v5_8, M9) =>
    if v5_8 < (M9 86 16) then
      (zq (vp_in v5_8 40) <| zb2 (qM_stepOf M9 v2_5 (M9 100 v5_8.toNatClampNeg)) fun x11 M12 =>
      if x11 = 1 then
        (zq (vp_in (((4 * p_sort) + (M9 100 v5_8.toNatClampNeg)) - 97) 20) <| zq (vp_in (((4 * p_sort) + (M9 100 v5_8.toNatClampNeg)) - 97) 20) <| rec10 (x11, (((4 * p_sort) + (M9 100 v5_8.toNatClampNeg)) - 97), (v4_7 + 1), (v5_8 + 1), (zw (zw M12 98 (((4 * p_sort) + (M9 100 v5_8.toNatClampNeg)) - 97).toNatClampNeg 0) 99 (((4 * p_sort) + (M9 100 v5_8.toNatClampNeg)) - 97).toNatClampNeg (-6))))
      else if x11 = 2 then
        (zq (vp_in v3_6 20) <| rec10 (x11, v3_6, v4_7, (v5_8 + 1), (zw M12 97 v3_6.toNatClampNeg ((M9 100 v5_8.toNatClampNeg) - 48))))
      else if x11 = 4 then
        (zq (vp_in v3_6 20) <| zq (vp_in v3_6 20) <| rec10 (x11, v3_6, v4_7, (v5_8 + 1), (zw M12 98 v3_6.toNatClampNeg (((10 * (M12 98 v3_6.toNatClampNeg)) + (M9 100 v5_8.toNatClampNeg)) - 48))))
      else if x11 = 5 then
        (zq (vp_in v3_6 20) <| zq (vp_in v3_6 20) <| rec10 (x11, v3_6, v4_7, (v5_8 + 1), (zw M12 98 v3_6.toNatClampNeg (((10 * (M12 98 v3_6.toNatClampNeg)) + (M9 100 v5_8.toNatClampNeg)) - 48))))
      else if x11 = 7 then
        (zq (vp_in v3_6 20) <| rec10 (x11, v3_6, v4_7, (v5_8 + 1), (zw M12 99 v3_6.toNatClampNeg ((M9 100 v5_8.toNatClampNeg) - 48))))
      else if x11 = 8 then
        (zq (vp_in v3_6 20) <| zq (vp_in v3_6 20) <| rec10 (x11, v3_6, v4_7, (v5_8 + 1), (zw M12 99 v3_6.toNatClampNeg (((10 * (M12 99 v3_6.toNatClampNeg)) + (M9 100 v5_8.toNatClampNeg)) - 48))))
      else 
        (rec10 (x11, v3_6, v4_7, (v5_8 + 1), M12)))
    else
      (some (v4_7, (zw M9 86 16 0)))
noncomputable def qM_list (M : zM) (p_sort : Int32) : Option (Int32 × zM) :=
  zb (qM_isSort M p_sort) fun x1 =>
  if x1 = 0 then
    (some ((-1), M))
  else
    (zb2 (qM_fault M) fun x2 M3 =>
    if x2 < 0 then
      (zb (qM_clearList M3 p_sort) fun M4 =>
      zlp (qM_list_L40 p_sort) zfu (0, 0, 0, 0, (zw M4 86 17 0)))
    else
      (some ((-5), M3)))
set_option maxRecDepth 20000 in
set_option maxHeartbeats 4000000 in
theorem qM_list_ok {S : zSc} {M : zM} {p_sort : Int32} {r : Int32 × zM} (h : qM_list M p_sort = some r) : zF S 154 (0, [(0, .ref 86), (1, .int p_sort)], [], zh, M) (some (.int r.1)) (r.2) := by
  unfold qM_list at h
  refine zF_go (n := 2) (ps := []) (s' := (2, [(0, .ref 86), (1, .int p_sort)], [.int p_sort, .ref 86], zh, M)) rfl trivial ?_
  obtain ⟨x1, e13, h⟩ := zb_some h
  refine zF_call (y' := 146) (as := [.ref 86, .int p_sort]) (u := (5, [(0, .ref 86), (1, .int p_sort)], [], zh, M)) rfl ⟨rfl, rfl⟩ rfl (qM_isSort_ok (S := S) (M := M) e13) ?_
  show zF S 154 (5, [(0, .ref 86), (1, .int p_sort)], [.int x1], zh, M) _ _
  refine zF_ne (t := 10) (u := (8, [(0, .ref 86), (1, .int p_sort)], [], zh, M)) rfl (fun c14 => ?_) (fun c14 => ?_)
  · rw [if_neg c14] at h
    refine zF_go (n := 1) (ps := []) (s' := (11, [(0, .ref 86), (1, .int p_sort)], [.ref 86], zh, M)) rfl trivial ?_
    obtain ⟨x2, M3, e15, h⟩ := zb2_some h
    refine zF_call (y' := 153) (as := [.ref 86]) (u := (14, [(0, .ref 86), (1, .int p_sort)], [], zh, M)) rfl ⟨rfl, rfl⟩ rfl (qM_fault_ok (S := S) (M := M) e15) ?_
    show zF S 154 (14, [(0, .ref 86), (1, .int p_sort)], [.int x2], zh, M3) _ _
    refine zF_lt (t := 20) (u := (17, [(0, .ref 86), (1, .int p_sort)], [], zh, M3)) rfl (fun c16 => ?_) (fun c16 => ?_)
    · rw [if_pos c16] at h
      refine zF_go (n := 2) (ps := []) (s' := (22, [(0, .ref 86), (1, .int p_sort)], [.int p_sort, .ref 86], zh, M3)) rfl trivial ?_
      obtain ⟨M4, e17, h⟩ := zb_some h
      refine zF_call (y' := 147) (as := [.ref 86, .int p_sort]) (u := (25, [(0, .ref 86), (1, .int p_sort)], [], zh, M3)) rfl ⟨rfl, rfl⟩ rfl (qM_clearList_ok (S := S) (M := M3) e17) ?_
      show zF S 154 (25, [(0, .ref 86), (1, .int p_sort)], [], zh, M4) _ _
      refine zF_go (n := 11) (ps := []) (s' := (40, [(5, .int 0), (4, .int 0), (3, .int 0), (2, .int 0), (0, .ref 86), (1, .int p_sort)], [], zh, (zw M4 86 17 0))) rfl trivial ?_
      refine zF_same (s' := (40, [(0, .ref 86), (1, .int p_sort), (2, .int 0), (3, .int 0), (4, .int 0), (5, .int 0)], [], zh, (zw M4 86 17 0))) rfl ?_
      refine zlp_ind (P := fun (v : Int32 × Int32 × Int32 × Int32 × zM) r => zF S 154 (40, [(0, .ref 86), (1, .int p_sort), (2, .int v.1), (3, .int v.2.1), (4, .int v.2.2.1), (5, .int v.2.2.2.1)], [], zh, v.2.2.2.2) (some (.int r.1)) (r.2)) ?_ _ _ _ h
      intro rec10 hrec10 v r h
      obtain ⟨v2_5, v3_6, v4_7, v5_8, M9⟩ := v
      unfold qM_list_L40 at h
      dsimp only at h
      show zF S 154 (40, [(0, .ref 86), (1, .int p_sort), (2, .int v2_5), (3, .int v3_6), (4, .int v4_7), (5, .int v5_8)], [], zh, M9) _ _
      refine zF_go (n := 3) (ps := []) (s' := (46, [(0, .ref 86), (1, .int p_sort), (2, .int v2_5), (3, .int v3_6), (4, .int v4_7), (5, .int v5_8)], [.int (M9 86 16), .int v5_8], zh, M9)) rfl trivial ?_
      refine zF_ge (t := 225) (u := (49, [(0, .ref 86), (1, .int p_sort), (2, .int v2_5), (3, .int v3_6), (4, .int v4_7), (5, .int v5_8)], [], zh, M9)) rfl (fun c18 => ?_) (fun c18 => ?_)
      · rw [if_neg c18] at h
        refine zF_go (n := 4) (ps := []) (s' := (232, [(0, .ref 86), (1, .int p_sort), (2, .int v2_5), (3, .int v3_6), (4, .int v4_7), (5, .int v5_8)], [.int v4_7], zh, (zw M9 86 16 0))) rfl trivial ?_
        cases h
        exact zF_ret rfl trivial
      · rw [if_pos c18] at h
        obtain ⟨g19, h⟩ := zq_some h
        refine zF_go (n := 8) (ps := [vp_in v5_8 40]) (s' := (62, [(6, .int (M9 100 v5_8.toNatClampNeg)), (0, .ref 86), (1, .int p_sort), (2, .int v2_5), (3, .int v3_6), (4, .int v4_7), (5, .int v5_8)], [.int (M9 100 v5_8.toNatClampNeg), .int v2_5, .ref 86], zh, M9)) rfl ⟨g19, trivial⟩ ?_
        obtain ⟨x11, M12, e20, h⟩ := zb2_some h
        refine zF_call (y' := 152) (as := [.ref 86, .int v2_5, .int (M9 100 v5_8.toNatClampNeg)]) (u := (65, [(6, .int (M9 100 v5_8.toNatClampNeg)), (0, .ref 86), (1, .int p_sort), (2, .int v2_5), (3, .int v3_6), (4, .int v4_7), (5, .int v5_8)], [], zh, M9)) rfl ⟨rfl, rfl⟩ rfl (qM_stepOf_ok (S := S) (M := M9) e20) ?_
        show zF S 154 (65, [(6, .int (M9 100 v5_8.toNatClampNeg)), (0, .ref 86), (1, .int p_sort), (2, .int v2_5), (3, .int v3_6), (4, .int v4_7), (5, .int v5_8)], [.int x11], zh, M12) _ _
        refine zF_go (n := 2) (ps := []) (s' := (67, [(2, .int x11), (6, .int (M9 100 v5_8.toNatClampNeg)), (0, .ref 86), (1, .int p_sort), (3, .int v3_6), (4, .int v4_7), (5, .int v5_8)], [.int x11], zh, M12)) rfl trivial ?_
        by_cases c21 : x11 = 1
        · rw [if_pos c21] at h
          refine zF_sw (t := 112) (lv := [(2, .int x11), (6, .int (M9 100 v5_8.toNatClampNeg)), (0, .ref 86), (1, .int p_sort), (3, .int v3_6), (4, .int v4_7), (5, .int v5_8)]) (st := []) (M := M12) rfl (by rw [c21]; rfl) ?_
          obtain ⟨g22, h⟩ := zq_some h
          obtain ⟨g23, h⟩ := zq_some h
          refine zF_go (n := 20) (ps := [vp_in (((4 * p_sort) + (M9 100 v5_8.toNatClampNeg)) - 97) 20, vp_in (((4 * p_sort) + (M9 100 v5_8.toNatClampNeg)) - 97) 20]) (s' := (219, [(4, .int (v4_7 + 1)), (3, .int (((4 * p_sort) + (M9 100 v5_8.toNatClampNeg)) - 97)), (2, .int x11), (6, .int (M9 100 v5_8.toNatClampNeg)), (0, .ref 86), (1, .int p_sort), (5, .int v5_8)], [], zh, (zw (zw M12 98 (((4 * p_sort) + (M9 100 v5_8.toNatClampNeg)) - 97).toNatClampNeg 0) 99 (((4 * p_sort) + (M9 100 v5_8.toNatClampNeg)) - 97).toNatClampNeg (-6)))) rfl ⟨g22, g23, trivial⟩ ?_
          refine zF_go (n := 2) (ps := []) (s' := (40, [(5, .int (v5_8 + 1)), (0, .ref 86), (1, .int p_sort), (2, .int x11), (3, .int (((4 * p_sort) + (M9 100 v5_8.toNatClampNeg)) - 97)), (4, .int (v4_7 + 1))], [], zh, (zw (zw M12 98 (((4 * p_sort) + (M9 100 v5_8.toNatClampNeg)) - 97).toNatClampNeg 0) 99 (((4 * p_sort) + (M9 100 v5_8.toNatClampNeg)) - 97).toNatClampNeg (-6)))) rfl trivial ?_
          exact zF_as (hrec10 _ _ h) rfl
        rw [if_neg c21] at h
        by_cases c24 : x11 = 2
        · rw [if_pos c24] at h
          refine zF_sw (t := 143) (lv := [(2, .int x11), (6, .int (M9 100 v5_8.toNatClampNeg)), (0, .ref 86), (1, .int p_sort), (3, .int v3_6), (4, .int v4_7), (5, .int v5_8)]) (st := []) (M := M12) rfl (by rw [c24]; rfl) ?_
          obtain ⟨g25, h⟩ := zq_some h
          refine zF_go (n := 8) (ps := [vp_in v3_6 20]) (s' := (219, [(2, .int x11), (6, .int (M9 100 v5_8.toNatClampNeg)), (0, .ref 86), (1, .int p_sort), (3, .int v3_6), (4, .int v4_7), (5, .int v5_8)], [], zh, (zw M12 97 v3_6.toNatClampNeg ((M9 100 v5_8.toNatClampNeg) - 48)))) rfl ⟨g25, trivial⟩ ?_
          refine zF_go (n := 2) (ps := []) (s' := (40, [(5, .int (v5_8 + 1)), (0, .ref 86), (1, .int p_sort), (2, .int x11), (3, .int v3_6), (4, .int v4_7)], [], zh, (zw M12 97 v3_6.toNatClampNeg ((M9 100 v5_8.toNatClampNeg) - 48)))) rfl trivial ?_
          exact zF_as (hrec10 _ _ h) rfl
        rw [if_neg c24] at h
        by_cases c26 : x11 = 4
        · rw [if_pos c26] at h
          refine zF_sw (t := 157) (lv := [(2, .int x11), (6, .int (M9 100 v5_8.toNatClampNeg)), (0, .ref 86), (1, .int p_sort), (3, .int v3_6), (4, .int v4_7), (5, .int v5_8)]) (st := []) (M := M12) rfl (by rw [c26]; rfl) ?_
          obtain ⟨g27, h⟩ := zq_some h
          obtain ⟨g28, h⟩ := zq_some h
          refine zF_go (n := 15) (ps := [vp_in v3_6 20, vp_in v3_6 20]) (s' := (219, [(2, .int x11), (6, .int (M9 100 v5_8.toNatClampNeg)), (0, .ref 86), (1, .int p_sort), (3, .int v3_6), (4, .int v4_7), (5, .int v5_8)], [], zh, (zw M12 98 v3_6.toNatClampNeg (((10 * (M12 98 v3_6.toNatClampNeg)) + (M9 100 v5_8.toNatClampNeg)) - 48)))) rfl ⟨g27, g28, trivial⟩ ?_
          refine zF_go (n := 2) (ps := []) (s' := (40, [(5, .int (v5_8 + 1)), (0, .ref 86), (1, .int p_sort), (2, .int x11), (3, .int v3_6), (4, .int v4_7)], [], zh, (zw M12 98 v3_6.toNatClampNeg (((10 * (M12 98 v3_6.toNatClampNeg)) + (M9 100 v5_8.toNatClampNeg)) - 48)))) rfl trivial ?_
          exact zF_as (hrec10 _ _ h) rfl
        rw [if_neg c26] at h
        by_cases c29 : x11 = 5
        · rw [if_pos c29] at h
          refine zF_sw (t := 157) (lv := [(2, .int x11), (6, .int (M9 100 v5_8.toNatClampNeg)), (0, .ref 86), (1, .int p_sort), (3, .int v3_6), (4, .int v4_7), (5, .int v5_8)]) (st := []) (M := M12) rfl (by rw [c29]; rfl) ?_
          obtain ⟨g30, h⟩ := zq_some h
          obtain ⟨g31, h⟩ := zq_some h
          refine zF_go (n := 15) (ps := [vp_in v3_6 20, vp_in v3_6 20]) (s' := (219, [(2, .int x11), (6, .int (M9 100 v5_8.toNatClampNeg)), (0, .ref 86), (1, .int p_sort), (3, .int v3_6), (4, .int v4_7), (5, .int v5_8)], [], zh, (zw M12 98 v3_6.toNatClampNeg (((10 * (M12 98 v3_6.toNatClampNeg)) + (M9 100 v5_8.toNatClampNeg)) - 48)))) rfl ⟨g30, g31, trivial⟩ ?_
          refine zF_go (n := 2) (ps := []) (s' := (40, [(5, .int (v5_8 + 1)), (0, .ref 86), (1, .int p_sort), (2, .int x11), (3, .int v3_6), (4, .int v4_7)], [], zh, (zw M12 98 v3_6.toNatClampNeg (((10 * (M12 98 v3_6.toNatClampNeg)) + (M9 100 v5_8.toNatClampNeg)) - 48)))) rfl trivial ?_
          exact zF_as (hrec10 _ _ h) rfl
        rw [if_neg c29] at h
        by_cases c32 : x11 = 7
        · rw [if_pos c32] at h
          refine zF_sw (t := 181) (lv := [(2, .int x11), (6, .int (M9 100 v5_8.toNatClampNeg)), (0, .ref 86), (1, .int p_sort), (3, .int v3_6), (4, .int v4_7), (5, .int v5_8)]) (st := []) (M := M12) rfl (by rw [c32]; rfl) ?_
          obtain ⟨g33, h⟩ := zq_some h
          refine zF_go (n := 8) (ps := [vp_in v3_6 20]) (s' := (219, [(2, .int x11), (6, .int (M9 100 v5_8.toNatClampNeg)), (0, .ref 86), (1, .int p_sort), (3, .int v3_6), (4, .int v4_7), (5, .int v5_8)], [], zh, (zw M12 99 v3_6.toNatClampNeg ((M9 100 v5_8.toNatClampNeg) - 48)))) rfl ⟨g33, trivial⟩ ?_
          refine zF_go (n := 2) (ps := []) (s' := (40, [(5, .int (v5_8 + 1)), (0, .ref 86), (1, .int p_sort), (2, .int x11), (3, .int v3_6), (4, .int v4_7)], [], zh, (zw M12 99 v3_6.toNatClampNeg ((M9 100 v5_8.toNatClampNeg) - 48)))) rfl trivial ?_
          exact zF_as (hrec10 _ _ h) rfl
        rw [if_neg c32] at h
        by_cases c34 : x11 = 8
        · rw [if_pos c34] at h
          refine zF_sw (t := 195) (lv := [(2, .int x11), (6, .int (M9 100 v5_8.toNatClampNeg)), (0, .ref 86), (1, .int p_sort), (3, .int v3_6), (4, .int v4_7), (5, .int v5_8)]) (st := []) (M := M12) rfl (by rw [c34]; rfl) ?_
          obtain ⟨g35, h⟩ := zq_some h
          obtain ⟨g36, h⟩ := zq_some h
          refine zF_go (n := 15) (ps := [vp_in v3_6 20, vp_in v3_6 20]) (s' := (219, [(2, .int x11), (6, .int (M9 100 v5_8.toNatClampNeg)), (0, .ref 86), (1, .int p_sort), (3, .int v3_6), (4, .int v4_7), (5, .int v5_8)], [], zh, (zw M12 99 v3_6.toNatClampNeg (((10 * (M12 99 v3_6.toNatClampNeg)) + (M9 100 v5_8.toNatClampNeg)) - 48)))) rfl ⟨g35, g36, trivial⟩ ?_
          refine zF_go (n := 2) (ps := []) (s' := (40, [(5, .int (v5_8 + 1)), (0, .ref 86), (1, .int p_sort), (2, .int x11), (3, .int v3_6), (4, .int v4_7)], [], zh, (zw M12 99 v3_6.toNatClampNeg (((10 * (M12 99 v3_6.toNatClampNeg)) + (M9 100 v5_8.toNatClampNeg)) - 48)))) rfl trivial ?_
          exact zF_as (hrec10 _ _ h) rfl
        rw [if_neg c34] at h
        refine zF_sw (t := 219) (lv := [(2, .int x11), (6, .int (M9 100 v5_8.toNatClampNeg)), (0, .ref 86), (1, .int p_sort), (3, .int v3_6), (4, .int v4_7), (5, .int v5_8)]) (st := []) (M := M12) rfl (ztab_d (fun j hj => match j, hj with | 0, _ => Or.inr (lv_neT c21 (show (1 : Int32).toInt = (1 : Int) + ((0 : Nat) : Int) from rfl)) | 1, _ => Or.inr (lv_neT c24 (show (2 : Int32).toInt = (1 : Int) + ((1 : Nat) : Int) from rfl)) | 2, _ => Or.inl rfl | 3, _ => Or.inr (lv_neT c26 (show (4 : Int32).toInt = (1 : Int) + ((3 : Nat) : Int) from rfl)) | 4, _ => Or.inr (lv_neT c29 (show (5 : Int32).toInt = (1 : Int) + ((4 : Nat) : Int) from rfl)) | 5, _ => Or.inl rfl | 6, _ => Or.inr (lv_neT c32 (show (7 : Int32).toInt = (1 : Int) + ((6 : Nat) : Int) from rfl)) | 7, _ => Or.inr (lv_neT c34 (show (8 : Int32).toInt = (1 : Int) + ((7 : Nat) : Int) from rfl)) | j + 8, hj => absurd hj (Nat.not_lt.mpr (Nat.le_add_left 8 j)))) ?_
        refine zF_go (n := 2) (ps := []) (s' := (40, [(5, .int (v5_8 + 1)), (0, .ref 86), (1, .int p_sort), (2, .int x11), (3, .int v3_6), (4, .int v4_7)], [], zh, M12)) rfl trivial ?_
        exact zF_as (hrec10 _ _ h) rfl
    · rw [if_neg c16] at h
      refine zF_go (n := 1) (ps := []) (s' := (19, [(0, .ref 86), (1, .int p_sort)], [.int (-5)], zh, M3)) rfl trivial ?_
      cases h
      exact zF_ret rfl trivial
  · rw [if_pos c14] at h
    refine zF_go (n := 1) (ps := []) (s' := (9, [(0, .ref 86), (1, .int p_sort)], [.int (-1)], zh, M)) rfl trivial ?_
    cases h
    exact zF_ret rfl trivial
noncomputable def qS_noLetter (p_thing : Int32) : Option (Int32) :=
  zb (qS_isOut p_thing 0 3) fun x1 =>
  zq (x1 = 0 ∨ x1 = 1) <| some x1
set_option maxRecDepth 20000 in
set_option maxHeartbeats 4000000 in
theorem qS_noLetter_ok {S : zSc} {M : zM} {p_thing : Int32} {r : Int32} (h : qS_noLetter p_thing = some r) : zF S 127 (0, [(0, .int p_thing)], [], zh, M) (some (.int r)) (M) := by
  unfold qS_noLetter at h
  refine zF_go (n := 3) (ps := []) (s' := (3, [(0, .int p_thing)], [.int 3, .int 0, .int p_thing], zh, M)) rfl trivial ?_
  obtain ⟨x1, e2, h⟩ := zb_some h
  refine zF_call (y' := 125) (as := [.int p_thing, .int 0, .int 3]) (u := (6, [(0, .int p_thing)], [], zh, M)) rfl ⟨rfl, rfl⟩ rfl (qS_isOut_ok (S := S) (M := M) e2) ?_
  show zF S 127 (6, [(0, .int p_thing)], [.int x1], zh, M) _ _
  obtain ⟨g3, h⟩ := zq_some h
  cases h
  exact zF_ret rfl ⟨g3, trivial⟩
noncomputable def qS_item (M : zM) (p_sort : Int32) (p_thing : Int32) (p_what : Int32) : Option (Int32) :=
  zb (qS_noSort M p_sort) fun x1 =>
  if x1 = 0 then
    (zb (qS_noLetter p_thing) fun x2 =>
    if x2 = 0 then
      (zb (qS_isOut p_what 0 2) fun x3 =>
      if x3 = 0 then
        (zq (vp_in ((p_sort * 4) + p_thing) 20) <| if (M 15 ((p_sort * 4) + p_thing).toNatClampNeg) = 0 then
          (some (-6))
        else
          (if p_what = 0 then
            (zq (vp_in ((p_sort * 4) + p_thing) 20) <| some (M 15 ((p_sort * 4) + p_thing).toNatClampNeg))
          else
            (if p_what = 1 then
              (zq (vp_in ((p_sort * 4) + p_thing) 20) <| some (M 16 ((p_sort * 4) + p_thing).toNatClampNeg))
            else
              (zq (vp_in ((p_sort * 4) + p_thing) 20) <| some (M 17 ((p_sort * 4) + p_thing).toNatClampNeg)))))
      else
        (some (-2)))
    else
      (some (-1)))
  else
    (some (-1))
set_option maxRecDepth 20000 in
set_option maxHeartbeats 4000000 in
theorem qS_item_ok {S : zSc} {M : zM} {p_sort : Int32} {p_thing : Int32} {p_what : Int32} {r : Int32} (h : qS_item M p_sort p_thing p_what = some r) : zF S 97 (0, [(0, .ref 1), (1, .int p_sort), (2, .int p_thing), (3, .int p_what)], [], zh, M) (some (.int r)) (M) := by
  unfold qS_item at h
  refine zF_go (n := 2) (ps := []) (s' := (2, [(0, .ref 1), (1, .int p_sort), (2, .int p_thing), (3, .int p_what)], [.int p_sort, .ref 1], zh, M)) rfl trivial ?_
  obtain ⟨x1, e4, h⟩ := zb_some h
  refine zF_call (y' := 129) (as := [.ref 1, .int p_sort]) (u := (5, [(0, .ref 1), (1, .int p_sort), (2, .int p_thing), (3, .int p_what)], [], zh, M)) rfl ⟨rfl, rfl⟩ rfl (qS_noSort_ok (S := S) (M := M) e4) ?_
  show zF S 97 (5, [(0, .ref 1), (1, .int p_sort), (2, .int p_thing), (3, .int p_what)], [.int x1], zh, M) _ _
  refine zF_ne (t := 15) (u := (8, [(0, .ref 1), (1, .int p_sort), (2, .int p_thing), (3, .int p_what)], [], zh, M)) rfl (fun c5 => ?_) (fun c5 => ?_)
  · rw [if_neg c5] at h
    refine zF_go (n := 1) (ps := []) (s' := (16, [], [.int (-1)], zh, M)) rfl trivial ?_
    cases h
    exact zF_ret rfl trivial
  · rw [if_pos c5] at h
    refine zF_go (n := 1) (ps := []) (s' := (9, [(0, .ref 1), (1, .int p_sort), (2, .int p_thing), (3, .int p_what)], [.int p_thing], zh, M)) rfl trivial ?_
    obtain ⟨x2, e6, h⟩ := zb_some h
    refine zF_call (y' := 127) (as := [.int p_thing]) (u := (12, [(0, .ref 1), (1, .int p_sort), (2, .int p_thing), (3, .int p_what)], [], zh, M)) rfl ⟨rfl, rfl⟩ rfl (qS_noLetter_ok (S := S) (M := M) e6) ?_
    show zF S 97 (12, [(0, .ref 1), (1, .int p_sort), (2, .int p_thing), (3, .int p_what)], [.int x2], zh, M) _ _
    refine zF_eq (t := 17) (u := (15, [(0, .ref 1), (1, .int p_sort), (2, .int p_thing), (3, .int p_what)], [], zh, M)) rfl (fun c7 => ?_) (fun c7 => ?_)
    · rw [if_pos c7] at h
      refine zF_go (n := 3) (ps := []) (s' := (20, [(0, .ref 1), (1, .int p_sort), (2, .int p_thing), (3, .int p_what)], [.int 2, .int 0, .int p_what], zh, M)) rfl trivial ?_
      obtain ⟨x3, e8, h⟩ := zb_some h
      refine zF_call (y' := 125) (as := [.int p_what, .int 0, .int 2]) (u := (23, [(0, .ref 1), (1, .int p_sort), (2, .int p_thing), (3, .int p_what)], [], zh, M)) rfl ⟨rfl, rfl⟩ rfl (qS_isOut_ok (S := S) (M := M) e8) ?_
      show zF S 97 (23, [(0, .ref 1), (1, .int p_sort), (2, .int p_thing), (3, .int p_what)], [.int x3], zh, M) _ _
      refine zF_eq (t := 29) (u := (26, [(0, .ref 1), (1, .int p_sort), (2, .int p_thing), (3, .int p_what)], [], zh, M)) rfl (fun c9 => ?_) (fun c9 => ?_)
      · rw [if_pos c9] at h
        obtain ⟨g10, h⟩ := zq_some h
        refine zF_go (n := 12) (ps := [vp_in ((p_sort * 4) + p_thing) 20]) (s' := (49, [(4, .int ((p_sort * 4) + p_thing)), (0, .ref 1), (1, .int p_sort), (2, .int p_thing), (3, .int p_what)], [.int (M 15 ((p_sort * 4) + p_thing).toNatClampNeg)], zh, M)) rfl ⟨g10, trivial⟩ ?_
        refine zF_ne (t := 55) (u := (52, [(4, .int ((p_sort * 4) + p_thing)), (0, .ref 1), (1, .int p_sort), (2, .int p_thing), (3, .int p_what)], [], zh, M)) rfl (fun c11 => ?_) (fun c11 => ?_)
        · rw [if_neg c11] at h
          refine zF_go (n := 1) (ps := []) (s' := (56, [(4, .int ((p_sort * 4) + p_thing)), (0, .ref 1), (1, .int p_sort), (2, .int p_thing), (3, .int p_what)], [.int p_what], zh, M)) rfl trivial ?_
          refine zF_ne (t := 73) (u := (59, [(4, .int ((p_sort * 4) + p_thing)), (0, .ref 1), (1, .int p_sort), (2, .int p_thing), (3, .int p_what)], [], zh, M)) rfl (fun c12 => ?_) (fun c12 => ?_)
          · rw [if_neg c12] at h
            refine zF_go (n := 2) (ps := []) (s' := (75, [(4, .int ((p_sort * 4) + p_thing)), (0, .ref 1), (1, .int p_sort), (2, .int p_thing), (3, .int p_what)], [.int 1, .int p_what], zh, M)) rfl trivial ?_
            refine zF_ne (t := 94) (u := (78, [(4, .int ((p_sort * 4) + p_thing)), (0, .ref 1), (1, .int p_sort), (2, .int p_thing), (3, .int p_what)], [], zh, M)) rfl (fun c13 => ?_) (fun c13 => ?_)
            · rw [if_neg c13] at h
              obtain ⟨g14, h⟩ := zq_some h
              refine zF_go (n := 6) (ps := [vp_in ((p_sort * 4) + p_thing) 20]) (s' := (107, [(4, .int ((p_sort * 4) + p_thing)), (0, .ref 1), (1, .int p_sort), (2, .int p_thing), (3, .int p_what)], [.int (M 17 ((p_sort * 4) + p_thing).toNatClampNeg)], zh, M)) rfl ⟨g14, trivial⟩ ?_
              cases h
              exact zF_ret rfl trivial
            · rw [if_pos c13] at h
              obtain ⟨g15, h⟩ := zq_some h
              refine zF_go (n := 7) (ps := [vp_in ((p_sort * 4) + p_thing) 20]) (s' := (107, [(4, .int ((p_sort * 4) + p_thing)), (0, .ref 1), (1, .int p_sort), (2, .int p_thing), (3, .int p_what)], [.int (M 16 ((p_sort * 4) + p_thing).toNatClampNeg)], zh, M)) rfl ⟨g15, trivial⟩ ?_
              cases h
              exact zF_ret rfl trivial
          · rw [if_pos c12] at h
            obtain ⟨g16, h⟩ := zq_some h
            refine zF_go (n := 6) (ps := [vp_in ((p_sort * 4) + p_thing) 20]) (s' := (72, [(4, .int ((p_sort * 4) + p_thing)), (0, .ref 1), (1, .int p_sort), (2, .int p_thing), (3, .int p_what)], [.int (M 15 ((p_sort * 4) + p_thing).toNatClampNeg)], zh, M)) rfl ⟨g16, trivial⟩ ?_
            cases h
            exact zF_ret rfl trivial
        · rw [if_pos c11] at h
          refine zF_go (n := 1) (ps := []) (s' := (54, [(4, .int ((p_sort * 4) + p_thing)), (0, .ref 1), (1, .int p_sort), (2, .int p_thing), (3, .int p_what)], [.int (-6)], zh, M)) rfl trivial ?_
          cases h
          exact zF_ret rfl trivial
      · rw [if_neg c9] at h
        refine zF_go (n := 1) (ps := []) (s' := (28, [(0, .ref 1), (1, .int p_sort), (2, .int p_thing), (3, .int p_what)], [.int (-2)], zh, M)) rfl trivial ?_
        cases h
        exact zF_ret rfl trivial
    · rw [if_neg c7] at h
      refine zF_go (n := 1) (ps := []) (s' := (16, [], [.int (-1)], zh, M)) rfl trivial ?_
      cases h
      exact zF_ret rfl trivial
noncomputable def qM_isLetter (p_t : Int32) : Option (Int32) :=
  zb (qM_in p_t.toInt64 0 3) fun x1 =>
  zq (x1 = 0 ∨ x1 = 1) <| some x1
set_option maxRecDepth 20000 in
set_option maxHeartbeats 4000000 in
theorem qM_isLetter_ok {S : zSc} {M : zM} {p_t : Int32} {r : Int32} (h : qM_isLetter p_t = some r) : zF S 138 (0, [(0, .int p_t)], [], zh, M) (some (.int r)) (M) := by
  unfold qM_isLetter at h
  refine zF_go (n := 4) (ps := []) (s' := (6, [(0, .int p_t)], [.long 3, .long 0, .long p_t.toInt64], zh, M)) rfl trivial ?_
  obtain ⟨x1, e2, h⟩ := zb_some h
  refine zF_call (y' := 134) (as := [.long p_t.toInt64, .long 0, .long 3]) (u := (9, [(0, .int p_t)], [], zh, M)) rfl ⟨rfl, rfl⟩ rfl (qM_in_ok (S := S) (M := M) e2) ?_
  show zF S 138 (9, [(0, .int p_t)], [.int x1], zh, M) _ _
  obtain ⟨g3, h⟩ := zq_some h
  cases h
  exact zF_ret rfl ⟨g3, trivial⟩
noncomputable def qM_item (M : zM) (p_sort : Int32) (p_thing : Int32) (p_what : Int32) : Option (Int32) :=
  zb (qM_isSort M p_sort) fun x1 =>
  if x1 = 0 then
    (some (-1))
  else
    (zb (qM_isLetter p_thing) fun x2 =>
    if x2 = 0 then
      (some (-1))
    else
      (zb (qM_in p_what.toInt64 0 2) fun x3 =>
      if x3 = 0 then
        (some (-2))
      else
        (zq (vp_in ((4 * p_sort) + p_thing) 20) <| if (M 97 ((4 * p_sort) + p_thing).toNatClampNeg) = 0 then
          (some (-6))
        else
          (if p_what = 0 then
            (zq (vp_in ((4 * p_sort) + p_thing) 20) <| some (M 97 ((4 * p_sort) + p_thing).toNatClampNeg))
          else
            (if p_what = 1 then
              (zq (vp_in ((4 * p_sort) + p_thing) 20) <| some (M 98 ((4 * p_sort) + p_thing).toNatClampNeg))
            else
              (zq (vp_in ((4 * p_sort) + p_thing) 20) <| some (M 99 ((4 * p_sort) + p_thing).toNatClampNeg)))))))
set_option maxRecDepth 20000 in
set_option maxHeartbeats 4000000 in
theorem qM_item_ok {S : zSc} {M : zM} {p_sort : Int32} {p_thing : Int32} {p_what : Int32} {r : Int32} (h : qM_item M p_sort p_thing p_what = some r) : zF S 155 (0, [(0, .ref 86), (1, .int p_sort), (2, .int p_thing), (3, .int p_what)], [], zh, M) (some (.int r)) (M) := by
  unfold qM_item at h
  refine zF_go (n := 2) (ps := []) (s' := (2, [(0, .ref 86), (1, .int p_sort), (2, .int p_thing), (3, .int p_what)], [.int p_sort, .ref 86], zh, M)) rfl trivial ?_
  obtain ⟨x1, e4, h⟩ := zb_some h
  refine zF_call (y' := 146) (as := [.ref 86, .int p_sort]) (u := (5, [(0, .ref 86), (1, .int p_sort), (2, .int p_thing), (3, .int p_what)], [], zh, M)) rfl ⟨rfl, rfl⟩ rfl (qM_isSort_ok (S := S) (M := M) e4) ?_
  show zF S 155 (5, [(0, .ref 86), (1, .int p_sort), (2, .int p_thing), (3, .int p_what)], [.int x1], zh, M) _ _
  refine zF_eq (t := 15) (u := (8, [(0, .ref 86), (1, .int p_sort), (2, .int p_thing), (3, .int p_what)], [], zh, M)) rfl (fun c5 => ?_) (fun c5 => ?_)
  · rw [if_pos c5] at h
    refine zF_go (n := 1) (ps := []) (s' := (16, [], [.int (-1)], zh, M)) rfl trivial ?_
    cases h
    exact zF_ret rfl trivial
  · rw [if_neg c5] at h
    refine zF_go (n := 1) (ps := []) (s' := (9, [(0, .ref 86), (1, .int p_sort), (2, .int p_thing), (3, .int p_what)], [.int p_thing], zh, M)) rfl trivial ?_
    obtain ⟨x2, e6, h⟩ := zb_some h
    refine zF_call (y' := 138) (as := [.int p_thing]) (u := (12, [(0, .ref 86), (1, .int p_sort), (2, .int p_thing), (3, .int p_what)], [], zh, M)) rfl ⟨rfl, rfl⟩ rfl (qM_isLetter_ok (S := S) (M := M) e6) ?_
    show zF S 155 (12, [(0, .ref 86), (1, .int p_sort), (2, .int p_thing), (3, .int p_what)], [.int x2], zh, M) _ _
    refine zF_ne (t := 17) (u := (15, [(0, .ref 86), (1, .int p_sort), (2, .int p_thing), (3, .int p_what)], [], zh, M)) rfl (fun c7 => ?_) (fun c7 => ?_)
    · rw [if_neg c7] at h
      refine zF_go (n := 4) (ps := []) (s' := (23, [(0, .ref 86), (1, .int p_sort), (2, .int p_thing), (3, .int p_what)], [.long 2, .long 0, .long p_what.toInt64], zh, M)) rfl trivial ?_
      obtain ⟨x3, e8, h⟩ := zb_some h
      refine zF_call (y' := 134) (as := [.long p_what.toInt64, .long 0, .long 2]) (u := (26, [(0, .ref 86), (1, .int p_sort), (2, .int p_thing), (3, .int p_what)], [], zh, M)) rfl ⟨rfl, rfl⟩ rfl (qM_in_ok (S := S) (M := M) e8) ?_
      show zF S 155 (26, [(0, .ref 86), (1, .int p_sort), (2, .int p_thing), (3, .int p_what)], [.int x3], zh, M) _ _
      refine zF_ne (t := 32) (u := (29, [(0, .ref 86), (1, .int p_sort), (2, .int p_thing), (3, .int p_what)], [], zh, M)) rfl (fun c9 => ?_) (fun c9 => ?_)
      · rw [if_neg c9] at h
        obtain ⟨g10, h⟩ := zq_some h
        refine zF_go (n := 10) (ps := [vp_in ((4 * p_sort) + p_thing) 20]) (s' := (46, [(4, .int ((4 * p_sort) + p_thing)), (0, .ref 86), (1, .int p_sort), (2, .int p_thing), (3, .int p_what)], [.int (M 97 ((4 * p_sort) + p_thing).toNatClampNeg)], zh, M)) rfl ⟨g10, trivial⟩ ?_
        refine zF_ne (t := 54) (u := (49, [(4, .int ((4 * p_sort) + p_thing)), (0, .ref 86), (1, .int p_sort), (2, .int p_thing), (3, .int p_what)], [], zh, M)) rfl (fun c11 => ?_) (fun c11 => ?_)
        · rw [if_neg c11] at h
          refine zF_go (n := 1) (ps := []) (s' := (55, [(4, .int ((4 * p_sort) + p_thing)), (0, .ref 86), (1, .int p_sort), (2, .int p_thing), (3, .int p_what)], [.int p_what], zh, M)) rfl trivial ?_
          refine zF_ne (t := 68) (u := (58, [(4, .int ((4 * p_sort) + p_thing)), (0, .ref 86), (1, .int p_sort), (2, .int p_thing), (3, .int p_what)], [], zh, M)) rfl (fun c12 => ?_) (fun c12 => ?_)
          · rw [if_neg c12] at h
            refine zF_go (n := 2) (ps := []) (s' := (70, [(4, .int ((4 * p_sort) + p_thing)), (0, .ref 86), (1, .int p_sort), (2, .int p_thing), (3, .int p_what)], [.int 1, .int p_what], zh, M)) rfl trivial ?_
            refine zF_ne (t := 83) (u := (73, [(4, .int ((4 * p_sort) + p_thing)), (0, .ref 86), (1, .int p_sort), (2, .int p_thing), (3, .int p_what)], [], zh, M)) rfl (fun c13 => ?_) (fun c13 => ?_)
            · rw [if_neg c13] at h
              obtain ⟨g14, h⟩ := zq_some h
              refine zF_go (n := 4) (ps := [vp_in ((4 * p_sort) + p_thing) 20]) (s' := (90, [(4, .int ((4 * p_sort) + p_thing)), (0, .ref 86), (1, .int p_sort), (2, .int p_thing), (3, .int p_what)], [.int (M 99 ((4 * p_sort) + p_thing).toNatClampNeg)], zh, M)) rfl ⟨g14, trivial⟩ ?_
              cases h
              exact zF_ret rfl trivial
            · rw [if_pos c13] at h
              obtain ⟨g15, h⟩ := zq_some h
              refine zF_go (n := 5) (ps := [vp_in ((4 * p_sort) + p_thing) 20]) (s' := (90, [(4, .int ((4 * p_sort) + p_thing)), (0, .ref 86), (1, .int p_sort), (2, .int p_thing), (3, .int p_what)], [.int (M 98 ((4 * p_sort) + p_thing).toNatClampNeg)], zh, M)) rfl ⟨g15, trivial⟩ ?_
              cases h
              exact zF_ret rfl trivial
          · rw [if_pos c12] at h
            obtain ⟨g16, h⟩ := zq_some h
            refine zF_go (n := 5) (ps := [vp_in ((4 * p_sort) + p_thing) 20]) (s' := (90, [(4, .int ((4 * p_sort) + p_thing)), (0, .ref 86), (1, .int p_sort), (2, .int p_thing), (3, .int p_what)], [.int (M 97 ((4 * p_sort) + p_thing).toNatClampNeg)], zh, M)) rfl ⟨g16, trivial⟩ ?_
            cases h
            exact zF_ret rfl trivial
        · rw [if_pos c11] at h
          refine zF_go (n := 2) (ps := []) (s' := (90, [(4, .int ((4 * p_sort) + p_thing)), (0, .ref 86), (1, .int p_sort), (2, .int p_thing), (3, .int p_what)], [.int (-6)], zh, M)) rfl trivial ?_
          cases h
          exact zF_ret rfl trivial
      · rw [if_pos c9] at h
        refine zF_go (n := 1) (ps := []) (s' := (31, [(0, .ref 86), (1, .int p_sort), (2, .int p_thing), (3, .int p_what)], [.int (-2)], zh, M)) rfl trivial ?_
        cases h
        exact zF_ret rfl trivial
    · rw [if_pos c7] at h
      refine zF_go (n := 1) (ps := []) (s' := (16, [], [.int (-1)], zh, M)) rfl trivial ?_
      cases h
      exact zF_ret rfl trivial
noncomputable def qS_law (M : zM) (p_v : Int32) : Option (Int32 × zM) :=
  zb (qS_isOut p_v 0 1) fun x1 =>
  if x1 = 0 then
    (some ((M 2 3), (zw M 2 3 p_v)))
  else
    (some ((-2), M))
set_option maxRecDepth 20000 in
set_option maxHeartbeats 4000000 in
theorem qS_law_ok {S : zSc} {M : zM} {p_v : Int32} {r : Int32 × zM} (h : qS_law M p_v = some r) : zF S 98 (0, [(0, .ref 1), (1, .int p_v)], [], zh, M) (some (.int r.1)) (r.2) := by
  unfold qS_law at h
  refine zF_go (n := 3) (ps := []) (s' := (3, [(0, .ref 1), (1, .int p_v)], [.int 1, .int 0, .int p_v], zh, M)) rfl trivial ?_
  obtain ⟨x1, e2, h⟩ := zb_some h
  refine zF_call (y' := 125) (as := [.int p_v, .int 0, .int 1]) (u := (6, [(0, .ref 1), (1, .int p_v)], [], zh, M)) rfl ⟨rfl, rfl⟩ rfl (qS_isOut_ok (S := S) (M := M) e2) ?_
  show zF S 98 (6, [(0, .ref 1), (1, .int p_v)], [.int x1], zh, M) _ _
  refine zF_eq (t := 12) (u := (9, [(0, .ref 1), (1, .int p_v)], [], zh, M)) rfl (fun c3 => ?_) (fun c3 => ?_)
  · rw [if_pos c3] at h
    refine zF_go (n := 9) (ps := []) (s' := (29, [(2, .int (M 2 3)), (0, .ref 1), (1, .int p_v)], [.int (M 2 3)], zh, (zw M 2 3 p_v))) rfl trivial ?_
    cases h
    exact zF_ret rfl trivial
  · rw [if_neg c3] at h
    refine zF_go (n := 1) (ps := []) (s' := (11, [(0, .ref 1), (1, .int p_v)], [.int (-2)], zh, M)) rfl trivial ?_
    cases h
    exact zF_ret rfl trivial
noncomputable def qM_law (M : zM) (p_v : Int32) : Option (Int32 × zM) :=
  zb (qM_in p_v.toInt64 0 1) fun x1 =>
  if x1 = 0 then
    (some ((-2), M))
  else
    (some ((M 86 18), (zw M 86 18 p_v)))
set_option maxRecDepth 20000 in
set_option maxHeartbeats 4000000 in
theorem qM_law_ok {S : zSc} {M : zM} {p_v : Int32} {r : Int32 × zM} (h : qM_law M p_v = some r) : zF S 156 (0, [(0, .ref 86), (1, .int p_v)], [], zh, M) (some (.int r.1)) (r.2) := by
  unfold qM_law at h
  refine zF_go (n := 4) (ps := []) (s' := (4, [(0, .ref 86), (1, .int p_v)], [.long 1, .long 0, .long p_v.toInt64], zh, M)) rfl trivial ?_
  obtain ⟨x1, e2, h⟩ := zb_some h
  refine zF_call (y' := 134) (as := [.long p_v.toInt64, .long 0, .long 1]) (u := (7, [(0, .ref 86), (1, .int p_v)], [], zh, M)) rfl ⟨rfl, rfl⟩ rfl (qM_in_ok (S := S) (M := M) e2) ?_
  show zF S 156 (7, [(0, .ref 86), (1, .int p_v)], [.int x1], zh, M) _ _
  refine zF_ne (t := 13) (u := (10, [(0, .ref 86), (1, .int p_v)], [], zh, M)) rfl (fun c3 => ?_) (fun c3 => ?_)
  · rw [if_neg c3] at h
    refine zF_go (n := 7) (ps := []) (s' := (24, [(2, .int (M 86 18)), (0, .ref 86), (1, .int p_v)], [.int (M 86 18)], zh, (zw M 86 18 p_v))) rfl trivial ?_
    cases h
    exact zF_ret rfl trivial
  · rw [if_pos c3] at h
    refine zF_go (n := 1) (ps := []) (s' := (12, [(0, .ref 86), (1, .int p_v)], [.int (-2)], zh, M)) rfl trivial ?_
    cases h
    exact zF_ret rfl trivial
noncomputable def qG_copy_63_3 (M : zM) : Option (zM) :=
  some (zA (zA (zA (zA (zA (zA (zw M 63 0 (M 3 0)) 64 (va_cpy (M 4) (M 64) ((0 : Int32).toNatClampNeg) ((0 : Int32).toNatClampNeg) ((4 : Int32).toNatClampNeg))) 65 (va_cpy (M 5) (M 65) ((0 : Int32).toNatClampNeg) ((0 : Int32).toNatClampNeg) ((12 : Int32).toNatClampNeg))) 66 (va_cpy (M 6) (M 66) ((0 : Int32).toNatClampNeg) ((0 : Int32).toNatClampNeg) ((8 : Int32).toNatClampNeg))) 67 (va_cpy (M 7) (M 67) ((0 : Int32).toNatClampNeg) ((0 : Int32).toNatClampNeg) ((8 : Int32).toNatClampNeg))) 68 (va_cpy (M 8) (M 68) ((0 : Int32).toNatClampNeg) ((0 : Int32).toNatClampNeg) ((8 : Int32).toNatClampNeg))) 69 (va_cpy (M 9) (M 69) ((0 : Int32).toNatClampNeg) ((0 : Int32).toNatClampNeg) ((2 : Int32).toNatClampNeg)))
set_option maxRecDepth 20000 in
set_option maxHeartbeats 4000000 in
theorem qG_copy_63_3_ok {S : zSc} {M : zM} {r : zM} (h : qG_copy_63_3 M = some r) : zF S 13 (0, [(0, .ref 63), (1, .ref 3)], [], zh, M) (none) (r) := by
  unfold qG_copy_63_3 at h
  refine zF_go (n := 52) (ps := [¬ (0 : Int32) < 0, ¬ (0 : Int32) < 0, ¬ (4 : Int32) < 0, (0 : Int32).toNatClampNeg + (4 : Int32).toNatClampNeg ≤ 4, (0 : Int32).toNatClampNeg + (4 : Int32).toNatClampNeg ≤ 4, ¬ (0 : Int32) < 0, ¬ (0 : Int32) < 0, ¬ (12 : Int32) < 0, (0 : Int32).toNatClampNeg + (12 : Int32).toNatClampNeg ≤ 12, (0 : Int32).toNatClampNeg + (12 : Int32).toNatClampNeg ≤ 12, ¬ (0 : Int32) < 0, ¬ (0 : Int32) < 0, ¬ (8 : Int32) < 0, (0 : Int32).toNatClampNeg + (8 : Int32).toNatClampNeg ≤ 8, (0 : Int32).toNatClampNeg + (8 : Int32).toNatClampNeg ≤ 8, ¬ (0 : Int32) < 0, ¬ (0 : Int32) < 0, ¬ (8 : Int32) < 0, (0 : Int32).toNatClampNeg + (8 : Int32).toNatClampNeg ≤ 8, (0 : Int32).toNatClampNeg + (8 : Int32).toNatClampNeg ≤ 8, ¬ (0 : Int32) < 0, ¬ (0 : Int32) < 0, ¬ (8 : Int32) < 0, (0 : Int32).toNatClampNeg + (8 : Int32).toNatClampNeg ≤ 8, (0 : Int32).toNatClampNeg + (8 : Int32).toNatClampNeg ≤ 8, ¬ (0 : Int32) < 0, ¬ (0 : Int32) < 0, ¬ (2 : Int32) < 0, (0 : Int32).toNatClampNeg + (2 : Int32).toNatClampNeg ≤ 2, (0 : Int32).toNatClampNeg + (2 : Int32).toNatClampNeg ≤ 2]) (s' := (96, [(0, .ref 63), (1, .ref 3)], [], zh, (zA (zA (zA (zA (zA (zA (zw M 63 0 (M 3 0)) 64 (va_cpy (M 4) (M 64) ((0 : Int32).toNatClampNeg) ((0 : Int32).toNatClampNeg) ((4 : Int32).toNatClampNeg))) 65 (va_cpy (M 5) (M 65) ((0 : Int32).toNatClampNeg) ((0 : Int32).toNatClampNeg) ((12 : Int32).toNatClampNeg))) 66 (va_cpy (M 6) (M 66) ((0 : Int32).toNatClampNeg) ((0 : Int32).toNatClampNeg) ((8 : Int32).toNatClampNeg))) 67 (va_cpy (M 7) (M 67) ((0 : Int32).toNatClampNeg) ((0 : Int32).toNatClampNeg) ((8 : Int32).toNatClampNeg))) 68 (va_cpy (M 8) (M 68) ((0 : Int32).toNatClampNeg) ((0 : Int32).toNatClampNeg) ((8 : Int32).toNatClampNeg))) 69 (va_cpy (M 9) (M 69) ((0 : Int32).toNatClampNeg) ((0 : Int32).toNatClampNeg) ((2 : Int32).toNatClampNeg))))) rfl ⟨(by decide), (by decide), (by decide), (by decide), (by decide), (by decide), (by decide), (by decide), (by decide), (by decide), (by decide), (by decide), (by decide), (by decide), (by decide), (by decide), (by decide), (by decide), (by decide), (by decide), (by decide), (by decide), (by decide), (by decide), (by decide), (by decide), (by decide), (by decide), (by decide), (by decide), trivial⟩ ?_
  cases h
  exact zF_ret rfl trivial
noncomputable def qW_takenFor (M : zM) (p_sort : Int32) (p_shop : Int32) (p_thing : Int32) (p_price : Int32) : Option (Int32) :=
  zq (vp_in ((p_sort * 4) + p_thing) 20) <| zb (zlj (fun (_ : Unit) =>
      some 1) fun k3 =>
    if (M 17 ((p_sort * 4) + p_thing).toNatClampNeg) = (-6) then
      (k3 ())
    else
      (zq (vp_in p_shop 2) <| if (((M 69 p_shop.toNatClampNeg) >>> (p_thing &&& 31)) &&& 1) = 1 then
        (k3 ())
      else
        (some 0))) fun (w2 : Int32) =>
  if w2 = 0 then
    (some (M 17 ((p_sort * 4) + p_thing).toNatClampNeg))
  else
    (some p_price)
set_option maxRecDepth 20000 in
set_option maxHeartbeats 4000000 in
theorem qW_takenFor_ok {S : zSc} {M : zM} {p_sort : Int32} {p_shop : Int32} {p_thing : Int32} {p_price : Int32} {r : Int32} (h : qW_takenFor M p_sort p_shop p_thing p_price = some r) : zF S 66 (0, [(0, .ref 70), (1, .int p_sort), (2, .int p_shop), (3, .int p_thing), (4, .int p_price)], [], zh, M) (some (.int r)) (M) := by
  unfold qW_takenFor at h
  obtain ⟨g4, h⟩ := zq_some h
  refine zF_go (n := 12) (ps := [vp_in ((p_sort * 4) + p_thing) 20]) (s' := (19, [(5, .int (M 17 ((p_sort * 4) + p_thing).toNatClampNeg)), (0, .ref 70), (1, .int p_sort), (2, .int p_shop), (3, .int p_thing), (4, .int p_price)], [.int (-6), .int (M 17 ((p_sort * 4) + p_thing).toNatClampNeg)], zh, M)) rfl ⟨g4, trivial⟩ ?_
  obtain ⟨w2, g5, h⟩ := zb_some h
  have hk6 : zF S 66 (44, [(4, .int p_price), (5, .int (M 17 ((p_sort * 4) + p_thing).toNatClampNeg))], [.int w2], zh, M) (some (.int r)) (M) := by
    refine zF_go (n := 2) (ps := []) (s' := (48, [(6, .int w2), (4, .int p_price), (5, .int (M 17 ((p_sort * 4) + p_thing).toNatClampNeg))], [.int w2], zh, M)) rfl trivial ?_
    refine zF_eq (t := 56) (u := (51, [(6, .int w2), (4, .int p_price), (5, .int (M 17 ((p_sort * 4) + p_thing).toNatClampNeg))], [], zh, M)) rfl (fun c7 => ?_) (fun c7 => ?_)
    · rw [if_pos c7] at h
      refine zF_go (n := 1) (ps := []) (s' := (58, [(6, .int w2), (4, .int p_price), (5, .int (M 17 ((p_sort * 4) + p_thing).toNatClampNeg))], [.int (M 17 ((p_sort * 4) + p_thing).toNatClampNeg)], zh, M)) rfl trivial ?_
      cases h
      exact zF_ret rfl trivial
    · rw [if_neg c7] at h
      refine zF_go (n := 2) (ps := []) (s' := (58, [(6, .int w2), (4, .int p_price), (5, .int (M 17 ((p_sort * 4) + p_thing).toNatClampNeg))], [.int p_price], zh, M)) rfl trivial ?_
      cases h
      exact zF_ret rfl trivial
  refine zlj_e g5 (fun k => ∀ (_ : Unit), k () = some w2 → zF S 66 (39, [(4, .int p_price), (5, .int (M 17 ((p_sort * 4) + p_thing).toNatClampNeg))], [], zh, M) (some (.int r)) (M)) ?_ ?_
  · intro _ g5
    try dsimp only at g5
    refine zF_go (n := 2) (ps := []) (s' := (44, [(4, .int p_price), (5, .int (M 17 ((p_sort * 4) + p_thing).toNatClampNeg))], [.int 1], zh, M)) rfl trivial ?_
    cases g5
    exact zF_as hk6 rfl
  · intro k3 hk3 g5
    try dsimp only at g5
    refine zF_eq (t := 39) (u := (22, [(5, .int (M 17 ((p_sort * 4) + p_thing).toNatClampNeg)), (0, .ref 70), (1, .int p_sort), (2, .int p_shop), (3, .int p_thing), (4, .int p_price)], [], zh, M)) rfl (fun c8 => ?_) (fun c8 => ?_)
    · rw [if_pos c8] at g5
      exact zF_as (hk3 () g5) rfl
    · rw [if_neg c8] at g5
      obtain ⟨g9, g5⟩ := zq_some g5
      refine zF_go (n := 10) (ps := [vp_in p_shop 2]) (s' := (36, [(5, .int (M 17 ((p_sort * 4) + p_thing).toNatClampNeg)), (0, .ref 70), (1, .int p_sort), (2, .int p_shop), (3, .int p_thing), (4, .int p_price)], [.int 1, .int (((M 69 p_shop.toNatClampNeg) >>> (p_thing &&& 31)) &&& 1)], zh, M)) rfl ⟨g9, trivial⟩ ?_
      refine zF_ne (t := 43) (u := (39, [(5, .int (M 17 ((p_sort * 4) + p_thing).toNatClampNeg)), (0, .ref 70), (1, .int p_sort), (2, .int p_shop), (3, .int p_thing), (4, .int p_price)], [], zh, M)) rfl (fun c10 => ?_) (fun c10 => ?_)
      · rw [if_neg c10] at g5
        refine zF_go (n := 1) (ps := []) (s' := (44, [(5, .int (M 17 ((p_sort * 4) + p_thing).toNatClampNeg)), (0, .ref 70), (1, .int p_sort), (2, .int p_shop), (3, .int p_thing), (4, .int p_price)], [.int 0], zh, M)) rfl trivial ?_
        cases g5
        exact zF_as hk6 rfl
      · rw [if_pos c10] at g5
        exact zF_as (hk3 () g5) rfl
noncomputable def qW_wantedAt (M : zM) (p_sort : Int32) (p_shop : Int32) (p_thing : Int32) (p_price : Int32) (p_way : Int32) : Option (Int32) :=
  zq (vp_in ((p_sort * 4) + p_thing) 20) <| if (M 15 ((p_sort * 4) + p_thing).toNatClampNeg) = 0 then
    (some 0)
  else
    (zq (vp_in ((p_sort * 4) + p_thing) 20) <| if (M 16 ((p_sort * 4) + p_thing).toNatClampNeg) < p_price then
      (some 0)
    else
      (zlj (fun (_ : Unit) =>
        zq (vp_in ((p_shop * 4) + p_thing) 8) <| zq (vp_in ((p_sort * 4) + p_thing) 20) <| if (M 15 ((p_sort * 4) + p_thing).toNatClampNeg) < (M 67 ((p_shop * 4) + p_thing).toNatClampNeg) then
          (zq (vp_in ((p_sort * 4) + p_thing) 20) <| some (M 15 ((p_sort * 4) + p_thing).toNatClampNeg))
        else
          (some (M 67 ((p_shop * 4) + p_thing).toNatClampNeg))) fun k1 =>
      if p_way = 2 then
        (zq (vp_in ((p_shop * 4) + p_thing) 8) <| if p_price < (M 66 ((p_shop * 4) + p_thing).toNatClampNeg) then
          (k1 ())
        else
          (some 0))
      else
        (k1 ())))
set_option maxRecDepth 20000 in
set_option maxHeartbeats 4000000 in
theorem qW_wantedAt_ok {S : zSc} {M : zM} {p_sort : Int32} {p_shop : Int32} {p_thing : Int32} {p_price : Int32} {p_way : Int32} {r : Int32} (h : qW_wantedAt M p_sort p_shop p_thing p_price p_way = some r) : zF S 67 (0, [(0, .ref 70), (1, .int p_sort), (2, .int p_shop), (3, .int p_thing), (4, .int p_price), (5, .int p_way)], [], zh, M) (some (.int r)) (M) := by
  unfold qW_wantedAt at h
  obtain ⟨g2, h⟩ := zq_some h
  refine zF_go (n := 11) (ps := [vp_in ((p_sort * 4) + p_thing) 20]) (s' := (17, [(6, .int ((p_sort * 4) + p_thing)), (0, .ref 70), (1, .int p_sort), (2, .int p_shop), (3, .int p_thing), (4, .int p_price), (5, .int p_way)], [.int (M 15 ((p_sort * 4) + p_thing).toNatClampNeg)], zh, M)) rfl ⟨g2, trivial⟩ ?_
  refine zF_eq (t := 35) (u := (20, [(6, .int ((p_sort * 4) + p_thing)), (0, .ref 70), (1, .int p_sort), (2, .int p_shop), (3, .int p_thing), (4, .int p_price), (5, .int p_way)], [], zh, M)) rfl (fun c3 => ?_) (fun c3 => ?_)
  · rw [if_pos c3] at h
    refine zF_go (n := 1) (ps := []) (s' := (36, [], [.int 0], zh, M)) rfl trivial ?_
    cases h
    exact zF_ret rfl trivial
  · rw [if_neg c3] at h
    obtain ⟨g4, h⟩ := zq_some h
    refine zF_go (n := 6) (ps := [vp_in ((p_sort * 4) + p_thing) 20]) (s' := (32, [(6, .int ((p_sort * 4) + p_thing)), (0, .ref 70), (1, .int p_sort), (2, .int p_shop), (3, .int p_thing), (4, .int p_price), (5, .int p_way)], [.int p_price, .int (M 16 ((p_sort * 4) + p_thing).toNatClampNeg)], zh, M)) rfl ⟨g4, trivial⟩ ?_
    refine zF_ge (t := 37) (u := (35, [(6, .int ((p_sort * 4) + p_thing)), (0, .ref 70), (1, .int p_sort), (2, .int p_shop), (3, .int p_thing), (4, .int p_price), (5, .int p_way)], [], zh, M)) rfl (fun c5 => ?_) (fun c5 => ?_)
    · rw [if_neg c5] at h
      refine zF_go (n := 2) (ps := []) (s' := (40, [(6, .int ((p_sort * 4) + p_thing)), (0, .ref 70), (1, .int p_sort), (2, .int p_shop), (3, .int p_thing), (4, .int p_price), (5, .int p_way)], [.int 2, .int p_way], zh, M)) rfl trivial ?_
      refine zlj_e h (fun k => ∀ (_ : Unit) r, k () = some r → zF S 67 (63, [(0, .ref 70), (2, .int p_shop), (3, .int p_thing), (6, .int ((p_sort * 4) + p_thing))], [], zh, M) (some (.int r)) (M)) ?_ ?_
      · intro _ r h
        try dsimp only at h
        obtain ⟨g6, h⟩ := zq_some h
        obtain ⟨g7, h⟩ := zq_some h
        refine zF_go (n := 16) (ps := [vp_in ((p_shop * 4) + p_thing) 8, vp_in ((p_sort * 4) + p_thing) 20]) (s' := (90, [(7, .int (M 67 ((p_shop * 4) + p_thing).toNatClampNeg)), (0, .ref 70), (2, .int p_shop), (3, .int p_thing), (6, .int ((p_sort * 4) + p_thing))], [.int (M 67 ((p_shop * 4) + p_thing).toNatClampNeg), .int (M 15 ((p_sort * 4) + p_thing).toNatClampNeg)], zh, M)) rfl ⟨g6, g7, trivial⟩ ?_
        refine zF_ge (t := 106) (u := (93, [(7, .int (M 67 ((p_shop * 4) + p_thing).toNatClampNeg)), (0, .ref 70), (2, .int p_shop), (3, .int p_thing), (6, .int ((p_sort * 4) + p_thing))], [], zh, M)) rfl (fun c8 => ?_) (fun c8 => ?_)
        · rw [if_neg c8] at h
          refine zF_go (n := 1) (ps := []) (s' := (108, [(7, .int (M 67 ((p_shop * 4) + p_thing).toNatClampNeg)), (0, .ref 70), (2, .int p_shop), (3, .int p_thing), (6, .int ((p_sort * 4) + p_thing))], [.int (M 67 ((p_shop * 4) + p_thing).toNatClampNeg)], zh, M)) rfl trivial ?_
          cases h
          exact zF_ret rfl trivial
        · rw [if_pos c8] at h
          obtain ⟨g9, h⟩ := zq_some h
          refine zF_go (n := 6) (ps := [vp_in ((p_sort * 4) + p_thing) 20]) (s' := (108, [(7, .int (M 67 ((p_shop * 4) + p_thing).toNatClampNeg)), (0, .ref 70), (2, .int p_shop), (3, .int p_thing), (6, .int ((p_sort * 4) + p_thing))], [.int (M 15 ((p_sort * 4) + p_thing).toNatClampNeg)], zh, M)) rfl ⟨g9, trivial⟩ ?_
          cases h
          exact zF_ret rfl trivial
      · intro k1 hk1 h
        try dsimp only at h
        refine zF_ne (t := 63) (u := (43, [(6, .int ((p_sort * 4) + p_thing)), (0, .ref 70), (1, .int p_sort), (2, .int p_shop), (3, .int p_thing), (4, .int p_price), (5, .int p_way)], [], zh, M)) rfl (fun c10 => ?_) (fun c10 => ?_)
        · rw [if_neg c10] at h
          exact zF_as (hk1 () _ h) rfl
        · rw [if_pos c10] at h
          obtain ⟨g11, h⟩ := zq_some h
          refine zF_go (n := 10) (ps := [vp_in ((p_shop * 4) + p_thing) 8]) (s' := (58, [(6, .int ((p_sort * 4) + p_thing)), (0, .ref 70), (1, .int p_sort), (2, .int p_shop), (3, .int p_thing), (4, .int p_price), (5, .int p_way)], [.int (M 66 ((p_shop * 4) + p_thing).toNatClampNeg), .int p_price], zh, M)) rfl ⟨g11, trivial⟩ ?_
          refine zF_lt (t := 63) (u := (61, [(6, .int ((p_sort * 4) + p_thing)), (0, .ref 70), (1, .int p_sort), (2, .int p_shop), (3, .int p_thing), (4, .int p_price), (5, .int p_way)], [], zh, M)) rfl (fun c12 => ?_) (fun c12 => ?_)
          · rw [if_pos c12] at h
            exact zF_as (hk1 () _ h) rfl
          · rw [if_neg c12] at h
            refine zF_go (n := 1) (ps := []) (s' := (62, [(6, .int ((p_sort * 4) + p_thing)), (0, .ref 70), (1, .int p_sort), (2, .int p_shop), (3, .int p_thing), (4, .int p_price), (5, .int p_way)], [.int 0], zh, M)) rfl trivial ?_
            cases h
            exact zF_ret rfl trivial
    · rw [if_pos c5] at h
      refine zF_go (n := 1) (ps := []) (s' := (36, [], [.int 0], zh, M)) rfl trivial ?_
      cases h
      exact zF_ret rfl trivial
noncomputable def qW_gainAt (M : zM) (p_sort : Int32) (p_shop : Int32) (p_thing : Int32) (p_price : Int32) (p_way : Int32) : Option (Int32) :=
  zb (qW_wantedAt M p_sort p_shop p_thing p_price p_way) fun x1 =>
  if x1 = 0 then
    (some 0)
  else
    (zq (vp_in ((p_sort * 4) + p_thing) 20) <| some (x1 * ((M 16 ((p_sort * 4) + p_thing).toNatClampNeg) - p_price)))
set_option maxRecDepth 20000 in
set_option maxHeartbeats 4000000 in
theorem qW_gainAt_ok {S : zSc} {M : zM} {p_sort : Int32} {p_shop : Int32} {p_thing : Int32} {p_price : Int32} {p_way : Int32} {r : Int32} (h : qW_gainAt M p_sort p_shop p_thing p_price p_way = some r) : zF S 68 (0, [(0, .ref 70), (1, .int p_sort), (2, .int p_shop), (3, .int p_thing), (4, .int p_price), (5, .int p_way)], [], zh, M) (some (.int r)) (M) := by
  unfold qW_gainAt at h
  refine zF_go (n := 6) (ps := []) (s' := (8, [(0, .ref 70), (1, .int p_sort), (2, .int p_shop), (3, .int p_thing), (4, .int p_price), (5, .int p_way)], [.int p_way, .int p_price, .int p_thing, .int p_shop, .int p_sort, .ref 70], zh, M)) rfl trivial ?_
  obtain ⟨x1, e2, h⟩ := zb_some h
  refine zF_call (y' := 67) (as := [.ref 70, .int p_sort, .int p_shop, .int p_thing, .int p_price, .int p_way]) (u := (11, [(0, .ref 70), (1, .int p_sort), (2, .int p_shop), (3, .int p_thing), (4, .int p_price), (5, .int p_way)], [], zh, M)) rfl ⟨rfl, rfl⟩ rfl (qW_wantedAt_ok (S := S) (M := M) e2) ?_
  show zF S 68 (11, [(0, .ref 70), (1, .int p_sort), (2, .int p_shop), (3, .int p_thing), (4, .int p_price), (5, .int p_way)], [.int x1], zh, M) _ _
  refine zF_go (n := 2) (ps := []) (s' := (15, [(6, .int x1), (0, .ref 70), (1, .int p_sort), (2, .int p_shop), (3, .int p_thing), (4, .int p_price), (5, .int p_way)], [.int x1], zh, M)) rfl trivial ?_
  refine zF_ne (t := 22) (u := (18, [(6, .int x1), (0, .ref 70), (1, .int p_sort), (2, .int p_shop), (3, .int p_thing), (4, .int p_price), (5, .int p_way)], [], zh, M)) rfl (fun c3 => ?_) (fun c3 => ?_)
  · rw [if_neg c3] at h
    obtain ⟨g4, h⟩ := zq_some h
    refine zF_go (n := 13) (ps := [vp_in ((p_sort * 4) + p_thing) 20]) (s' := (41, [(6, .int x1), (0, .ref 70), (1, .int p_sort), (2, .int p_shop), (3, .int p_thing), (4, .int p_price), (5, .int p_way)], [.int (x1 * ((M 16 ((p_sort * 4) + p_thing).toNatClampNeg) - p_price))], zh, M)) rfl ⟨g4, trivial⟩ ?_
    cases h
    exact zF_ret rfl trivial
  · rw [if_pos c3] at h
    refine zF_go (n := 2) (ps := []) (s' := (41, [(6, .int x1), (0, .ref 70), (1, .int p_sort), (2, .int p_shop), (3, .int p_thing), (4, .int p_price), (5, .int p_way)], [.int 0], zh, M)) rfl trivial ?_
    cases h
    exact zF_ret rfl trivial
noncomputable def qW_learnThing_L40 (p_thing : Int32) (v3_1 : Int32) (p_shop : Int32) (M2 : zM) (rec3 : (Int32 × zM) → Option (zM)) (rec6 : (Int32 × zM) → Option (zM)) (v : Int32 × zM) : Option (zM) := match v with
  | (v6_4, M5) =>
    zq (vp_in p_thing 4) <| if v6_4 < (M5 64 p_thing.toNatClampNeg) then
      (zq (vp_in ((p_thing * 3) + v6_4) 12) <| zb (qW_takenFor M5 v3_1 p_shop p_thing (M5 65 ((p_thing * 3) + v6_4).toNatClampNeg)) fun x7 =>
      zb (qW_gainAt M5 v3_1 p_shop p_thing x7 (M2 13 v3_1.toNatClampNeg)) fun x8 =>
      zq (vp_in ((((((v3_1 * 2) + p_shop) * 4) + p_thing) * 3) + v6_4) 120) <| zb (qW_wantedAt (zw M5 71 ((((((v3_1 * 2) + p_shop) * 4) + p_thing) * 3) + v6_4).toNatClampNeg x8) v3_1 p_shop p_thing (M5 65 ((p_thing * 3) + v6_4).toNatClampNeg) (M2 13 v3_1.toNatClampNeg)) fun x9 =>
      zq (vp_in ((((((v3_1 * 2) + p_shop) * 4) + p_thing) * 3) + v6_4) 120) <| rec6 ((v6_4 + 1), (zw (zw M5 71 ((((((v3_1 * 2) + p_shop) * 4) + p_thing) * 3) + v6_4).toNatClampNeg x8) 72 ((((((v3_1 * 2) + p_shop) * 4) + p_thing) * 3) + v6_4).toNatClampNeg x9)))
    else
      (rec3 ((v3_1 + 1), M5))
noncomputable def qW_learnThing_L2 (p_thing : Int32) (p_shop : Int32) (rec3 : (Int32 × zM) → Option (zM)) (v : Int32 × zM) : Option (zM) := match v with
  | (v3_1, M2) =>
    if v3_1 < (M2 10 0) then
      (zq (vp_in v3_1 5) <| zlp (qW_learnThing_L40 p_thing v3_1 p_shop M2 rec3) zfu (0, M2))
    else
      (some M2)
noncomputable def qW_learnThing (M : zM) (p_shop : Int32) (p_thing : Int32) : Option (zM) :=
  zlp (qW_learnThing_L2 p_thing p_shop) zfu (0, M)
set_option maxRecDepth 20000 in
set_option maxHeartbeats 4000000 in
theorem qW_learnThing_ok {S : zSc} {M : zM} {p_shop : Int32} {p_thing : Int32} {r : zM} (h : qW_learnThing M p_shop p_thing = some r) : zF S 65 (0, [(0, .ref 70), (1, .int p_shop), (2, .int p_thing)], [], zh, M) (none) (r) := by
  unfold qW_learnThing at h
  refine zF_go (n := 2) (ps := []) (s' := (2, [(3, .int 0), (0, .ref 70), (1, .int p_shop), (2, .int p_thing)], [], zh, M)) rfl trivial ?_
  refine zF_same (s' := (2, [(0, .ref 70), (1, .int p_shop), (2, .int p_thing), (3, .int 0)], [], zh, M)) rfl ?_
  refine zlp_ind (P := fun (v : Int32 × zM) r => zF S 65 (2, [(0, .ref 70), (1, .int p_shop), (2, .int p_thing), (3, .int v.1)], [], zh, v.2) (none) (r)) ?_ _ _ _ h
  intro rec3 hrec3 v r h
  obtain ⟨v3_1, M2⟩ := v
  unfold qW_learnThing_L2 at h
  dsimp only at h
  show zF S 65 (2, [(0, .ref 70), (1, .int p_shop), (2, .int p_thing), (3, .int v3_1)], [], zh, M2) _ _
  refine zF_go (n := 4) (ps := []) (s' := (10, [(0, .ref 70), (1, .int p_shop), (2, .int p_thing), (3, .int v3_1)], [.int (M2 10 0), .int v3_1], zh, M2)) rfl trivial ?_
  refine zF_ge (t := 131) (u := (13, [(0, .ref 70), (1, .int p_shop), (2, .int p_thing), (3, .int v3_1)], [], zh, M2)) rfl (fun c10 => ?_) (fun c10 => ?_)
  · rw [if_neg c10] at h
    cases h
    exact zF_ret rfl trivial
  · rw [if_pos c10] at h
    obtain ⟨g11, h⟩ := zq_some h
    refine zF_go (n := 20) (ps := [vp_in v3_1 5]) (s' := (40, [(6, .int 0), (5, .int (M2 13 v3_1.toNatClampNeg)), (4, .int (((((v3_1 * 2) + p_shop) * 4) + p_thing) * 3)), (0, .ref 70), (1, .int p_shop), (2, .int p_thing), (3, .int v3_1)], [], zh, M2)) rfl ⟨g11, trivial⟩ ?_
    refine zF_same (s' := (40, [(0, .ref 70), (1, .int p_shop), (2, .int p_thing), (3, .int v3_1), (4, .int (((((v3_1 * 2) + p_shop) * 4) + p_thing) * 3)), (5, .int (M2 13 v3_1.toNatClampNeg)), (6, .int 0)], [], zh, M2)) rfl ?_
    refine zlp_ind (P := fun (v : Int32 × zM) r => zF S 65 (40, [(0, .ref 70), (1, .int p_shop), (2, .int p_thing), (3, .int v3_1), (4, .int (((((v3_1 * 2) + p_shop) * 4) + p_thing) * 3)), (5, .int (M2 13 v3_1.toNatClampNeg)), (6, .int v.1)], [], zh, v.2) (none) (r)) ?_ _ _ _ h
    intro rec6 hrec6 v r h
    obtain ⟨v6_4, M5⟩ := v
    unfold qW_learnThing_L40 at h
    dsimp only at h
    show zF S 65 (40, [(0, .ref 70), (1, .int p_shop), (2, .int p_thing), (3, .int v3_1), (4, .int (((((v3_1 * 2) + p_shop) * 4) + p_thing) * 3)), (5, .int (M2 13 v3_1.toNatClampNeg)), (6, .int v6_4)], [], zh, M5) _ _
    obtain ⟨g12, h⟩ := zq_some h
    refine zF_go (n := 6) (ps := [vp_in p_thing 4]) (s' := (51, [(0, .ref 70), (1, .int p_shop), (2, .int p_thing), (3, .int v3_1), (4, .int (((((v3_1 * 2) + p_shop) * 4) + p_thing) * 3)), (5, .int (M2 13 v3_1.toNatClampNeg)), (6, .int v6_4)], [.int (M5 64 p_thing.toNatClampNeg), .int v6_4], zh, M5)) rfl ⟨g12, trivial⟩ ?_
    refine zF_ge (t := 125) (u := (54, [(0, .ref 70), (1, .int p_shop), (2, .int p_thing), (3, .int v3_1), (4, .int (((((v3_1 * 2) + p_shop) * 4) + p_thing) * 3)), (5, .int (M2 13 v3_1.toNatClampNeg)), (6, .int v6_4)], [], zh, M5)) rfl (fun c13 => ?_) (fun c13 => ?_)
    · rw [if_neg c13] at h
      refine zF_go (n := 2) (ps := []) (s' := (2, [(3, .int (v3_1 + 1)), (0, .ref 70), (1, .int p_shop), (2, .int p_thing), (4, .int (((((v3_1 * 2) + p_shop) * 4) + p_thing) * 3)), (5, .int (M2 13 v3_1.toNatClampNeg)), (6, .int v6_4)], [], zh, M5)) rfl trivial ?_
      exact zF_as (hrec3 _ _ h) rfl
    · rw [if_pos c13] at h
      obtain ⟨g14, h⟩ := zq_some h
      refine zF_go (n := 24) (ps := [vp_in ((p_thing * 3) + v6_4) 12]) (s' := (89, [(7, .int (M5 65 ((p_thing * 3) + v6_4).toNatClampNeg)), (0, .ref 70), (1, .int p_shop), (2, .int p_thing), (3, .int v3_1), (4, .int (((((v3_1 * 2) + p_shop) * 4) + p_thing) * 3)), (5, .int (M2 13 v3_1.toNatClampNeg)), (6, .int v6_4)], [.int (M5 65 ((p_thing * 3) + v6_4).toNatClampNeg), .int p_thing, .int p_shop, .int v3_1, .ref 70, .int p_thing, .int p_shop, .int v3_1, .ref 70, .int ((((((v3_1 * 2) + p_shop) * 4) + p_thing) * 3) + v6_4), .ref 71], zh, M5)) rfl ⟨g14, trivial⟩ ?_
      obtain ⟨x7, e15, h⟩ := zb_some h
      refine zF_call (y' := 66) (as := [.ref 70, .int v3_1, .int p_shop, .int p_thing, .int (M5 65 ((p_thing * 3) + v6_4).toNatClampNeg)]) (u := (92, [(7, .int (M5 65 ((p_thing * 3) + v6_4).toNatClampNeg)), (0, .ref 70), (1, .int p_shop), (2, .int p_thing), (3, .int v3_1), (4, .int (((((v3_1 * 2) + p_shop) * 4) + p_thing) * 3)), (5, .int (M2 13 v3_1.toNatClampNeg)), (6, .int v6_4)], [.int p_thing, .int p_shop, .int v3_1, .ref 70, .int ((((((v3_1 * 2) + p_shop) * 4) + p_thing) * 3) + v6_4), .ref 71], zh, M5)) rfl ⟨rfl, rfl⟩ rfl (qW_takenFor_ok (S := S) (M := M5) e15) ?_
      show zF S 65 (92, [(7, .int (M5 65 ((p_thing * 3) + v6_4).toNatClampNeg)), (0, .ref 70), (1, .int p_shop), (2, .int p_thing), (3, .int v3_1), (4, .int (((((v3_1 * 2) + p_shop) * 4) + p_thing) * 3)), (5, .int (M2 13 v3_1.toNatClampNeg)), (6, .int v6_4)], [.int x7, .int p_thing, .int p_shop, .int v3_1, .ref 70, .int ((((((v3_1 * 2) + p_shop) * 4) + p_thing) * 3) + v6_4), .ref 71], zh, M5) _ _
      refine zF_go (n := 1) (ps := []) (s' := (94, [(7, .int (M5 65 ((p_thing * 3) + v6_4).toNatClampNeg)), (0, .ref 70), (1, .int p_shop), (2, .int p_thing), (3, .int v3_1), (4, .int (((((v3_1 * 2) + p_shop) * 4) + p_thing) * 3)), (5, .int (M2 13 v3_1.toNatClampNeg)), (6, .int v6_4)], [.int (M2 13 v3_1.toNatClampNeg), .int x7, .int p_thing, .int p_shop, .int v3_1, .ref 70, .int ((((((v3_1 * 2) + p_shop) * 4) + p_thing) * 3) + v6_4), .ref 71], zh, M5)) rfl trivial ?_
      obtain ⟨x8, e16, h⟩ := zb_some h
      refine zF_call (y' := 68) (as := [.ref 70, .int v3_1, .int p_shop, .int p_thing, .int x7, .int (M2 13 v3_1.toNatClampNeg)]) (u := (97, [(7, .int (M5 65 ((p_thing * 3) + v6_4).toNatClampNeg)), (0, .ref 70), (1, .int p_shop), (2, .int p_thing), (3, .int v3_1), (4, .int (((((v3_1 * 2) + p_shop) * 4) + p_thing) * 3)), (5, .int (M2 13 v3_1.toNatClampNeg)), (6, .int v6_4)], [.int ((((((v3_1 * 2) + p_shop) * 4) + p_thing) * 3) + v6_4), .ref 71], zh, M5)) rfl ⟨rfl, rfl⟩ rfl (qW_gainAt_ok (S := S) (M := M5) e16) ?_
      show zF S 65 (97, [(7, .int (M5 65 ((p_thing * 3) + v6_4).toNatClampNeg)), (0, .ref 70), (1, .int p_shop), (2, .int p_thing), (3, .int v3_1), (4, .int (((((v3_1 * 2) + p_shop) * 4) + p_thing) * 3)), (5, .int (M2 13 v3_1.toNatClampNeg)), (6, .int v6_4)], [.int x8, .int ((((((v3_1 * 2) + p_shop) * 4) + p_thing) * 3) + v6_4), .ref 71], zh, M5) _ _
      obtain ⟨g17, h⟩ := zq_some h
      refine zF_go (n := 12) (ps := [vp_in ((((((v3_1 * 2) + p_shop) * 4) + p_thing) * 3) + v6_4) 120]) (s' := (115, [(7, .int (M5 65 ((p_thing * 3) + v6_4).toNatClampNeg)), (0, .ref 70), (1, .int p_shop), (2, .int p_thing), (3, .int v3_1), (4, .int (((((v3_1 * 2) + p_shop) * 4) + p_thing) * 3)), (5, .int (M2 13 v3_1.toNatClampNeg)), (6, .int v6_4)], [.int (M2 13 v3_1.toNatClampNeg), .int (M5 65 ((p_thing * 3) + v6_4).toNatClampNeg), .int p_thing, .int p_shop, .int v3_1, .ref 70, .int ((((((v3_1 * 2) + p_shop) * 4) + p_thing) * 3) + v6_4), .ref 72], zh, (zw M5 71 ((((((v3_1 * 2) + p_shop) * 4) + p_thing) * 3) + v6_4).toNatClampNeg x8))) rfl ⟨g17, trivial⟩ ?_
      obtain ⟨x9, e18, h⟩ := zb_some h
      refine zF_call (y' := 67) (as := [.ref 70, .int v3_1, .int p_shop, .int p_thing, .int (M5 65 ((p_thing * 3) + v6_4).toNatClampNeg), .int (M2 13 v3_1.toNatClampNeg)]) (u := (118, [(7, .int (M5 65 ((p_thing * 3) + v6_4).toNatClampNeg)), (0, .ref 70), (1, .int p_shop), (2, .int p_thing), (3, .int v3_1), (4, .int (((((v3_1 * 2) + p_shop) * 4) + p_thing) * 3)), (5, .int (M2 13 v3_1.toNatClampNeg)), (6, .int v6_4)], [.int ((((((v3_1 * 2) + p_shop) * 4) + p_thing) * 3) + v6_4), .ref 72], zh, (zw M5 71 ((((((v3_1 * 2) + p_shop) * 4) + p_thing) * 3) + v6_4).toNatClampNeg x8))) rfl ⟨rfl, rfl⟩ rfl (qW_wantedAt_ok (S := S) (M := (zw M5 71 ((((((v3_1 * 2) + p_shop) * 4) + p_thing) * 3) + v6_4).toNatClampNeg x8)) e18) ?_
      show zF S 65 (118, [(7, .int (M5 65 ((p_thing * 3) + v6_4).toNatClampNeg)), (0, .ref 70), (1, .int p_shop), (2, .int p_thing), (3, .int v3_1), (4, .int (((((v3_1 * 2) + p_shop) * 4) + p_thing) * 3)), (5, .int (M2 13 v3_1.toNatClampNeg)), (6, .int v6_4)], [.int x9, .int ((((((v3_1 * 2) + p_shop) * 4) + p_thing) * 3) + v6_4), .ref 72], zh, (zw M5 71 ((((((v3_1 * 2) + p_shop) * 4) + p_thing) * 3) + v6_4).toNatClampNeg x8)) _ _
      obtain ⟨g19, h⟩ := zq_some h
      refine zF_go (n := 3) (ps := [vp_in ((((((v3_1 * 2) + p_shop) * 4) + p_thing) * 3) + v6_4) 120]) (s' := (40, [(6, .int (v6_4 + 1)), (7, .int (M5 65 ((p_thing * 3) + v6_4).toNatClampNeg)), (0, .ref 70), (1, .int p_shop), (2, .int p_thing), (3, .int v3_1), (4, .int (((((v3_1 * 2) + p_shop) * 4) + p_thing) * 3)), (5, .int (M2 13 v3_1.toNatClampNeg))], [], zh, (zw (zw M5 71 ((((((v3_1 * 2) + p_shop) * 4) + p_thing) * 3) + v6_4).toNatClampNeg x8) 72 ((((((v3_1 * 2) + p_shop) * 4) + p_thing) * 3) + v6_4).toNatClampNeg x9))) rfl ⟨g19, trivial⟩ ?_
      exact zF_as (hrec6 _ _ h) rfl
noncomputable def qW_learn_L9 (v1_1 : Int32) (rec3 : (Int32 × zM) → Option (zM)) (rec6 : (Int32 × zM) → Option (zM)) (v : Int32 × zM) : Option (zM) := match v with
  | (v2_4, M5) =>
    if v2_4 < (M5 63 0) then
      (zb (qW_learnThing M5 v1_1 v2_4) fun M7 =>
      rec6 ((v2_4 + 1), M7))
    else
      (rec3 ((v1_1 + 1), M5))
noncomputable def qW_learn_L2 (rec3 : (Int32 × zM) → Option (zM)) (v : Int32 × zM) : Option (zM) := match v with
  | (v1_1, M2) =>
    if v1_1 < 2 then
      (zlp (qW_learn_L9 v1_1 rec3) zfu (0, M2))
    else
      (some M2)
noncomputable def qW_learn (M : zM) : Option (zM) :=
  zlp (qW_learn_L2) zfu (0, M)
set_option maxRecDepth 20000 in
set_option maxHeartbeats 4000000 in
theorem qW_learn_ok {S : zSc} {M : zM} {r : zM} (h : qW_learn M = some r) : zF S 64 (0, [(0, .ref 70)], [], zh, M) (none) (r) := by
  unfold qW_learn at h
  refine zF_go (n := 2) (ps := []) (s' := (2, [(1, .int 0), (0, .ref 70)], [], zh, M)) rfl trivial ?_
  refine zF_same (s' := (2, [(0, .ref 70), (1, .int 0)], [], zh, M)) rfl ?_
  refine zlp_ind (P := fun (v : Int32 × zM) r => zF S 64 (2, [(0, .ref 70), (1, .int v.1)], [], zh, v.2) (none) (r)) ?_ _ _ _ h
  intro rec3 hrec3 v r h
  obtain ⟨v1_1, M2⟩ := v
  unfold qW_learn_L2 at h
  dsimp only at h
  show zF S 64 (2, [(0, .ref 70), (1, .int v1_1)], [], zh, M2) _ _
  refine zF_go (n := 2) (ps := []) (s' := (4, [(0, .ref 70), (1, .int v1_1)], [.int 2, .int v1_1], zh, M2)) rfl trivial ?_
  refine zF_ge (t := 38) (u := (7, [(0, .ref 70), (1, .int v1_1)], [], zh, M2)) rfl (fun c8 => ?_) (fun c8 => ?_)
  · rw [if_neg c8] at h
    cases h
    exact zF_ret rfl trivial
  · rw [if_pos c8] at h
    refine zF_go (n := 2) (ps := []) (s' := (9, [(2, .int 0), (0, .ref 70), (1, .int v1_1)], [], zh, M2)) rfl trivial ?_
    refine zF_same (s' := (9, [(0, .ref 70), (1, .int v1_1), (2, .int 0)], [], zh, M2)) rfl ?_
    refine zlp_ind (P := fun (v : Int32 × zM) r => zF S 64 (9, [(0, .ref 70), (1, .int v1_1), (2, .int v.1)], [], zh, v.2) (none) (r)) ?_ _ _ _ h
    intro rec6 hrec6 v r h
    obtain ⟨v2_4, M5⟩ := v
    unfold qW_learn_L9 at h
    dsimp only at h
    show zF S 64 (9, [(0, .ref 70), (1, .int v1_1), (2, .int v2_4)], [], zh, M5) _ _
    refine zF_go (n := 4) (ps := []) (s' := (17, [(0, .ref 70), (1, .int v1_1), (2, .int v2_4)], [.int (M5 63 0), .int v2_4], zh, M5)) rfl trivial ?_
    refine zF_ge (t := 32) (u := (20, [(0, .ref 70), (1, .int v1_1), (2, .int v2_4)], [], zh, M5)) rfl (fun c9 => ?_) (fun c9 => ?_)
    · rw [if_neg c9] at h
      refine zF_go (n := 2) (ps := []) (s' := (2, [(1, .int (v1_1 + 1)), (0, .ref 70), (2, .int v2_4)], [], zh, M5)) rfl trivial ?_
      exact zF_as (hrec3 _ _ h) rfl
    · rw [if_pos c9] at h
      refine zF_go (n := 3) (ps := []) (s' := (23, [(0, .ref 70), (1, .int v1_1), (2, .int v2_4)], [.int v2_4, .int v1_1, .ref 70], zh, M5)) rfl trivial ?_
      obtain ⟨M7, e10, h⟩ := zb_some h
      refine zF_call (y' := 65) (as := [.ref 70, .int v1_1, .int v2_4]) (u := (26, [(0, .ref 70), (1, .int v1_1), (2, .int v2_4)], [], zh, M5)) rfl ⟨rfl, rfl⟩ rfl (qW_learnThing_ok (S := S) (M := M5) e10) ?_
      show zF S 64 (26, [(0, .ref 70), (1, .int v1_1), (2, .int v2_4)], [], zh, M7) _ _
      refine zF_go (n := 2) (ps := []) (s' := (9, [(2, .int (v2_4 + 1)), (0, .ref 70), (1, .int v1_1)], [], zh, M7)) rfl trivial ?_
      exact zF_as (hrec6 _ _ h) rfl
noncomputable def qS_lookAsItIs (M : zM) : Option (zM) :=
  zb (qG_copy_63_3 M) fun M1 =>
  zb (qW_learn M1) fun M2 =>
  some M2
set_option maxRecDepth 20000 in
set_option maxHeartbeats 4000000 in
theorem qS_lookAsItIs_ok {S : zSc} {M : zM} {r : zM} (h : qS_lookAsItIs M = some r) : zF S 132 (0, [(0, .ref 1)], [], zh, M) (none) (r) := by
  unfold qS_lookAsItIs at h
  refine zF_go (n := 5) (ps := []) (s' := (11, [(0, .ref 1)], [.ref 3, .ref 63], zh, M)) rfl trivial ?_
  obtain ⟨M1, e3, h⟩ := zb_some h
  refine zF_call (y' := 13) (as := [.ref 63, .ref 3]) (u := (14, [(0, .ref 1)], [], zh, M)) rfl ⟨rfl, rfl⟩ rfl (qG_copy_63_3_ok (S := S) (M := M) e3) ?_
  show zF S 132 (14, [(0, .ref 1)], [], zh, M1) _ _
  refine zF_go (n := 2) (ps := []) (s' := (18, [(0, .ref 1)], [.ref 70], zh, M1)) rfl trivial ?_
  obtain ⟨M2, e4, h⟩ := zb_some h
  refine zF_call (y' := 64) (as := [.ref 70]) (u := (21, [(0, .ref 1)], [], zh, M1)) rfl ⟨rfl, rfl⟩ rfl (qW_learn_ok (S := S) (M := M1) e4) ?_
  show zF S 132 (21, [(0, .ref 1)], [], zh, M2) _ _
  cases h
  exact zF_ret rfl trivial
noncomputable def qW_cell (M : zM) (p_sort : Int32) (p_shop : Int32) (p_thing : Int32) : Option (Int32) :=
  zq (vp_in ((p_shop * 4) + p_thing) 8) <| some (((((p_sort * 2) * 4) + ((p_shop * 4) + p_thing)) * 3) + (M 68 ((p_shop * 4) + p_thing).toNatClampNeg))
set_option maxRecDepth 20000 in
set_option maxHeartbeats 4000000 in
theorem qW_cell_ok {S : zSc} {M : zM} {p_sort : Int32} {p_shop : Int32} {p_thing : Int32} {r : Int32} (h : qW_cell M p_sort p_shop p_thing = some r) : zF S 72 (0, [(0, .ref 70), (1, .int p_sort), (2, .int p_shop), (3, .int p_thing)], [], zh, M) (some (.int r)) (M) := by
  unfold qW_cell at h
  obtain ⟨g1, h⟩ := zq_some h
  refine zF_go (n := 21) (ps := [vp_in ((p_shop * 4) + p_thing) 8]) (s' := (28, [(4, .int ((p_shop * 4) + p_thing)), (0, .ref 70), (1, .int p_sort), (2, .int p_shop), (3, .int p_thing)], [.int (((((p_sort * 2) * 4) + ((p_shop * 4) + p_thing)) * 3) + (M 68 ((p_shop * 4) + p_thing).toNatClampNeg))], zh, M)) rfl ⟨g1, trivial⟩ ?_
  cases h
  exact zF_ret rfl trivial
noncomputable def qW_thoughtOf_L18 (M : zM) (p_sort : Int32) (p_shop : Int32) (rec3 : (Int32 × Int32) → Option (Int32)) (v : Int32 × Int32) : Option (Int32) := match v with
  | (v3_1, v4_2) =>
    if v4_2 < (M 63 0) then
      (zb (qW_cell M p_sort p_shop v4_2) fun x4 =>
      zq (vp_in x4 120) <| rec3 ((v3_1 + (M 71 x4.toNatClampNeg)), (v4_2 + 1)))
    else
      (some v3_1)
noncomputable def qW_thoughtOf (M : zM) (p_sort : Int32) (p_shop : Int32) : Option (Int32) :=
  zq (vp_in ((p_sort * 2) + p_shop) 10) <| zlp (qW_thoughtOf_L18 M p_sort p_shop) zfu ((-(M 12 ((p_sort * 2) + p_shop).toNatClampNeg)), 0)
set_option maxRecDepth 20000 in
set_option maxHeartbeats 4000000 in
theorem qW_thoughtOf_ok {S : zSc} {M : zM} {p_sort : Int32} {p_shop : Int32} {r : Int32} (h : qW_thoughtOf M p_sort p_shop = some r) : zF S 69 (0, [(0, .ref 70), (1, .int p_sort), (2, .int p_shop)], [], zh, M) (some (.int r)) (M) := by
  unfold qW_thoughtOf at h
  obtain ⟨g5, h⟩ := zq_some h
  refine zF_go (n := 13) (ps := [vp_in ((p_sort * 2) + p_shop) 10]) (s' := (18, [(4, .int 0), (3, .int (-(M 12 ((p_sort * 2) + p_shop).toNatClampNeg))), (0, .ref 70), (1, .int p_sort), (2, .int p_shop)], [], zh, M)) rfl ⟨g5, trivial⟩ ?_
  refine zF_same (s' := (18, [(0, .ref 70), (1, .int p_sort), (2, .int p_shop), (3, .int (-(M 12 ((p_sort * 2) + p_shop).toNatClampNeg))), (4, .int 0)], [], zh, M)) rfl ?_
  refine zlp_ind (P := fun (v : Int32 × Int32) r => zF S 69 (18, [(0, .ref 70), (1, .int p_sort), (2, .int p_shop), (3, .int v.1), (4, .int v.2)], [], zh, M) (some (.int r)) (M)) ?_ _ _ _ h
  intro rec3 hrec3 v r h
  obtain ⟨v3_1, v4_2⟩ := v
  unfold qW_thoughtOf_L18 at h
  dsimp only at h
  show zF S 69 (18, [(0, .ref 70), (1, .int p_sort), (2, .int p_shop), (3, .int v3_1), (4, .int v4_2)], [], zh, M) _ _
  refine zF_go (n := 4) (ps := []) (s' := (27, [(0, .ref 70), (1, .int p_sort), (2, .int p_shop), (3, .int v3_1), (4, .int v4_2)], [.int (M 63 0), .int v4_2], zh, M)) rfl trivial ?_
  refine zF_ge (t := 52) (u := (30, [(0, .ref 70), (1, .int p_sort), (2, .int p_shop), (3, .int v3_1), (4, .int v4_2)], [], zh, M)) rfl (fun c6 => ?_) (fun c6 => ?_)
  · rw [if_neg c6] at h
    refine zF_go (n := 1) (ps := []) (s' := (53, [(0, .ref 70), (1, .int p_sort), (2, .int p_shop), (3, .int v3_1), (4, .int v4_2)], [.int v3_1], zh, M)) rfl trivial ?_
    cases h
    exact zF_ret rfl trivial
  · rw [if_pos c6] at h
    refine zF_go (n := 7) (ps := []) (s' := (40, [(0, .ref 70), (1, .int p_sort), (2, .int p_shop), (3, .int v3_1), (4, .int v4_2)], [.int v4_2, .int p_shop, .int p_sort, .ref 70, .ref 71, .int v3_1], zh, M)) rfl trivial ?_
    obtain ⟨x4, e7, h⟩ := zb_some h
    refine zF_call (y' := 72) (as := [.ref 70, .int p_sort, .int p_shop, .int v4_2]) (u := (43, [(0, .ref 70), (1, .int p_sort), (2, .int p_shop), (3, .int v3_1), (4, .int v4_2)], [.ref 71, .int v3_1], zh, M)) rfl ⟨rfl, rfl⟩ rfl (qW_cell_ok (S := S) (M := M) e7) ?_
    show zF S 69 (43, [(0, .ref 70), (1, .int p_sort), (2, .int p_shop), (3, .int v3_1), (4, .int v4_2)], [.int x4, .ref 71, .int v3_1], zh, M) _ _
    obtain ⟨g8, h⟩ := zq_some h
    refine zF_go (n := 5) (ps := [vp_in x4 120]) (s' := (18, [(4, .int (v4_2 + 1)), (3, .int (v3_1 + (M 71 x4.toNatClampNeg))), (0, .ref 70), (1, .int p_sort), (2, .int p_shop)], [], zh, M)) rfl ⟨g8, trivial⟩ ?_
    exact zF_as (hrec3 _ _ h) rfl
noncomputable def qG_priceNow (M : zM) (p_shop : Int32) (p_thing : Int32) : Option (Int32) :=
  zq (vp_in ((p_shop * 4) + p_thing) 8) <| zq (vp_in ((p_thing * 3) + (M 68 ((p_shop * 4) + p_thing).toNatClampNeg)) 12) <| some (M 65 ((p_thing * 3) + (M 68 ((p_shop * 4) + p_thing).toNatClampNeg)).toNatClampNeg)
set_option maxRecDepth 20000 in
set_option maxHeartbeats 4000000 in
theorem qG_priceNow_ok {S : zSc} {M : zM} {p_shop : Int32} {p_thing : Int32} {r : Int32} (h : qG_priceNow M p_shop p_thing = some r) : zF S 17 (0, [(0, .ref 63), (1, .int p_shop), (2, .int p_thing)], [], zh, M) (some (.int r)) (M) := by
  unfold qG_priceNow at h
  obtain ⟨g1, h⟩ := zq_some h
  obtain ⟨g2, h⟩ := zq_some h
  refine zF_go (n := 15) (ps := [vp_in ((p_shop * 4) + p_thing) 8, vp_in ((p_thing * 3) + (M 68 ((p_shop * 4) + p_thing).toNatClampNeg)) 12]) (s' := (19, [(0, .ref 63), (1, .int p_shop), (2, .int p_thing)], [.int (M 65 ((p_thing * 3) + (M 68 ((p_shop * 4) + p_thing).toNatClampNeg)).toNatClampNeg)], zh, M)) rfl ⟨g1, g2, trivial⟩ ?_
  cases h
  exact zF_ret rfl trivial
noncomputable def qW_freeGain (M : zM) (p_sort : Int32) (p_shop : Int32) (p_thing : Int32) : Option (Int32) :=
  zb (qG_priceNow M p_shop p_thing) fun x1 =>
  zb (qW_takenFor M p_sort p_shop p_thing x1) fun x2 =>
  zb (qW_gainAt M p_sort p_shop p_thing x2 1) fun x3 =>
  some x3
set_option maxRecDepth 20000 in
set_option maxHeartbeats 4000000 in
theorem qW_freeGain_ok {S : zSc} {M : zM} {p_sort : Int32} {p_shop : Int32} {p_thing : Int32} {r : Int32} (h : qW_freeGain M p_sort p_shop p_thing = some r) : zF S 71 (0, [(0, .ref 70), (1, .int p_sort), (2, .int p_shop), (3, .int p_thing)], [], zh, M) (some (.int r)) (M) := by
  unfold qW_freeGain at h
  refine zF_go (n := 8) (ps := []) (s' := (10, [(0, .ref 70), (1, .int p_sort), (2, .int p_shop), (3, .int p_thing)], [.int p_thing, .int p_shop, .ref 63, .int p_thing, .int p_shop, .int p_sort, .ref 70], zh, M)) rfl trivial ?_
  obtain ⟨x1, e4, h⟩ := zb_some h
  refine zF_call (y' := 17) (as := [.ref 63, .int p_shop, .int p_thing]) (u := (13, [(0, .ref 70), (1, .int p_sort), (2, .int p_shop), (3, .int p_thing)], [.int p_thing, .int p_shop, .int p_sort, .ref 70], zh, M)) rfl ⟨rfl, rfl⟩ rfl (qG_priceNow_ok (S := S) (M := M) e4) ?_
  show zF S 71 (13, [(0, .ref 70), (1, .int p_sort), (2, .int p_shop), (3, .int p_thing)], [.int x1, .int p_thing, .int p_shop, .int p_sort, .ref 70], zh, M) _ _
  obtain ⟨x2, e5, h⟩ := zb_some h
  refine zF_call (y' := 66) (as := [.ref 70, .int p_sort, .int p_shop, .int p_thing, .int x1]) (u := (16, [(0, .ref 70), (1, .int p_sort), (2, .int p_shop), (3, .int p_thing)], [], zh, M)) rfl ⟨rfl, rfl⟩ rfl (qW_takenFor_ok (S := S) (M := M) e5) ?_
  show zF S 71 (16, [(0, .ref 70), (1, .int p_sort), (2, .int p_shop), (3, .int p_thing)], [.int x2], zh, M) _ _
  refine zF_go (n := 7) (ps := []) (s' := (25, [(4, .int x2), (0, .ref 70), (1, .int p_sort), (2, .int p_shop), (3, .int p_thing)], [.int 1, .int x2, .int p_thing, .int p_shop, .int p_sort, .ref 70], zh, M)) rfl trivial ?_
  obtain ⟨x3, e6, h⟩ := zb_some h
  refine zF_call (y' := 68) (as := [.ref 70, .int p_sort, .int p_shop, .int p_thing, .int x2, .int 1]) (u := (28, [(4, .int x2), (0, .ref 70), (1, .int p_sort), (2, .int p_shop), (3, .int p_thing)], [], zh, M)) rfl ⟨rfl, rfl⟩ rfl (qW_gainAt_ok (S := S) (M := M) e6) ?_
  show zF S 71 (28, [(4, .int x2), (0, .ref 70), (1, .int p_sort), (2, .int p_shop), (3, .int p_thing)], [.int x3], zh, M) _ _
  cases h
  exact zF_ret rfl trivial
end ZT
