section ZT
noncomputable def qM_findBoth_L166 (x3 : Int32) (v6_9 : Int32) (rec11 : (Int32 × zM) → Option (Int32 × zM)) (rec17 : (Int32 × zM) → Option (Int32 × zM)) (v : Int32 × zM) : Option (Int32 × zM) := match v with
  | (v7_15, M16) =>
    if v7_15 < x3 then
      (zb (qM_lay M16 1 v7_15) fun M18 =>
      zb (qM_at 0 v6_9 v7_15) fun x19 =>
      zb (qM_leftOf M18 0) fun x20 =>
      zq (vp_in x19 13122) <| zb (qM_at 1 v6_9 v7_15) fun x21 =>
      zb (qM_leftOf (zw M18 101 x19.toNatClampNeg x20) 1) fun x22 =>
      zq (vp_in x21 13122) <| rec17 ((v7_15 + 1), (zw (zw M18 101 x19.toNatClampNeg x20) 101 x21.toNatClampNeg x22)))
    else
      (rec11 ((v6_9 + 1), M16))
noncomputable def qM_findBoth_L150 (x3 : Int32) (x1 : Int32) (x2 : Int32) (v4_4 : Int32) (v5_5 : Int32) (rec11 : (Int32 × zM) → Option (Int32 × zM)) (v : Int32 × zM) : Option (Int32 × zM) := match v with
  | (v6_9, M10) =>
    if v6_9 < x3 then
      (zb (qM_lay M10 0 v6_9) fun M14 =>
      zlp (qM_findBoth_L166 x3 v6_9 rec11) zfu (0, M14))
    else
      (zb (qM_lay M10 0 x1) fun M12 =>
      zb (qM_lay M12 1 x2) fun M13 =>
      if v4_4 = 0 then
        (some (0, M13))
      else
        (if v5_5 = 0 then
          (some (0, M13))
        else
          (some (1, M13))))
noncomputable def qM_findBoth_L26 (x3 : Int32) (x1 : Int32) (x2 : Int32) (rec8 : (Int32 × Int32 × Int32 × zM) → Option (Int32 × zM)) (v : Int32 × Int32 × Int32 × zM) : Option (Int32 × zM) := match v with
  | (v4_4, v5_5, v6_6, M7) =>
    if v6_6 < x3 then
      (zb (qM_lay M7 0 v6_6) fun M23 =>
      zb (qM_lay M23 1 v6_6) fun M24 =>
      zb (qM_isAllowed M24 0) fun x25 =>
      zq (vp_in v6_6 162) <| zq (x25 = 0 ∨ x25 = 1) <| zb (qM_isAllowed (zw M24 103 v6_6.toNatClampNeg x25) 1) fun x26 =>
      zq (vp_in (81 + v6_6) 162) <| zq (x26 = 0 ∨ x26 = 1) <| zb (zlj (fun (_ : Unit) =>
          some 1) fun k29 =>
        if v4_4 = 0 then
          (zq (vp_in v6_6 162) <| if ((zw (zw M24 103 v6_6.toNatClampNeg x25) 103 (81 + v6_6).toNatClampNeg x26) 103 v6_6.toNatClampNeg) = 0 then
            (some 0)
          else
            (k29 ()))
        else
          (k29 ())) fun (w28 : Int32) =>
      zb (zlj (fun (_ : Unit) =>
          some 1) fun k32 =>
        if v5_5 = 0 then
          (zq (vp_in (81 + v6_6) 162) <| if ((zw (zw M24 103 v6_6.toNatClampNeg x25) 103 (81 + v6_6).toNatClampNeg x26) 103 (81 + v6_6).toNatClampNeg) = 0 then
            (some 0)
          else
            (k32 ()))
        else
          (k32 ())) fun (w31 : Int32) =>
      zq (vp_in v6_6 162) <| zq (vp_in (81 + v6_6) 162) <| rec8 (w28, w31, (v6_6 + 1), (zw (zw (zw (zw M24 103 v6_6.toNatClampNeg x25) 103 (81 + v6_6).toNatClampNeg x26) 102 v6_6.toNatClampNeg (-6)) 102 (81 + v6_6).toNatClampNeg (-6))))
    else
      (zlp (qM_findBoth_L150 x3 x1 x2 v4_4 v5_5) zfu (0, M7))
noncomputable def qM_findBoth (M : zM) : Option (Int32 × zM) :=
  zb (qM_rowOf M 0) fun x1 =>
  zb (qM_rowOf M 1) fun x2 =>
  zb (qM_rows M) fun x3 =>
  zlp (qM_findBoth_L26 x3 x1 x2) zfu (0, 0, 0, M)
set_option maxRecDepth 20000 in
set_option maxHeartbeats 4000000 in
theorem qM_findBoth_ok {S : zSc} {M : zM} {r : Int32 × zM} (h : qM_findBoth M = some r) : zF S 189 (0, [(0, .ref 86)], [], zh, M) (some (.int r.1)) (r.2) := by
  unfold qM_findBoth at h
  refine zF_go (n := 2) (ps := []) (s' := (2, [(0, .ref 86)], [.int 0, .ref 86], zh, M)) rfl trivial ?_
  obtain ⟨x1, e33, h⟩ := zb_some h
  refine zF_call (y' := 174) (as := [.ref 86, .int 0]) (u := (5, [(0, .ref 86)], [], zh, M)) rfl ⟨rfl, rfl⟩ rfl (qM_rowOf_ok (S := S) (M := M) e33) ?_
  show zF S 189 (5, [(0, .ref 86)], [.int x1], zh, M) _ _
  refine zF_go (n := 3) (ps := []) (s' := (8, [(1, .int x1), (0, .ref 86)], [.int 1, .ref 86], zh, M)) rfl trivial ?_
  obtain ⟨x2, e34, h⟩ := zb_some h
  refine zF_call (y' := 174) (as := [.ref 86, .int 1]) (u := (11, [(1, .int x1), (0, .ref 86)], [], zh, M)) rfl ⟨rfl, rfl⟩ rfl (qM_rowOf_ok (S := S) (M := M) e34) ?_
  show zF S 189 (11, [(1, .int x1), (0, .ref 86)], [.int x2], zh, M) _ _
  refine zF_go (n := 2) (ps := []) (s' := (13, [(2, .int x2), (1, .int x1), (0, .ref 86)], [.ref 86], zh, M)) rfl trivial ?_
  obtain ⟨x3, e35, h⟩ := zb_some h
  refine zF_call (y' := 175) (as := [.ref 86]) (u := (16, [(2, .int x2), (1, .int x1), (0, .ref 86)], [], zh, M)) rfl ⟨rfl, rfl⟩ rfl (qM_rows_ok (S := S) (M := M) e35) ?_
  show zF S 189 (16, [(2, .int x2), (1, .int x1), (0, .ref 86)], [.int x3], zh, M) _ _
  refine zF_go (n := 7) (ps := []) (s' := (26, [(6, .int 0), (5, .int 0), (4, .int 0), (3, .int x3), (2, .int x2), (1, .int x1), (0, .ref 86)], [], zh, M)) rfl trivial ?_
  refine zF_same (s' := (26, [(0, .ref 86), (1, .int x1), (2, .int x2), (3, .int x3), (4, .int 0), (5, .int 0), (6, .int 0)], [], zh, M)) rfl ?_
  refine zlp_ind (P := fun (v : Int32 × Int32 × Int32 × zM) r => zF S 189 (26, [(0, .ref 86), (1, .int x1), (2, .int x2), (3, .int x3), (4, .int v.1), (5, .int v.2.1), (6, .int v.2.2.1)], [], zh, v.2.2.2) (some (.int r.1)) (r.2)) ?_ _ _ _ h
  intro rec8 hrec8 v r h
  obtain ⟨v4_4, v5_5, v6_6, M7⟩ := v
  unfold qM_findBoth_L26 at h
  dsimp only at h
  show zF S 189 (26, [(0, .ref 86), (1, .int x1), (2, .int x2), (3, .int x3), (4, .int v4_4), (5, .int v5_5), (6, .int v6_6)], [], zh, M7) _ _
  refine zF_go (n := 2) (ps := []) (s' := (29, [(0, .ref 86), (1, .int x1), (2, .int x2), (3, .int x3), (4, .int v4_4), (5, .int v5_5), (6, .int v6_6)], [.int x3, .int v6_6], zh, M7)) rfl trivial ?_
  refine zF_ge (t := 147) (u := (32, [(0, .ref 86), (1, .int x1), (2, .int x2), (3, .int x3), (4, .int v4_4), (5, .int v5_5), (6, .int v6_6)], [], zh, M7)) rfl (fun c36 => ?_) (fun c36 => ?_)
  · rw [if_neg c36] at h
    refine zF_go (n := 2) (ps := []) (s' := (150, [(6, .int 0), (0, .ref 86), (1, .int x1), (2, .int x2), (3, .int x3), (4, .int v4_4), (5, .int v5_5)], [], zh, M7)) rfl trivial ?_
    refine zF_same (s' := (150, [(0, .ref 86), (1, .int x1), (2, .int x2), (3, .int x3), (4, .int v4_4), (5, .int v5_5), (6, .int 0)], [], zh, M7)) rfl ?_
    refine zlp_ind (P := fun (v : Int32 × zM) r => zF S 189 (150, [(0, .ref 86), (1, .int x1), (2, .int x2), (3, .int x3), (4, .int v4_4), (5, .int v5_5), (6, .int v.1)], [], zh, v.2) (some (.int r.1)) (r.2)) ?_ _ _ _ h
    intro rec11 hrec11 v r h
    obtain ⟨v6_9, M10⟩ := v
    unfold qM_findBoth_L150 at h
    dsimp only at h
    show zF S 189 (150, [(0, .ref 86), (1, .int x1), (2, .int x2), (3, .int x3), (4, .int v4_4), (5, .int v5_5), (6, .int v6_9)], [], zh, M10) _ _
    refine zF_go (n := 2) (ps := []) (s' := (153, [(0, .ref 86), (1, .int x1), (2, .int x2), (3, .int x3), (4, .int v4_4), (5, .int v5_5), (6, .int v6_9)], [.int x3, .int v6_9], zh, M10)) rfl trivial ?_
    refine zF_ge (t := 227) (u := (156, [(0, .ref 86), (1, .int x1), (2, .int x2), (3, .int x3), (4, .int v4_4), (5, .int v5_5), (6, .int v6_9)], [], zh, M10)) rfl (fun c37 => ?_) (fun c37 => ?_)
    · rw [if_neg c37] at h
      refine zF_go (n := 3) (ps := []) (s' := (230, [(0, .ref 86), (1, .int x1), (2, .int x2), (3, .int x3), (4, .int v4_4), (5, .int v5_5), (6, .int v6_9)], [.int x1, .int 0, .ref 86], zh, M10)) rfl trivial ?_
      obtain ⟨M12, e38, h⟩ := zb_some h
      refine zF_call (y' := 176) (as := [.ref 86, .int 0, .int x1]) (u := (233, [(0, .ref 86), (1, .int x1), (2, .int x2), (3, .int x3), (4, .int v4_4), (5, .int v5_5), (6, .int v6_9)], [], zh, M10)) rfl ⟨rfl, rfl⟩ rfl (qM_lay_ok (S := S) (M := M10) e38) ?_
      show zF S 189 (233, [(0, .ref 86), (1, .int x1), (2, .int x2), (3, .int x3), (4, .int v4_4), (5, .int v5_5), (6, .int v6_9)], [], zh, M12) _ _
      refine zF_go (n := 3) (ps := []) (s' := (236, [(0, .ref 86), (1, .int x1), (2, .int x2), (3, .int x3), (4, .int v4_4), (5, .int v5_5), (6, .int v6_9)], [.int x2, .int 1, .ref 86], zh, M12)) rfl trivial ?_
      obtain ⟨M13, e39, h⟩ := zb_some h
      refine zF_call (y' := 176) (as := [.ref 86, .int 1, .int x2]) (u := (239, [(0, .ref 86), (1, .int x1), (2, .int x2), (3, .int x3), (4, .int v4_4), (5, .int v5_5), (6, .int v6_9)], [], zh, M12)) rfl ⟨rfl, rfl⟩ rfl (qM_lay_ok (S := S) (M := M12) e39) ?_
      show zF S 189 (239, [(0, .ref 86), (1, .int x1), (2, .int x2), (3, .int x3), (4, .int v4_4), (5, .int v5_5), (6, .int v6_9)], [], zh, M13) _ _
      refine zF_go (n := 1) (ps := []) (s' := (241, [(0, .ref 86), (1, .int x1), (2, .int x2), (3, .int x3), (4, .int v4_4), (5, .int v5_5), (6, .int v6_9)], [.int v4_4], zh, M13)) rfl trivial ?_
      refine zF_eq (t := 253) (u := (244, [(0, .ref 86), (1, .int x1), (2, .int x2), (3, .int x3), (4, .int v4_4), (5, .int v5_5), (6, .int v6_9)], [], zh, M13)) rfl (fun c40 => ?_) (fun c40 => ?_)
      · rw [if_pos c40] at h
        refine zF_go (n := 1) (ps := []) (s' := (254, [], [.int 0], zh, M13)) rfl trivial ?_
        cases h
        exact zF_ret rfl ⟨(Or.inl rfl), trivial⟩
      · rw [if_neg c40] at h
        refine zF_go (n := 1) (ps := []) (s' := (246, [(0, .ref 86), (1, .int x1), (2, .int x2), (3, .int x3), (4, .int v4_4), (5, .int v5_5), (6, .int v6_9)], [.int v5_5], zh, M13)) rfl trivial ?_
        refine zF_eq (t := 253) (u := (249, [(0, .ref 86), (1, .int x1), (2, .int x2), (3, .int x3), (4, .int v4_4), (5, .int v5_5), (6, .int v6_9)], [], zh, M13)) rfl (fun c41 => ?_) (fun c41 => ?_)
        · rw [if_pos c41] at h
          refine zF_go (n := 1) (ps := []) (s' := (254, [], [.int 0], zh, M13)) rfl trivial ?_
          cases h
          exact zF_ret rfl ⟨(Or.inl rfl), trivial⟩
        · rw [if_neg c41] at h
          refine zF_go (n := 2) (ps := []) (s' := (254, [(0, .ref 86), (1, .int x1), (2, .int x2), (3, .int x3), (4, .int v4_4), (5, .int v5_5), (6, .int v6_9)], [.int 1], zh, M13)) rfl trivial ?_
          cases h
          exact zF_ret rfl ⟨(Or.inr rfl), trivial⟩
    · rw [if_pos c37] at h
      refine zF_go (n := 3) (ps := []) (s' := (160, [(0, .ref 86), (1, .int x1), (2, .int x2), (3, .int x3), (4, .int v4_4), (5, .int v5_5), (6, .int v6_9)], [.int v6_9, .int 0, .ref 86], zh, M10)) rfl trivial ?_
      obtain ⟨M14, e42, h⟩ := zb_some h
      refine zF_call (y' := 176) (as := [.ref 86, .int 0, .int v6_9]) (u := (163, [(0, .ref 86), (1, .int x1), (2, .int x2), (3, .int x3), (4, .int v4_4), (5, .int v5_5), (6, .int v6_9)], [], zh, M10)) rfl ⟨rfl, rfl⟩ rfl (qM_lay_ok (S := S) (M := M10) e42) ?_
      show zF S 189 (163, [(0, .ref 86), (1, .int x1), (2, .int x2), (3, .int x3), (4, .int v4_4), (5, .int v5_5), (6, .int v6_9)], [], zh, M14) _ _
      refine zF_go (n := 2) (ps := []) (s' := (166, [(7, .int 0), (0, .ref 86), (1, .int x1), (2, .int x2), (3, .int x3), (4, .int v4_4), (5, .int v5_5), (6, .int v6_9)], [], zh, M14)) rfl trivial ?_
      refine zF_same (s' := (166, [(0, .ref 86), (1, .int x1), (2, .int x2), (3, .int x3), (4, .int v4_4), (5, .int v5_5), (6, .int v6_9), (7, .int 0)], [], zh, M14)) rfl ?_
      refine zlp_ind (P := fun (v : Int32 × zM) r => zF S 189 (166, [(0, .ref 86), (1, .int x1), (2, .int x2), (3, .int x3), (4, .int v4_4), (5, .int v5_5), (6, .int v6_9), (7, .int v.1)], [], zh, v.2) (some (.int r.1)) (r.2)) ?_ _ _ _ h
      intro rec17 hrec17 v r h
      obtain ⟨v7_15, M16⟩ := v
      unfold qM_findBoth_L166 at h
      dsimp only at h
      show zF S 189 (166, [(0, .ref 86), (1, .int x1), (2, .int x2), (3, .int x3), (4, .int v4_4), (5, .int v5_5), (6, .int v6_9), (7, .int v7_15)], [], zh, M16) _ _
      refine zF_go (n := 2) (ps := []) (s' := (169, [(0, .ref 86), (1, .int x1), (2, .int x2), (3, .int x3), (4, .int v4_4), (5, .int v5_5), (6, .int v6_9), (7, .int v7_15)], [.int x3, .int v7_15], zh, M16)) rfl trivial ?_
      refine zF_ge (t := 221) (u := (172, [(0, .ref 86), (1, .int x1), (2, .int x2), (3, .int x3), (4, .int v4_4), (5, .int v5_5), (6, .int v6_9), (7, .int v7_15)], [], zh, M16)) rfl (fun c43 => ?_) (fun c43 => ?_)
      · rw [if_neg c43] at h
        refine zF_go (n := 2) (ps := []) (s' := (150, [(6, .int (v6_9 + 1)), (0, .ref 86), (1, .int x1), (2, .int x2), (3, .int x3), (4, .int v4_4), (5, .int v5_5), (7, .int v7_15)], [], zh, M16)) rfl trivial ?_
        exact zF_as (hrec11 _ _ h) rfl
      · rw [if_pos c43] at h
        refine zF_go (n := 3) (ps := []) (s' := (176, [(0, .ref 86), (1, .int x1), (2, .int x2), (3, .int x3), (4, .int v4_4), (5, .int v5_5), (6, .int v6_9), (7, .int v7_15)], [.int v7_15, .int 1, .ref 86], zh, M16)) rfl trivial ?_
        obtain ⟨M18, e44, h⟩ := zb_some h
        refine zF_call (y' := 176) (as := [.ref 86, .int 1, .int v7_15]) (u := (179, [(0, .ref 86), (1, .int x1), (2, .int x2), (3, .int x3), (4, .int v4_4), (5, .int v5_5), (6, .int v6_9), (7, .int v7_15)], [], zh, M16)) rfl ⟨rfl, rfl⟩ rfl (qM_lay_ok (S := S) (M := M16) e44) ?_
        show zF S 189 (179, [(0, .ref 86), (1, .int x1), (2, .int x2), (3, .int x3), (4, .int v4_4), (5, .int v5_5), (6, .int v6_9), (7, .int v7_15)], [], zh, M18) _ _
        refine zF_go (n := 5) (ps := []) (s' := (188, [(0, .ref 86), (1, .int x1), (2, .int x2), (3, .int x3), (4, .int v4_4), (5, .int v5_5), (6, .int v6_9), (7, .int v7_15)], [.int v7_15, .int v6_9, .int 0, .ref 101], zh, M18)) rfl trivial ?_
        obtain ⟨x19, e45, h⟩ := zb_some h
        refine zF_call (y' := 188) (as := [.int 0, .int v6_9, .int v7_15]) (u := (191, [(0, .ref 86), (1, .int x1), (2, .int x2), (3, .int x3), (4, .int v4_4), (5, .int v5_5), (6, .int v6_9), (7, .int v7_15)], [.ref 101], zh, M18)) rfl ⟨rfl, rfl⟩ rfl (qM_at_ok (S := S) (M := M18) e45) ?_
        show zF S 189 (191, [(0, .ref 86), (1, .int x1), (2, .int x2), (3, .int x3), (4, .int v4_4), (5, .int v5_5), (6, .int v6_9), (7, .int v7_15)], [.int x19, .ref 101], zh, M18) _ _
        refine zF_go (n := 2) (ps := []) (s' := (193, [(0, .ref 86), (1, .int x1), (2, .int x2), (3, .int x3), (4, .int v4_4), (5, .int v5_5), (6, .int v6_9), (7, .int v7_15)], [.int 0, .ref 86, .int x19, .ref 101], zh, M18)) rfl trivial ?_
        obtain ⟨x20, e46, h⟩ := zb_some h
        refine zF_call (y' := 172) (as := [.ref 86, .int 0]) (u := (196, [(0, .ref 86), (1, .int x1), (2, .int x2), (3, .int x3), (4, .int v4_4), (5, .int v5_5), (6, .int v6_9), (7, .int v7_15)], [.int x19, .ref 101], zh, M18)) rfl ⟨rfl, rfl⟩ rfl (qM_leftOf_ok (S := S) (M := M18) e46) ?_
        show zF S 189 (196, [(0, .ref 86), (1, .int x1), (2, .int x2), (3, .int x3), (4, .int v4_4), (5, .int v5_5), (6, .int v6_9), (7, .int v7_15)], [.int x20, .int x19, .ref 101], zh, M18) _ _
        obtain ⟨g47, h⟩ := zq_some h
        refine zF_go (n := 6) (ps := [vp_in x19 13122]) (s' := (206, [(0, .ref 86), (1, .int x1), (2, .int x2), (3, .int x3), (4, .int v4_4), (5, .int v5_5), (6, .int v6_9), (7, .int v7_15)], [.int v7_15, .int v6_9, .int 1, .ref 101], zh, (zw M18 101 x19.toNatClampNeg x20))) rfl ⟨g47, trivial⟩ ?_
        obtain ⟨x21, e48, h⟩ := zb_some h
        refine zF_call (y' := 188) (as := [.int 1, .int v6_9, .int v7_15]) (u := (209, [(0, .ref 86), (1, .int x1), (2, .int x2), (3, .int x3), (4, .int v4_4), (5, .int v5_5), (6, .int v6_9), (7, .int v7_15)], [.ref 101], zh, (zw M18 101 x19.toNatClampNeg x20))) rfl ⟨rfl, rfl⟩ rfl (qM_at_ok (S := S) (M := (zw M18 101 x19.toNatClampNeg x20)) e48) ?_
        show zF S 189 (209, [(0, .ref 86), (1, .int x1), (2, .int x2), (3, .int x3), (4, .int v4_4), (5, .int v5_5), (6, .int v6_9), (7, .int v7_15)], [.int x21, .ref 101], zh, (zw M18 101 x19.toNatClampNeg x20)) _ _
        refine zF_go (n := 2) (ps := []) (s' := (211, [(0, .ref 86), (1, .int x1), (2, .int x2), (3, .int x3), (4, .int v4_4), (5, .int v5_5), (6, .int v6_9), (7, .int v7_15)], [.int 1, .ref 86, .int x21, .ref 101], zh, (zw M18 101 x19.toNatClampNeg x20))) rfl trivial ?_
        obtain ⟨x22, e49, h⟩ := zb_some h
        refine zF_call (y' := 172) (as := [.ref 86, .int 1]) (u := (214, [(0, .ref 86), (1, .int x1), (2, .int x2), (3, .int x3), (4, .int v4_4), (5, .int v5_5), (6, .int v6_9), (7, .int v7_15)], [.int x21, .ref 101], zh, (zw M18 101 x19.toNatClampNeg x20))) rfl ⟨rfl, rfl⟩ rfl (qM_leftOf_ok (S := S) (M := (zw M18 101 x19.toNatClampNeg x20)) e49) ?_
        show zF S 189 (214, [(0, .ref 86), (1, .int x1), (2, .int x2), (3, .int x3), (4, .int v4_4), (5, .int v5_5), (6, .int v6_9), (7, .int v7_15)], [.int x22, .int x21, .ref 101], zh, (zw M18 101 x19.toNatClampNeg x20)) _ _
        obtain ⟨g50, h⟩ := zq_some h
        refine zF_go (n := 3) (ps := [vp_in x21 13122]) (s' := (166, [(7, .int (v7_15 + 1)), (0, .ref 86), (1, .int x1), (2, .int x2), (3, .int x3), (4, .int v4_4), (5, .int v5_5), (6, .int v6_9)], [], zh, (zw (zw M18 101 x19.toNatClampNeg x20) 101 x21.toNatClampNeg x22))) rfl ⟨g50, trivial⟩ ?_
        exact zF_as (hrec17 _ _ h) rfl
  · rw [if_pos c36] at h
    refine zF_go (n := 3) (ps := []) (s' := (36, [(0, .ref 86), (1, .int x1), (2, .int x2), (3, .int x3), (4, .int v4_4), (5, .int v5_5), (6, .int v6_6)], [.int v6_6, .int 0, .ref 86], zh, M7)) rfl trivial ?_
    obtain ⟨M23, e51, h⟩ := zb_some h
    refine zF_call (y' := 176) (as := [.ref 86, .int 0, .int v6_6]) (u := (39, [(0, .ref 86), (1, .int x1), (2, .int x2), (3, .int x3), (4, .int v4_4), (5, .int v5_5), (6, .int v6_6)], [], zh, M7)) rfl ⟨rfl, rfl⟩ rfl (qM_lay_ok (S := S) (M := M7) e51) ?_
    show zF S 189 (39, [(0, .ref 86), (1, .int x1), (2, .int x2), (3, .int x3), (4, .int v4_4), (5, .int v5_5), (6, .int v6_6)], [], zh, M23) _ _
    refine zF_go (n := 3) (ps := []) (s' := (43, [(0, .ref 86), (1, .int x1), (2, .int x2), (3, .int x3), (4, .int v4_4), (5, .int v5_5), (6, .int v6_6)], [.int v6_6, .int 1, .ref 86], zh, M23)) rfl trivial ?_
    obtain ⟨M24, e52, h⟩ := zb_some h
    refine zF_call (y' := 176) (as := [.ref 86, .int 1, .int v6_6]) (u := (46, [(0, .ref 86), (1, .int x1), (2, .int x2), (3, .int x3), (4, .int v4_4), (5, .int v5_5), (6, .int v6_6)], [], zh, M23)) rfl ⟨rfl, rfl⟩ rfl (qM_lay_ok (S := S) (M := M23) e52) ?_
    show zF S 189 (46, [(0, .ref 86), (1, .int x1), (2, .int x2), (3, .int x3), (4, .int v4_4), (5, .int v5_5), (6, .int v6_6)], [], zh, M24) _ _
    refine zF_go (n := 5) (ps := []) (s' := (54, [(0, .ref 86), (1, .int x1), (2, .int x2), (3, .int x3), (4, .int v4_4), (5, .int v5_5), (6, .int v6_6)], [.int 0, .ref 86, .int v6_6, .ref 103], zh, M24)) rfl trivial ?_
    obtain ⟨x25, e53, h⟩ := zb_some h
    refine zF_call (y' := 178) (as := [.ref 86, .int 0]) (u := (57, [(0, .ref 86), (1, .int x1), (2, .int x2), (3, .int x3), (4, .int v4_4), (5, .int v5_5), (6, .int v6_6)], [.int v6_6, .ref 103], zh, M24)) rfl ⟨rfl, rfl⟩ rfl (qM_isAllowed_ok (S := S) (M := M24) e53) ?_
    show zF S 189 (57, [(0, .ref 86), (1, .int x1), (2, .int x2), (3, .int x3), (4, .int v4_4), (5, .int v5_5), (6, .int v6_6)], [.int x25, .int v6_6, .ref 103], zh, M24) _ _
    obtain ⟨g54, h⟩ := zq_some h
    obtain ⟨g55, h⟩ := zq_some h
    refine zF_go (n := 8) (ps := [vp_in v6_6 162, x25 = 0 ∨ x25 = 1]) (s' := (69, [(0, .ref 86), (1, .int x1), (2, .int x2), (3, .int x3), (4, .int v4_4), (5, .int v5_5), (6, .int v6_6)], [.int 1, .ref 86, .int (81 + v6_6), .ref 103], zh, (zw M24 103 v6_6.toNatClampNeg x25))) rfl ⟨g54, g55, trivial⟩ ?_
    obtain ⟨x26, e56, h⟩ := zb_some h
    refine zF_call (y' := 178) (as := [.ref 86, .int 1]) (u := (72, [(0, .ref 86), (1, .int x1), (2, .int x2), (3, .int x3), (4, .int v4_4), (5, .int v5_5), (6, .int v6_6)], [.int (81 + v6_6), .ref 103], zh, (zw M24 103 v6_6.toNatClampNeg x25))) rfl ⟨rfl, rfl⟩ rfl (qM_isAllowed_ok (S := S) (M := (zw M24 103 v6_6.toNatClampNeg x25)) e56) ?_
    show zF S 189 (72, [(0, .ref 86), (1, .int x1), (2, .int x2), (3, .int x3), (4, .int v4_4), (5, .int v5_5), (6, .int v6_6)], [.int x26, .int (81 + v6_6), .ref 103], zh, (zw M24 103 v6_6.toNatClampNeg x25)) _ _
    obtain ⟨g57, h⟩ := zq_some h
    obtain ⟨g58, h⟩ := zq_some h
    refine zF_go (n := 2) (ps := [vp_in (81 + v6_6) 162, x26 = 0 ∨ x26 = 1]) (s' := (75, [(0, .ref 86), (1, .int x1), (2, .int x2), (3, .int x3), (4, .int v4_4), (5, .int v5_5), (6, .int v6_6)], [.int v4_4], zh, (zw (zw M24 103 v6_6.toNatClampNeg x25) 103 (81 + v6_6).toNatClampNeg x26))) rfl ⟨g57, g58, trivial⟩ ?_
    obtain ⟨w28, g59, h⟩ := zb_some h
    have hk60 : zF S 189 (93, [(0, .ref 86), (1, .int x1), (2, .int x2), (3, .int x3), (5, .int v5_5), (6, .int v6_6)], [.int w28], zh, (zw (zw M24 103 v6_6.toNatClampNeg x25) 103 (81 + v6_6).toNatClampNeg x26)) (some (.int r.1)) (r.2) := by
      refine zF_go (n := 2) (ps := []) (s' := (97, [(4, .int w28), (0, .ref 86), (1, .int x1), (2, .int x2), (3, .int x3), (5, .int v5_5), (6, .int v6_6)], [.int v5_5], zh, (zw (zw M24 103 v6_6.toNatClampNeg x25) 103 (81 + v6_6).toNatClampNeg x26))) rfl trivial ?_
      obtain ⟨w31, g61, h⟩ := zb_some h
      have hk62 : zF S 189 (118, [(0, .ref 86), (1, .int x1), (2, .int x2), (3, .int x3), (4, .int w28), (6, .int v6_6)], [.int w31], zh, (zw (zw M24 103 v6_6.toNatClampNeg x25) 103 (81 + v6_6).toNatClampNeg x26)) (some (.int r.1)) (r.2) := by
        obtain ⟨g63, h⟩ := zq_some h
        obtain ⟨g64, h⟩ := zq_some h
        refine zF_go (n := 15) (ps := [vp_in v6_6 162, vp_in (81 + v6_6) 162]) (s' := (26, [(6, .int (v6_6 + 1)), (5, .int w31), (0, .ref 86), (1, .int x1), (2, .int x2), (3, .int x3), (4, .int w28)], [], zh, (zw (zw (zw (zw M24 103 v6_6.toNatClampNeg x25) 103 (81 + v6_6).toNatClampNeg x26) 102 v6_6.toNatClampNeg (-6)) 102 (81 + v6_6).toNatClampNeg (-6)))) rfl ⟨g63, g64, trivial⟩ ?_
        exact zF_as (hrec8 _ _ h) rfl
      refine zlj_e g61 (fun k => ∀ (_ : Unit), k () = some w31 → zF S 189 (113, [(0, .ref 86), (1, .int x1), (2, .int x2), (3, .int x3), (4, .int w28), (6, .int v6_6)], [], zh, (zw (zw M24 103 v6_6.toNatClampNeg x25) 103 (81 + v6_6).toNatClampNeg x26)) (some (.int r.1)) (r.2)) ?_ ?_
      · intro _ g61
        try dsimp only at g61
        refine zF_go (n := 2) (ps := []) (s' := (118, [(0, .ref 86), (1, .int x1), (2, .int x2), (3, .int x3), (4, .int w28), (6, .int v6_6)], [.int 1], zh, (zw (zw M24 103 v6_6.toNatClampNeg x25) 103 (81 + v6_6).toNatClampNeg x26))) rfl trivial ?_
        cases g61
        exact zF_as hk62 rfl
      · intro k32 hk32 g61
        try dsimp only at g61
        refine zF_ne (t := 113) (u := (100, [(4, .int w28), (0, .ref 86), (1, .int x1), (2, .int x2), (3, .int x3), (5, .int v5_5), (6, .int v6_6)], [], zh, (zw (zw M24 103 v6_6.toNatClampNeg x25) 103 (81 + v6_6).toNatClampNeg x26))) rfl (fun c65 => ?_) (fun c65 => ?_)
        · rw [if_neg c65] at g61
          exact zF_as (hk32 () g61) rfl
        · rw [if_pos c65] at g61
          obtain ⟨g66, g61⟩ := zq_some g61
          refine zF_go (n := 6) (ps := [vp_in (81 + v6_6) 162]) (s' := (110, [(4, .int w28), (0, .ref 86), (1, .int x1), (2, .int x2), (3, .int x3), (5, .int v5_5), (6, .int v6_6)], [.int ((zw (zw M24 103 v6_6.toNatClampNeg x25) 103 (81 + v6_6).toNatClampNeg x26) 103 (81 + v6_6).toNatClampNeg)], zh, (zw (zw M24 103 v6_6.toNatClampNeg x25) 103 (81 + v6_6).toNatClampNeg x26))) rfl ⟨g66, trivial⟩ ?_
          refine zF_eq (t := 117) (u := (113, [(4, .int w28), (0, .ref 86), (1, .int x1), (2, .int x2), (3, .int x3), (5, .int v5_5), (6, .int v6_6)], [], zh, (zw (zw M24 103 v6_6.toNatClampNeg x25) 103 (81 + v6_6).toNatClampNeg x26))) rfl (fun c67 => ?_) (fun c67 => ?_)
          · rw [if_pos c67] at g61
            refine zF_go (n := 1) (ps := []) (s' := (118, [(4, .int w28), (0, .ref 86), (1, .int x1), (2, .int x2), (3, .int x3), (5, .int v5_5), (6, .int v6_6)], [.int 0], zh, (zw (zw M24 103 v6_6.toNatClampNeg x25) 103 (81 + v6_6).toNatClampNeg x26))) rfl trivial ?_
            cases g61
            exact zF_as hk62 rfl
          · rw [if_neg c67] at g61
            exact zF_as (hk32 () g61) rfl
    refine zlj_e g59 (fun k => ∀ (_ : Unit), k () = some w28 → zF S 189 (88, [(0, .ref 86), (1, .int x1), (2, .int x2), (3, .int x3), (5, .int v5_5), (6, .int v6_6)], [], zh, (zw (zw M24 103 v6_6.toNatClampNeg x25) 103 (81 + v6_6).toNatClampNeg x26)) (some (.int r.1)) (r.2)) ?_ ?_
    · intro _ g59
      try dsimp only at g59
      refine zF_go (n := 2) (ps := []) (s' := (93, [(0, .ref 86), (1, .int x1), (2, .int x2), (3, .int x3), (5, .int v5_5), (6, .int v6_6)], [.int 1], zh, (zw (zw M24 103 v6_6.toNatClampNeg x25) 103 (81 + v6_6).toNatClampNeg x26))) rfl trivial ?_
      cases g59
      exact zF_as hk60 rfl
    · intro k29 hk29 g59
      try dsimp only at g59
      refine zF_ne (t := 88) (u := (78, [(0, .ref 86), (1, .int x1), (2, .int x2), (3, .int x3), (4, .int v4_4), (5, .int v5_5), (6, .int v6_6)], [], zh, (zw (zw M24 103 v6_6.toNatClampNeg x25) 103 (81 + v6_6).toNatClampNeg x26))) rfl (fun c68 => ?_) (fun c68 => ?_)
      · rw [if_neg c68] at g59
        exact zF_as (hk29 () g59) rfl
      · rw [if_pos c68] at g59
        obtain ⟨g69, g59⟩ := zq_some g59
        refine zF_go (n := 4) (ps := [vp_in v6_6 162]) (s' := (85, [(0, .ref 86), (1, .int x1), (2, .int x2), (3, .int x3), (4, .int v4_4), (5, .int v5_5), (6, .int v6_6)], [.int ((zw (zw M24 103 v6_6.toNatClampNeg x25) 103 (81 + v6_6).toNatClampNeg x26) 103 v6_6.toNatClampNeg)], zh, (zw (zw M24 103 v6_6.toNatClampNeg x25) 103 (81 + v6_6).toNatClampNeg x26))) rfl ⟨g69, trivial⟩ ?_
        refine zF_eq (t := 92) (u := (88, [(0, .ref 86), (1, .int x1), (2, .int x2), (3, .int x3), (4, .int v4_4), (5, .int v5_5), (6, .int v6_6)], [], zh, (zw (zw M24 103 v6_6.toNatClampNeg x25) 103 (81 + v6_6).toNatClampNeg x26))) rfl (fun c70 => ?_) (fun c70 => ?_)
        · rw [if_pos c70] at g59
          refine zF_go (n := 1) (ps := []) (s' := (93, [(0, .ref 86), (1, .int x1), (2, .int x2), (3, .int x3), (4, .int v4_4), (5, .int v5_5), (6, .int v6_6)], [.int 0], zh, (zw (zw M24 103 v6_6.toNatClampNeg x25) 103 (81 + v6_6).toNatClampNeg x26))) rfl trivial ?_
          cases g59
          exact zF_as hk60 rfl
        · rw [if_neg c70] at g59
          exact zF_as (hk29 () g59) rfl
noncomputable def qM_isRest_L31 (p_many : Int32) (M : zM) (p_a : Int32) (p_b : Int32) (rec6 : (Int32 × Int32) → Option (Int32)) (v : Int32 × Int32) : Option (Int32) := match v with
  | (v4_4, v5_5) =>
    if v5_5 < p_many then
      (if v4_4 = 0 then
        (zq (v4_4 = 0 ∨ v4_4 = 1) <| some v4_4)
      else
        (zq (vp_in v5_5 162) <| zlj (fun (_ : Unit) =>
          zq (vp_in (81 + v5_5) 162) <| if (M 103 (81 + v5_5).toNatClampNeg) = 0 then
            (rec6 (1, (v5_5 + 1)))
          else
            (zb (qM_at 1 p_a v5_5) fun x10 =>
            zq (vp_in x10 13122) <| zb (qM_at 1 p_a p_b) fun x11 =>
            zq (vp_in x11 13122) <| if (M 101 x11.toNatClampNeg) < (M 101 x10.toNatClampNeg) then
              (rec6 (0, (v5_5 + 1)))
            else
              (rec6 (1, (v5_5 + 1))))) fun k9 =>
        if (M 103 v5_5.toNatClampNeg) = 0 then
          (k9 ())
        else
          (zb (qM_at 0 v5_5 p_b) fun x12 =>
          zq (vp_in x12 13122) <| zb (qM_at 0 p_a p_b) fun x13 =>
          zq (vp_in x13 13122) <| if (M 101 x13.toNatClampNeg) < (M 101 x12.toNatClampNeg) then
            (rec6 (0, (v5_5 + 1)))
          else
            (k9 ()))))
    else
      (zq (v4_4 = 0 ∨ v4_4 = 1) <| some v4_4)
noncomputable def qM_isRest (M : zM) (p_a : Int32) (p_b : Int32) (p_many : Int32) : Option (Int32) :=
  zq (vp_in p_a 162) <| zb (zlj (fun (_ : Unit) =>
      some 0) fun k3 =>
    if (M 103 p_a.toNatClampNeg) = 0 then
      (k3 ())
    else
      (zq (vp_in (81 + p_b) 162) <| if (M 103 (81 + p_b).toNatClampNeg) = 0 then
        (k3 ())
      else
        (some 1))) fun (w2 : Int32) =>
  zlp (qM_isRest_L31 p_many M p_a p_b) zfu (w2, 0)
set_option maxRecDepth 20000 in
set_option maxHeartbeats 4000000 in
theorem qM_isRest_ok {S : zSc} {M : zM} {p_a : Int32} {p_b : Int32} {p_many : Int32} {r : Int32} (h : qM_isRest M p_a p_b p_many = some r) : zF S 190 (0, [(0, .ref 86), (1, .int p_a), (2, .int p_b), (3, .int p_many)], [], zh, M) (some (.int r)) (M) := by
  unfold qM_isRest at h
  obtain ⟨g14, h⟩ := zq_some h
  refine zF_go (n := 4) (ps := [vp_in p_a 162]) (s' := (6, [(0, .ref 86), (1, .int p_a), (2, .int p_b), (3, .int p_many)], [.int (M 103 p_a.toNatClampNeg)], zh, M)) rfl ⟨g14, trivial⟩ ?_
  obtain ⟨w2, g15, h⟩ := zb_some h
  have hk16 : zF S 190 (26, [(0, .ref 86), (1, .int p_a), (2, .int p_b), (3, .int p_many)], [.int w2], zh, M) (some (.int r)) (M) := by
    refine zF_go (n := 3) (ps := []) (s' := (31, [(5, .int 0), (4, .int w2), (0, .ref 86), (1, .int p_a), (2, .int p_b), (3, .int p_many)], [], zh, M)) rfl trivial ?_
    refine zF_same (s' := (31, [(0, .ref 86), (1, .int p_a), (2, .int p_b), (3, .int p_many), (4, .int w2), (5, .int 0)], [], zh, M)) rfl ?_
    refine zlp_ind (P := fun (v : Int32 × Int32) r => zF S 190 (31, [(0, .ref 86), (1, .int p_a), (2, .int p_b), (3, .int p_many), (4, .int v.1), (5, .int v.2)], [], zh, M) (some (.int r)) (M)) ?_ _ _ _ h
    intro rec6 hrec6 v r h
    obtain ⟨v4_4, v5_5⟩ := v
    unfold qM_isRest_L31 at h
    dsimp only at h
    show zF S 190 (31, [(0, .ref 86), (1, .int p_a), (2, .int p_b), (3, .int p_many), (4, .int v4_4), (5, .int v5_5)], [], zh, M) _ _
    refine zF_go (n := 2) (ps := []) (s' := (34, [(0, .ref 86), (1, .int p_a), (2, .int p_b), (3, .int p_many), (4, .int v4_4), (5, .int v5_5)], [.int p_many, .int v5_5], zh, M)) rfl trivial ?_
    refine zF_ge (t := 130) (u := (37, [(0, .ref 86), (1, .int p_a), (2, .int p_b), (3, .int p_many), (4, .int v4_4), (5, .int v5_5)], [], zh, M)) rfl (fun c17 => ?_) (fun c17 => ?_)
    · rw [if_neg c17] at h
      refine zF_go (n := 1) (ps := []) (s' := (132, [(4, .int v4_4)], [.int v4_4], zh, M)) rfl trivial ?_
      obtain ⟨g18, h⟩ := zq_some h
      cases h
      exact zF_ret rfl ⟨g18, trivial⟩
    · rw [if_pos c17] at h
      refine zF_go (n := 1) (ps := []) (s' := (39, [(0, .ref 86), (1, .int p_a), (2, .int p_b), (3, .int p_many), (4, .int v4_4), (5, .int v5_5)], [.int v4_4], zh, M)) rfl trivial ?_
      refine zF_eq (t := 130) (u := (42, [(0, .ref 86), (1, .int p_a), (2, .int p_b), (3, .int p_many), (4, .int v4_4), (5, .int v5_5)], [], zh, M)) rfl (fun c19 => ?_) (fun c19 => ?_)
      · rw [if_pos c19] at h
        refine zF_go (n := 1) (ps := []) (s' := (132, [(4, .int v4_4)], [.int v4_4], zh, M)) rfl trivial ?_
        obtain ⟨g20, h⟩ := zq_some h
        cases h
        exact zF_ret rfl ⟨g20, trivial⟩
      · rw [if_neg c19] at h
        obtain ⟨g21, h⟩ := zq_some h
        refine zF_go (n := 4) (ps := [vp_in v5_5 162]) (s' := (49, [(0, .ref 86), (1, .int p_a), (2, .int p_b), (3, .int p_many), (4, .int v4_4), (5, .int v5_5)], [.int (M 103 v5_5.toNatClampNeg)], zh, M)) rfl ⟨g21, trivial⟩ ?_
        refine zlj_e h (fun k => ∀ (_ : Unit) r, k () = some r → zF S 190 (78, [(0, .ref 86), (1, .int p_a), (2, .int p_b), (3, .int p_many), (5, .int v5_5)], [], zh, M) (some (.int r)) (M)) ?_ ?_
        · intro _ r h
          try dsimp only at h
          obtain ⟨g22, h⟩ := zq_some h
          refine zF_go (n := 6) (ps := [vp_in (81 + v5_5) 162]) (s' := (88, [(0, .ref 86), (1, .int p_a), (2, .int p_b), (3, .int p_many), (5, .int v5_5)], [.int (M 103 (81 + v5_5).toNatClampNeg)], zh, M)) rfl ⟨g22, trivial⟩ ?_
          refine zF_eq (t := 117) (u := (91, [(0, .ref 86), (1, .int p_a), (2, .int p_b), (3, .int p_many), (5, .int v5_5)], [], zh, M)) rfl (fun c23 => ?_) (fun c23 => ?_)
          · rw [if_pos c23] at h
            refine zF_go (n := 2) (ps := []) (s' := (122, [(0, .ref 86), (1, .int p_a), (2, .int p_b), (3, .int p_many), (5, .int v5_5)], [.int 1], zh, M)) rfl trivial ?_
            refine zF_go (n := 3) (ps := []) (s' := (31, [(5, .int (v5_5 + 1)), (4, .int 1), (0, .ref 86), (1, .int p_a), (2, .int p_b), (3, .int p_many)], [], zh, M)) rfl trivial ?_
            exact zF_as (hrec6 _ _ h) rfl
          · rw [if_neg c23] at h
            refine zF_go (n := 5) (ps := []) (s' := (99, [(0, .ref 86), (1, .int p_a), (2, .int p_b), (3, .int p_many), (5, .int v5_5)], [.int v5_5, .int p_a, .int 1, .ref 101], zh, M)) rfl trivial ?_
            obtain ⟨x10, e24, h⟩ := zb_some h
            refine zF_call (y' := 188) (as := [.int 1, .int p_a, .int v5_5]) (u := (102, [(0, .ref 86), (1, .int p_a), (2, .int p_b), (3, .int p_many), (5, .int v5_5)], [.ref 101], zh, M)) rfl ⟨rfl, rfl⟩ rfl (qM_at_ok (S := S) (M := M) e24) ?_
            show zF S 190 (102, [(0, .ref 86), (1, .int p_a), (2, .int p_b), (3, .int p_many), (5, .int v5_5)], [.int x10, .ref 101], zh, M) _ _
            obtain ⟨g25, h⟩ := zq_some h
            refine zF_go (n := 6) (ps := [vp_in x10 13122]) (s' := (110, [(0, .ref 86), (1, .int p_a), (2, .int p_b), (3, .int p_many), (5, .int v5_5)], [.int p_b, .int p_a, .int 1, .ref 101, .int (M 101 x10.toNatClampNeg)], zh, M)) rfl ⟨g25, trivial⟩ ?_
            obtain ⟨x11, e26, h⟩ := zb_some h
            refine zF_call (y' := 188) (as := [.int 1, .int p_a, .int p_b]) (u := (113, [(0, .ref 86), (1, .int p_a), (2, .int p_b), (3, .int p_many), (5, .int v5_5)], [.ref 101, .int (M 101 x10.toNatClampNeg)], zh, M)) rfl ⟨rfl, rfl⟩ rfl (qM_at_ok (S := S) (M := M) e26) ?_
            show zF S 190 (113, [(0, .ref 86), (1, .int p_a), (2, .int p_b), (3, .int p_many), (5, .int v5_5)], [.int x11, .ref 101, .int (M 101 x10.toNatClampNeg)], zh, M) _ _
            obtain ⟨g27, h⟩ := zq_some h
            refine zF_go (n := 1) (ps := [vp_in x11 13122]) (s' := (114, [(0, .ref 86), (1, .int p_a), (2, .int p_b), (3, .int p_many), (5, .int v5_5)], [.int (M 101 x11.toNatClampNeg), .int (M 101 x10.toNatClampNeg)], zh, M)) rfl ⟨g27, trivial⟩ ?_
            refine zF_gt (t := 121) (u := (117, [(0, .ref 86), (1, .int p_a), (2, .int p_b), (3, .int p_many), (5, .int v5_5)], [], zh, M)) rfl (fun c28 => ?_) (fun c28 => ?_)
            · rw [if_pos c28] at h
              refine zF_go (n := 1) (ps := []) (s' := (122, [(0, .ref 86), (1, .int p_a), (2, .int p_b), (3, .int p_many), (5, .int v5_5)], [.int 0], zh, M)) rfl trivial ?_
              refine zF_go (n := 3) (ps := []) (s' := (31, [(5, .int (v5_5 + 1)), (4, .int 0), (0, .ref 86), (1, .int p_a), (2, .int p_b), (3, .int p_many)], [], zh, M)) rfl trivial ?_
              exact zF_as (hrec6 _ _ h) rfl
            · rw [if_neg c28] at h
              refine zF_go (n := 2) (ps := []) (s' := (122, [(0, .ref 86), (1, .int p_a), (2, .int p_b), (3, .int p_many), (5, .int v5_5)], [.int 1], zh, M)) rfl trivial ?_
              refine zF_go (n := 3) (ps := []) (s' := (31, [(5, .int (v5_5 + 1)), (4, .int 1), (0, .ref 86), (1, .int p_a), (2, .int p_b), (3, .int p_many)], [], zh, M)) rfl trivial ?_
              exact zF_as (hrec6 _ _ h) rfl
        · intro k9 hk9 h
          try dsimp only at h
          refine zF_eq (t := 78) (u := (52, [(0, .ref 86), (1, .int p_a), (2, .int p_b), (3, .int p_many), (4, .int v4_4), (5, .int v5_5)], [], zh, M)) rfl (fun c29 => ?_) (fun c29 => ?_)
          · rw [if_pos c29] at h
            exact zF_as (hk9 () _ h) rfl
          · rw [if_neg c29] at h
            refine zF_go (n := 5) (ps := []) (s' := (60, [(0, .ref 86), (1, .int p_a), (2, .int p_b), (3, .int p_many), (4, .int v4_4), (5, .int v5_5)], [.int p_b, .int v5_5, .int 0, .ref 101], zh, M)) rfl trivial ?_
            obtain ⟨x12, e30, h⟩ := zb_some h
            refine zF_call (y' := 188) (as := [.int 0, .int v5_5, .int p_b]) (u := (63, [(0, .ref 86), (1, .int p_a), (2, .int p_b), (3, .int p_many), (4, .int v4_4), (5, .int v5_5)], [.ref 101], zh, M)) rfl ⟨rfl, rfl⟩ rfl (qM_at_ok (S := S) (M := M) e30) ?_
            show zF S 190 (63, [(0, .ref 86), (1, .int p_a), (2, .int p_b), (3, .int p_many), (4, .int v4_4), (5, .int v5_5)], [.int x12, .ref 101], zh, M) _ _
            obtain ⟨g31, h⟩ := zq_some h
            refine zF_go (n := 6) (ps := [vp_in x12 13122]) (s' := (71, [(0, .ref 86), (1, .int p_a), (2, .int p_b), (3, .int p_many), (4, .int v4_4), (5, .int v5_5)], [.int p_b, .int p_a, .int 0, .ref 101, .int (M 101 x12.toNatClampNeg)], zh, M)) rfl ⟨g31, trivial⟩ ?_
            obtain ⟨x13, e32, h⟩ := zb_some h
            refine zF_call (y' := 188) (as := [.int 0, .int p_a, .int p_b]) (u := (74, [(0, .ref 86), (1, .int p_a), (2, .int p_b), (3, .int p_many), (4, .int v4_4), (5, .int v5_5)], [.ref 101, .int (M 101 x12.toNatClampNeg)], zh, M)) rfl ⟨rfl, rfl⟩ rfl (qM_at_ok (S := S) (M := M) e32) ?_
            show zF S 190 (74, [(0, .ref 86), (1, .int p_a), (2, .int p_b), (3, .int p_many), (4, .int v4_4), (5, .int v5_5)], [.int x13, .ref 101, .int (M 101 x12.toNatClampNeg)], zh, M) _ _
            obtain ⟨g33, h⟩ := zq_some h
            refine zF_go (n := 1) (ps := [vp_in x13 13122]) (s' := (75, [(0, .ref 86), (1, .int p_a), (2, .int p_b), (3, .int p_many), (4, .int v4_4), (5, .int v5_5)], [.int (M 101 x13.toNatClampNeg), .int (M 101 x12.toNatClampNeg)], zh, M)) rfl ⟨g33, trivial⟩ ?_
            refine zF_gt (t := 121) (u := (78, [(0, .ref 86), (1, .int p_a), (2, .int p_b), (3, .int p_many), (4, .int v4_4), (5, .int v5_5)], [], zh, M)) rfl (fun c34 => ?_) (fun c34 => ?_)
            · rw [if_pos c34] at h
              refine zF_go (n := 1) (ps := []) (s' := (122, [(0, .ref 86), (1, .int p_a), (2, .int p_b), (3, .int p_many), (5, .int v5_5)], [.int 0], zh, M)) rfl trivial ?_
              refine zF_go (n := 3) (ps := []) (s' := (31, [(5, .int (v5_5 + 1)), (4, .int 0), (0, .ref 86), (1, .int p_a), (2, .int p_b), (3, .int p_many)], [], zh, M)) rfl trivial ?_
              exact zF_as (hrec6 _ _ h) rfl
            · rw [if_neg c34] at h
              exact zF_as (hk9 () _ h) rfl
  refine zlj_e g15 (fun k => ∀ (_ : Unit), k () = some w2 → zF S 190 (25, [(0, .ref 86), (1, .int p_a), (2, .int p_b), (3, .int p_many)], [], zh, M) (some (.int r)) (M)) ?_ ?_
  · intro _ g15
    try dsimp only at g15
    refine zF_go (n := 1) (ps := []) (s' := (26, [(0, .ref 86), (1, .int p_a), (2, .int p_b), (3, .int p_many)], [.int 0], zh, M)) rfl trivial ?_
    cases g15
    exact zF_as hk16 rfl
  · intro k3 hk3 g15
    try dsimp only at g15
    refine zF_eq (t := 25) (u := (9, [(0, .ref 86), (1, .int p_a), (2, .int p_b), (3, .int p_many)], [], zh, M)) rfl (fun c35 => ?_) (fun c35 => ?_)
    · rw [if_pos c35] at g15
      exact zF_as (hk3 () g15) rfl
    · rw [if_neg c35] at g15
      obtain ⟨g36, g15⟩ := zq_some g15
      refine zF_go (n := 6) (ps := [vp_in (81 + p_b) 162]) (s' := (18, [(0, .ref 86), (1, .int p_a), (2, .int p_b), (3, .int p_many)], [.int (M 103 (81 + p_b).toNatClampNeg)], zh, M)) rfl ⟨g36, trivial⟩ ?_
      refine zF_eq (t := 25) (u := (21, [(0, .ref 86), (1, .int p_a), (2, .int p_b), (3, .int p_many)], [], zh, M)) rfl (fun c37 => ?_) (fun c37 => ?_)
      · rw [if_pos c37] at g15
        exact zF_as (hk3 () g15) rfl
      · rw [if_neg c37] at g15
        refine zF_go (n := 2) (ps := []) (s' := (26, [(0, .ref 86), (1, .int p_a), (2, .int p_b), (3, .int p_many)], [.int 1], zh, M)) rfl trivial ?_
        cases g15
        exact zF_as hk16 rfl
noncomputable def qM_rest_L29 (x3 : Int32) (M2 : zM) (v4_5 : Int32) (p_i : Int32) (rec6 : (Int32 × Int32) → Option (Int32 × zM)) (rec9 : (Int32 × Int32) → Option (Int32 × zM)) (v : Int32 × Int32) : Option (Int32 × zM) := match v with
  | (v3_7, v5_8) =>
    if v5_8 < x3 then
      (zb (qM_isRest M2 v4_5 v5_8 x3) fun x10 =>
      if x10 = 0 then
        (rec9 (v3_7, (v5_8 + 1)))
      else
        (if v3_7 = p_i then
          (some (((100 * v4_5) + v5_8), M2))
        else
          (rec9 ((v3_7 + 1), (v5_8 + 1)))))
    else
      (rec6 (v3_7, (v4_5 + 1)))
noncomputable def qM_rest_L20 (x3 : Int32) (M2 : zM) (p_i : Int32) (rec6 : (Int32 × Int32) → Option (Int32 × zM)) (v : Int32 × Int32) : Option (Int32 × zM) := match v with
  | (v3_4, v4_5) =>
    if v4_5 < x3 then
      (zlp (qM_rest_L29 x3 M2 v4_5 p_i rec6) zfu (v3_4, 0))
    else
      (if p_i = (-1) then
        (some (v3_4, M2))
      else
        (some ((-6), M2)))
noncomputable def qM_rest (M : zM) (p_i : Int32) : Option (Int32 × zM) :=
  zb2 (qM_findBoth M) fun x1 M2 =>
  if x1 = 0 then
    (some ((-5), M2))
  else
    (zb (qM_rows M2) fun x3 =>
    zlp (qM_rest_L20 x3 M2 p_i) zfu (0, 0))
set_option maxRecDepth 20000 in
set_option maxHeartbeats 4000000 in
theorem qM_rest_ok {S : zSc} {M : zM} {p_i : Int32} {r : Int32 × zM} (h : qM_rest M p_i = some r) : zF S 191 (0, [(0, .ref 86), (1, .int p_i)], [], zh, M) (some (.int r.1)) (r.2) := by
  unfold qM_rest at h
  refine zF_go (n := 1) (ps := []) (s' := (1, [(0, .ref 86), (1, .int p_i)], [.ref 86], zh, M)) rfl trivial ?_
  obtain ⟨x1, M2, e11, h⟩ := zb2_some h
  refine zF_call (y' := 189) (as := [.ref 86]) (u := (4, [(0, .ref 86), (1, .int p_i)], [], zh, M)) rfl ⟨rfl, rfl⟩ rfl (qM_findBoth_ok (S := S) (M := M) e11) ?_
  show zF S 191 (4, [(0, .ref 86), (1, .int p_i)], [.int x1], zh, M2) _ _
  refine zF_ne (t := 10) (u := (7, [(0, .ref 86), (1, .int p_i)], [], zh, M2)) rfl (fun c12 => ?_) (fun c12 => ?_)
  · rw [if_neg c12] at h
    refine zF_go (n := 1) (ps := []) (s' := (11, [(0, .ref 86), (1, .int p_i)], [.ref 86], zh, M2)) rfl trivial ?_
    obtain ⟨x3, e13, h⟩ := zb_some h
    refine zF_call (y' := 175) (as := [.ref 86]) (u := (14, [(0, .ref 86), (1, .int p_i)], [], zh, M2)) rfl ⟨rfl, rfl⟩ rfl (qM_rows_ok (S := S) (M := M2) e13) ?_
    show zF S 191 (14, [(0, .ref 86), (1, .int p_i)], [.int x3], zh, M2) _ _
    refine zF_go (n := 5) (ps := []) (s' := (20, [(4, .int 0), (3, .int 0), (2, .int x3), (0, .ref 86), (1, .int p_i)], [], zh, M2)) rfl trivial ?_
    refine zF_same (s' := (20, [(0, .ref 86), (1, .int p_i), (2, .int x3), (3, .int 0), (4, .int 0)], [], zh, M2)) rfl ?_
    refine zlp_ind (P := fun (v : Int32 × Int32) r => zF S 191 (20, [(0, .ref 86), (1, .int p_i), (2, .int x3), (3, .int v.1), (4, .int v.2)], [], zh, M2) (some (.int r.1)) (r.2)) ?_ _ _ _ h
    intro rec6 hrec6 v r h
    obtain ⟨v3_4, v4_5⟩ := v
    unfold qM_rest_L20 at h
    dsimp only at h
    show zF S 191 (20, [(0, .ref 86), (1, .int p_i), (2, .int x3), (3, .int v3_4), (4, .int v4_5)], [], zh, M2) _ _
    refine zF_go (n := 2) (ps := []) (s' := (23, [(0, .ref 86), (1, .int p_i), (2, .int x3), (3, .int v3_4), (4, .int v4_5)], [.int x3, .int v4_5], zh, M2)) rfl trivial ?_
    refine zF_ge (t := 76) (u := (26, [(0, .ref 86), (1, .int p_i), (2, .int x3), (3, .int v3_4), (4, .int v4_5)], [], zh, M2)) rfl (fun c14 => ?_) (fun c14 => ?_)
    · rw [if_neg c14] at h
      refine zF_go (n := 2) (ps := []) (s' := (78, [(0, .ref 86), (1, .int p_i), (2, .int x3), (3, .int v3_4), (4, .int v4_5)], [.int (-1), .int p_i], zh, M2)) rfl trivial ?_
      refine zF_ne (t := 85) (u := (81, [(0, .ref 86), (1, .int p_i), (2, .int x3), (3, .int v3_4), (4, .int v4_5)], [], zh, M2)) rfl (fun c15 => ?_) (fun c15 => ?_)
      · rw [if_neg c15] at h
        refine zF_go (n := 1) (ps := []) (s' := (87, [(0, .ref 86), (1, .int p_i), (2, .int x3), (3, .int v3_4), (4, .int v4_5)], [.int (-6)], zh, M2)) rfl trivial ?_
        cases h
        exact zF_ret rfl trivial
      · rw [if_pos c15] at h
        refine zF_go (n := 2) (ps := []) (s' := (87, [(0, .ref 86), (1, .int p_i), (2, .int x3), (3, .int v3_4), (4, .int v4_5)], [.int v3_4], zh, M2)) rfl trivial ?_
        cases h
        exact zF_ret rfl trivial
    · rw [if_pos c14] at h
      refine zF_go (n := 2) (ps := []) (s' := (29, [(5, .int 0), (0, .ref 86), (1, .int p_i), (2, .int x3), (3, .int v3_4), (4, .int v4_5)], [], zh, M2)) rfl trivial ?_
      refine zF_same (s' := (29, [(0, .ref 86), (1, .int p_i), (2, .int x3), (3, .int v3_4), (4, .int v4_5), (5, .int 0)], [], zh, M2)) rfl ?_
      refine zlp_ind (P := fun (v : Int32 × Int32) r => zF S 191 (29, [(0, .ref 86), (1, .int p_i), (2, .int x3), (3, .int v.1), (4, .int v4_5), (5, .int v.2)], [], zh, M2) (some (.int r.1)) (r.2)) ?_ _ _ _ h
      intro rec9 hrec9 v r h
      obtain ⟨v3_7, v5_8⟩ := v
      unfold qM_rest_L29 at h
      dsimp only at h
      show zF S 191 (29, [(0, .ref 86), (1, .int p_i), (2, .int x3), (3, .int v3_7), (4, .int v4_5), (5, .int v5_8)], [], zh, M2) _ _
      refine zF_go (n := 2) (ps := []) (s' := (32, [(0, .ref 86), (1, .int p_i), (2, .int x3), (3, .int v3_7), (4, .int v4_5), (5, .int v5_8)], [.int x3, .int v5_8], zh, M2)) rfl trivial ?_
      refine zF_ge (t := 70) (u := (35, [(0, .ref 86), (1, .int p_i), (2, .int x3), (3, .int v3_7), (4, .int v4_5), (5, .int v5_8)], [], zh, M2)) rfl (fun c16 => ?_) (fun c16 => ?_)
      · rw [if_neg c16] at h
        refine zF_go (n := 2) (ps := []) (s' := (20, [(4, .int (v4_5 + 1)), (0, .ref 86), (1, .int p_i), (2, .int x3), (3, .int v3_7), (5, .int v5_8)], [], zh, M2)) rfl trivial ?_
        exact zF_as (hrec6 _ _ h) rfl
      · rw [if_pos c16] at h
        refine zF_go (n := 4) (ps := []) (s' := (41, [(0, .ref 86), (1, .int p_i), (2, .int x3), (3, .int v3_7), (4, .int v4_5), (5, .int v5_8)], [.int x3, .int v5_8, .int v4_5, .ref 86], zh, M2)) rfl trivial ?_
        obtain ⟨x10, e17, h⟩ := zb_some h
        refine zF_call (y' := 190) (as := [.ref 86, .int v4_5, .int v5_8, .int x3]) (u := (44, [(0, .ref 86), (1, .int p_i), (2, .int x3), (3, .int v3_7), (4, .int v4_5), (5, .int v5_8)], [], zh, M2)) rfl ⟨rfl, rfl⟩ rfl (qM_isRest_ok (S := S) (M := M2) e17) ?_
        show zF S 191 (44, [(0, .ref 86), (1, .int p_i), (2, .int x3), (3, .int v3_7), (4, .int v4_5), (5, .int v5_8)], [.int x10], zh, M2) _ _
        refine zF_eq (t := 64) (u := (47, [(0, .ref 86), (1, .int p_i), (2, .int x3), (3, .int v3_7), (4, .int v4_5), (5, .int v5_8)], [], zh, M2)) rfl (fun c18 => ?_) (fun c18 => ?_)
        · rw [if_pos c18] at h
          refine zF_go (n := 2) (ps := []) (s' := (29, [(5, .int (v5_8 + 1)), (0, .ref 86), (1, .int p_i), (2, .int x3), (3, .int v3_7), (4, .int v4_5)], [], zh, M2)) rfl trivial ?_
          exact zF_as (hrec9 _ _ h) rfl
        · rw [if_neg c18] at h
          refine zF_go (n := 2) (ps := []) (s' := (49, [(0, .ref 86), (1, .int p_i), (2, .int x3), (3, .int v3_7), (4, .int v4_5), (5, .int v5_8)], [.int p_i, .int v3_7], zh, M2)) rfl trivial ?_
          refine zF_ne (t := 61) (u := (52, [(0, .ref 86), (1, .int p_i), (2, .int x3), (3, .int v3_7), (4, .int v4_5), (5, .int v5_8)], [], zh, M2)) rfl (fun c19 => ?_) (fun c19 => ?_)
          · rw [if_neg c19] at h
            refine zF_go (n := 1) (ps := []) (s' := (64, [(3, .int (v3_7 + 1)), (0, .ref 86), (1, .int p_i), (2, .int x3), (4, .int v4_5), (5, .int v5_8)], [], zh, M2)) rfl trivial ?_
            refine zF_go (n := 2) (ps := []) (s' := (29, [(5, .int (v5_8 + 1)), (0, .ref 86), (1, .int p_i), (2, .int x3), (3, .int (v3_7 + 1)), (4, .int v4_5)], [], zh, M2)) rfl trivial ?_
            exact zF_as (hrec9 _ _ h) rfl
          · rw [if_pos c19] at h
            refine zF_go (n := 5) (ps := []) (s' := (60, [(0, .ref 86), (1, .int p_i), (2, .int x3), (3, .int v3_7), (4, .int v4_5), (5, .int v5_8)], [.int ((100 * v4_5) + v5_8)], zh, M2)) rfl trivial ?_
            cases h
            exact zF_ret rfl trivial
  · rw [if_pos c12] at h
    refine zF_go (n := 1) (ps := []) (s' := (9, [(0, .ref 86), (1, .int p_i)], [.int (-5)], zh, M2)) rfl trivial ?_
    cases h
    exact zF_ret rfl trivial
noncomputable def qJ_fill_84_L5 (p_a1 : Int32) (rec3 : (Int32 × zM) → Option (zM)) (v : Int32 × zM) : Option (zM) := match v with
  | (v2_1, M2) =>
    if v2_1 < (Int32.ofNat 13122) then
      (zq (vp_in v2_1 13122) <| rec3 ((v2_1 + 1), (zw M2 84 v2_1.toNatClampNeg p_a1)))
    else
      (some M2)
noncomputable def qJ_fill_84 (M : zM) (p_a1 : Int32) : Option (zM) :=
  zlp (qJ_fill_84_L5 p_a1) zfu (0, M)
set_option maxRecDepth 20000 in
set_option maxHeartbeats 4000000 in
theorem qJ_fill_84_ok {S : zSc} {M : zM} {p_a1 : Int32} {r : zM} (h : qJ_fill_84 M p_a1 = some r) : zF S 211 (0, [(0, .ref 84), (1, .int p_a1)], [], zh, M) (none) (r) := by
  unfold qJ_fill_84 at h
  refine zF_go (n := 5) (ps := []) (s' := (5, [(3, .int (Int32.ofNat 13122)), (2, .int 0), (0, .ref 84), (1, .int p_a1)], [], zh, M)) rfl trivial ?_
  refine zF_same (s' := (5, [(0, .ref 84), (1, .int p_a1), (2, .int 0), (3, .int (Int32.ofNat 13122))], [], zh, M)) rfl ?_
  refine zlp_ind (P := fun (v : Int32 × zM) r => zF S 211 (5, [(0, .ref 84), (1, .int p_a1), (2, .int v.1), (3, .int (Int32.ofNat 13122))], [], zh, v.2) (none) (r)) ?_ _ _ _ h
  intro rec3 hrec3 v r h
  obtain ⟨v2_1, M2⟩ := v
  unfold qJ_fill_84_L5 at h
  dsimp only at h
  show zF S 211 (5, [(0, .ref 84), (1, .int p_a1), (2, .int v2_1), (3, .int (Int32.ofNat 13122))], [], zh, M2) _ _
  refine zF_go (n := 2) (ps := []) (s' := (7, [(0, .ref 84), (1, .int p_a1), (2, .int v2_1), (3, .int (Int32.ofNat 13122))], [.int (Int32.ofNat 13122), .int v2_1], zh, M2)) rfl trivial ?_
  refine zF_ge (t := 20) (u := (10, [(0, .ref 84), (1, .int p_a1), (2, .int v2_1), (3, .int (Int32.ofNat 13122))], [], zh, M2)) rfl (fun c4 => ?_) (fun c4 => ?_)
  · rw [if_neg c4] at h
    cases h
    exact zF_ret rfl trivial
  · rw [if_pos c4] at h
    obtain ⟨g5, h⟩ := zq_some h
    refine zF_go (n := 6) (ps := [vp_in v2_1 13122]) (s' := (5, [(2, .int (v2_1 + 1)), (0, .ref 84), (1, .int p_a1), (3, .int (Int32.ofNat 13122))], [], zh, (zw M2 84 v2_1.toNatClampNeg p_a1))) rfl ⟨g5, trivial⟩ ?_
    exact zF_as (hrec3 _ _ h) rfl
noncomputable def qD_takesTurn (M : zM) (p_shop : Int32) : Option (Int32 × zM) :=
  zq (vp_in p_shop 2) <| zq (vp_in (1 - p_shop) 2) <| zq (vp_in ((p_shop * 81) + (M 79 p_shop.toNatClampNeg)) 162) <| zlj (fun (_ : Unit) =>
    zq (vp_in ((p_shop * 81) + (M 79 (1 - p_shop).toNatClampNeg)) 162) <| zq (vp_in p_shop 2) <| some (1, (zw (zw M 79 p_shop.toNatClampNeg (M 83 ((p_shop * 81) + (M 79 (1 - p_shop).toNatClampNeg)).toNatClampNeg)) 78 0 ((M 78 0) + 1)))) fun k2 =>
  if (M 82 ((p_shop * 81) + (M 79 p_shop.toNatClampNeg)).toNatClampNeg) = 0 then
    (k2 ())
  else
    (zb (qD_couldHaveMore M p_shop (M 79 p_shop.toNatClampNeg) (M 79 (1 - p_shop).toNatClampNeg)) fun x3 =>
    if x3 = 0 then
      (some (0, M))
    else
      (k2 ()))
set_option maxRecDepth 20000 in
set_option maxHeartbeats 4000000 in
theorem qD_takesTurn_ok {S : zSc} {M : zM} {p_shop : Int32} {r : Int32 × zM} (h : qD_takesTurn M p_shop = some r) : zF S 11 (0, [(0, .ref 78), (1, .int p_shop)], [], zh, M) (some (.int r.1)) (r.2) := by
  unfold qD_takesTurn at h
  obtain ⟨g4, h⟩ := zq_some h
  obtain ⟨g5, h⟩ := zq_some h
  obtain ⟨g6, h⟩ := zq_some h
  refine zF_go (n := 20) (ps := [vp_in p_shop 2, vp_in (1 - p_shop) 2, vp_in ((p_shop * 81) + (M 79 p_shop.toNatClampNeg)) 162]) (s' := (27, [(3, .int (M 79 (1 - p_shop).toNatClampNeg)), (2, .int (M 79 p_shop.toNatClampNeg)), (0, .ref 78), (1, .int p_shop)], [.int (M 82 ((p_shop * 81) + (M 79 p_shop.toNatClampNeg)).toNatClampNeg)], zh, M)) rfl ⟨g4, g5, g6, trivial⟩ ?_
  refine zlj_e h (fun k => ∀ (_ : Unit) r, k () = some r → zF S 11 (42, [(0, .ref 78), (1, .int p_shop), (3, .int (M 79 (1 - p_shop).toNatClampNeg))], [], zh, M) (some (.int r.1)) (r.2)) ?_ ?_
  · intro _ r h
    try dsimp only at h
    obtain ⟨g7, h⟩ := zq_some h
    obtain ⟨g8, h⟩ := zq_some h
    refine zF_go (n := 19) (ps := [vp_in ((p_shop * 81) + (M 79 (1 - p_shop).toNatClampNeg)) 162, vp_in p_shop 2]) (s' := (70, [(0, .ref 78), (1, .int p_shop), (3, .int (M 79 (1 - p_shop).toNatClampNeg))], [.int 1], zh, (zw (zw M 79 p_shop.toNatClampNeg (M 83 ((p_shop * 81) + (M 79 (1 - p_shop).toNatClampNeg)).toNatClampNeg)) 78 0 ((M 78 0) + 1)))) rfl ⟨g7, g8, trivial⟩ ?_
    cases h
    exact zF_ret rfl ⟨(Or.inr rfl), trivial⟩
  · intro k2 hk2 h
    try dsimp only at h
    refine zF_eq (t := 42) (u := (30, [(3, .int (M 79 (1 - p_shop).toNatClampNeg)), (2, .int (M 79 p_shop.toNatClampNeg)), (0, .ref 78), (1, .int p_shop)], [], zh, M)) rfl (fun c9 => ?_) (fun c9 => ?_)
    · rw [if_pos c9] at h
      exact zF_as (hk2 () _ h) rfl
    · rw [if_neg c9] at h
      refine zF_go (n := 4) (ps := []) (s' := (34, [(3, .int (M 79 (1 - p_shop).toNatClampNeg)), (2, .int (M 79 p_shop.toNatClampNeg)), (0, .ref 78), (1, .int p_shop)], [.int (M 79 (1 - p_shop).toNatClampNeg), .int (M 79 p_shop.toNatClampNeg), .int p_shop, .ref 78], zh, M)) rfl trivial ?_
      obtain ⟨x3, e10, h⟩ := zb_some h
      refine zF_call (y' := 6) (as := [.ref 78, .int p_shop, .int (M 79 p_shop.toNatClampNeg), .int (M 79 (1 - p_shop).toNatClampNeg)]) (u := (37, [(3, .int (M 79 (1 - p_shop).toNatClampNeg)), (2, .int (M 79 p_shop.toNatClampNeg)), (0, .ref 78), (1, .int p_shop)], [], zh, M)) rfl ⟨rfl, rfl⟩ rfl (qD_couldHaveMore_ok (S := S) (M := M) e10) ?_
      show zF S 11 (37, [(3, .int (M 79 (1 - p_shop).toNatClampNeg)), (2, .int (M 79 p_shop.toNatClampNeg)), (0, .ref 78), (1, .int p_shop)], [.int x3], zh, M) _ _
      refine zF_ne (t := 42) (u := (40, [(3, .int (M 79 (1 - p_shop).toNatClampNeg)), (2, .int (M 79 p_shop.toNatClampNeg)), (0, .ref 78), (1, .int p_shop)], [], zh, M)) rfl (fun c11 => ?_) (fun c11 => ?_)
      · rw [if_neg c11] at h
        exact zF_as (hk2 () _ h) rfl
      · rw [if_pos c11] at h
        refine zF_go (n := 1) (ps := []) (s' := (41, [(3, .int (M 79 (1 - p_shop).toNatClampNeg)), (2, .int (M 79 p_shop.toNatClampNeg)), (0, .ref 78), (1, .int p_shop)], [.int 0], zh, M)) rfl trivial ?_
        cases h
        exact zF_ret rfl ⟨(Or.inl rfl), trivial⟩
noncomputable def qD_fight_L41 (rec6 : (Int32 × Int32 × Int32 × zM) → Option (zM)) (v : Int32 × Int32 × Int32 × zM) : Option (zM) := match v with
  | (v4_2, v5_3, v6_4, M5) =>
    if ((Int32.ofNat 13122) + 1) < v6_4 then
      (some M5)
    else
      (if v5_3 < 2 then
        (zq (vp_in (((((M5 79 (0 : Int32).toNatClampNeg) * 81) + (M5 79 (1 : Int32).toNatClampNeg)) * 2) + v4_2) 13122) <| if (0 : Int32) < (M5 84 (((((M5 79 (0 : Int32).toNatClampNeg) * 81) + (M5 79 (1 : Int32).toNatClampNeg)) * 2) + v4_2).toNatClampNeg) then
          (zq (vp_in (((((M5 79 (0 : Int32).toNatClampNeg) * 81) + (M5 79 (1 : Int32).toNatClampNeg)) * 2) + v4_2) 13122) <| some (zw M5 78 1 (v6_4 - (M5 84 (((((M5 79 (0 : Int32).toNatClampNeg) * 81) + (M5 79 (1 : Int32).toNatClampNeg)) * 2) + v4_2).toNatClampNeg))))
        else
          (zq (vp_in (((((M5 79 (0 : Int32).toNatClampNeg) * 81) + (M5 79 (1 : Int32).toNatClampNeg)) * 2) + v4_2) 13122) <| zb2 (qD_takesTurn (zw M5 84 (((((M5 79 (0 : Int32).toNatClampNeg) * 81) + (M5 79 (1 : Int32).toNatClampNeg)) * 2) + v4_2).toNatClampNeg v6_4) v4_2) fun x7 M8 =>
          rec6 ((1 - v4_2), (if x7 = 0 then (v5_3 + 1) else 0), (v6_4 + 1), M8)))
      else
        (some M5))
noncomputable def qD_fight (M : zM) (p_first : Int32) (p_here : Int32) (p_there : Int32) : Option (zM) :=
  zb (qJ_fill_84 M 0) fun M1 =>
  zlp (qD_fight_L41) zfu (p_first, 0, 1, (zw (zw (zw (zw M1 78 0 0) 78 1 0) 79 (0 : Int32).toNatClampNeg p_here) 79 (1 : Int32).toNatClampNeg p_there))
set_option maxRecDepth 20000 in
set_option maxHeartbeats 4000000 in
theorem qD_fight_ok {S : zSc} {M : zM} {p_first : Int32} {p_here : Int32} {p_there : Int32} {r : zM} (h : qD_fight M p_first p_here p_there = some r) : zF S 10 (0, [(0, .ref 78), (1, .int p_first), (2, .int p_here), (3, .int p_there)], [], zh, M) (none) (r) := by
  unfold qD_fight at h
  refine zF_go (n := 3) (ps := []) (s' := (5, [(0, .ref 78), (1, .int p_first), (2, .int p_here), (3, .int p_there)], [.int 0, .ref 84], zh, M)) rfl trivial ?_
  obtain ⟨M1, e10, h⟩ := zb_some h
  refine zF_call (y' := 211) (as := [.ref 84, .int 0]) (u := (8, [(0, .ref 78), (1, .int p_first), (2, .int p_here), (3, .int p_there)], [], zh, M)) rfl ⟨rfl, rfl⟩ rfl (qJ_fill_84_ok (S := S) (M := M) e10) ?_
  show zF S 10 (8, [(0, .ref 78), (1, .int p_first), (2, .int p_here), (3, .int p_there)], [], zh, M1) _ _
  refine zF_go (n := 22) (ps := [vp_in 0 2, vp_in 1 2]) (s' := (41, [(6, .int 1), (5, .int 0), (4, .int p_first), (0, .ref 78), (1, .int p_first), (2, .int p_here), (3, .int p_there)], [], zh, (zw (zw (zw (zw M1 78 0 0) 78 1 0) 79 (0 : Int32).toNatClampNeg p_here) 79 (1 : Int32).toNatClampNeg p_there))) rfl ⟨(by unfold vp_in; decide), (by unfold vp_in; decide), trivial⟩ ?_
  refine zF_same (s' := (41, [(0, .ref 78), (4, .int p_first), (5, .int 0), (6, .int 1)], [], zh, (zw (zw (zw (zw M1 78 0 0) 78 1 0) 79 (0 : Int32).toNatClampNeg p_here) 79 (1 : Int32).toNatClampNeg p_there))) rfl ?_
  refine zlp_ind (P := fun (v : Int32 × Int32 × Int32 × zM) r => zF S 10 (41, [(0, .ref 78), (4, .int v.1), (5, .int v.2.1), (6, .int v.2.2.1)], [], zh, v.2.2.2) (none) (r)) ?_ _ _ _ h
  intro rec6 hrec6 v r h
  obtain ⟨v4_2, v5_3, v6_4, M5⟩ := v
  unfold qD_fight_L41 at h
  dsimp only at h
  show zF S 10 (41, [(0, .ref 78), (4, .int v4_2), (5, .int v5_3), (6, .int v6_4)], [], zh, M5) _ _
  refine zF_go (n := 6) (ps := []) (s' := (50, [(0, .ref 78), (4, .int v4_2), (5, .int v5_3), (6, .int v6_4)], [.int ((Int32.ofNat 13122) + 1), .int v6_4], zh, M5)) rfl trivial ?_
  refine zF_gt (t := 147) (u := (53, [(0, .ref 78), (4, .int v4_2), (5, .int v5_3), (6, .int v6_4)], [], zh, M5)) rfl (fun c11 => ?_) (fun c11 => ?_)
  · rw [if_pos c11] at h
    cases h
    exact zF_ret rfl trivial
  · rw [if_neg c11] at h
    refine zF_go (n := 2) (ps := []) (s' := (56, [(0, .ref 78), (4, .int v4_2), (5, .int v5_3), (6, .int v6_4)], [.int 2, .int v5_3], zh, M5)) rfl trivial ?_
    refine zF_ge (t := 147) (u := (59, [(0, .ref 78), (4, .int v4_2), (5, .int v5_3), (6, .int v6_4)], [], zh, M5)) rfl (fun c12 => ?_) (fun c12 => ?_)
    · rw [if_neg c12] at h
      cases h
      exact zF_ret rfl trivial
    · rw [if_pos c12] at h
      obtain ⟨g13, h⟩ := zq_some h
      refine zF_go (n := 20) (ps := [vp_in 0 2, vp_in 1 2, vp_in (((((M5 79 (0 : Int32).toNatClampNeg) * 81) + (M5 79 (1 : Int32).toNatClampNeg)) * 2) + v4_2) 13122]) (s' := (89, [(7, .int (((((M5 79 (0 : Int32).toNatClampNeg) * 81) + (M5 79 (1 : Int32).toNatClampNeg)) * 2) + v4_2)), (0, .ref 78), (4, .int v4_2), (5, .int v5_3), (6, .int v6_4)], [.int (M5 84 (((((M5 79 (0 : Int32).toNatClampNeg) * 81) + (M5 79 (1 : Int32).toNatClampNeg)) * 2) + v4_2).toNatClampNeg)], zh, M5)) rfl ⟨(by unfold vp_in; decide), (by unfold vp_in; decide), g13, trivial⟩ ?_
      refine zF_le (t := 107) (u := (92, [(7, .int (((((M5 79 (0 : Int32).toNatClampNeg) * 81) + (M5 79 (1 : Int32).toNatClampNeg)) * 2) + v4_2)), (0, .ref 78), (4, .int v4_2), (5, .int v5_3), (6, .int v6_4)], [], zh, M5)) rfl (fun c14 => ?_) (fun c14 => ?_)
      · rw [if_neg c14] at h
        obtain ⟨g15, h⟩ := zq_some h
        refine zF_go (n := 7) (ps := [vp_in (((((M5 79 (0 : Int32).toNatClampNeg) * 81) + (M5 79 (1 : Int32).toNatClampNeg)) * 2) + v4_2) 13122]) (s' := (119, [(7, .int (((((M5 79 (0 : Int32).toNatClampNeg) * 81) + (M5 79 (1 : Int32).toNatClampNeg)) * 2) + v4_2)), (0, .ref 78), (4, .int v4_2), (5, .int v5_3), (6, .int v6_4)], [.int v4_2, .ref 78], zh, (zw M5 84 (((((M5 79 (0 : Int32).toNatClampNeg) * 81) + (M5 79 (1 : Int32).toNatClampNeg)) * 2) + v4_2).toNatClampNeg v6_4))) rfl ⟨g15, trivial⟩ ?_
        obtain ⟨x7, M8, e16, h⟩ := zb2_some h
        refine zF_call (y' := 11) (as := [.ref 78, .int v4_2]) (u := (122, [(7, .int (((((M5 79 (0 : Int32).toNatClampNeg) * 81) + (M5 79 (1 : Int32).toNatClampNeg)) * 2) + v4_2)), (0, .ref 78), (4, .int v4_2), (5, .int v5_3), (6, .int v6_4)], [], zh, (zw M5 84 (((((M5 79 (0 : Int32).toNatClampNeg) * 81) + (M5 79 (1 : Int32).toNatClampNeg)) * 2) + v4_2).toNatClampNeg v6_4))) rfl ⟨rfl, rfl⟩ rfl (qD_takesTurn_ok (S := S) (M := (zw M5 84 (((((M5 79 (0 : Int32).toNatClampNeg) * 81) + (M5 79 (1 : Int32).toNatClampNeg)) * 2) + v4_2).toNatClampNeg v6_4)) e16) ?_
        show zF S 10 (122, [(7, .int (((((M5 79 (0 : Int32).toNatClampNeg) * 81) + (M5 79 (1 : Int32).toNatClampNeg)) * 2) + v4_2)), (0, .ref 78), (4, .int v4_2), (5, .int v5_3), (6, .int v6_4)], [.int x7], zh, M8) _ _
        have hk17 : zF S 10 (133, [(0, .ref 78), (4, .int v4_2), (6, .int v6_4)], [.int (if x7 = 0 then (v5_3 + 1) else 0)], zh, M8) (none) (r) := by
          refine zF_go (n := 7) (ps := []) (s' := (41, [(6, .int (v6_4 + 1)), (4, .int (1 - v4_2)), (5, .int (if x7 = 0 then (v5_3 + 1) else 0)), (0, .ref 78)], [], zh, M8)) rfl trivial ?_
          exact zF_as (hrec6 _ _ h) rfl
        refine zF_eq (t := 129) (u := (125, [(7, .int (((((M5 79 (0 : Int32).toNatClampNeg) * 81) + (M5 79 (1 : Int32).toNatClampNeg)) * 2) + v4_2)), (0, .ref 78), (4, .int v4_2), (5, .int v5_3), (6, .int v6_4)], [], zh, M8)) rfl (fun c18 => ?_) (fun c18 => ?_)
        · skip
          refine zF_go (n := 3) (ps := []) (s' := (133, [(7, .int (((((M5 79 (0 : Int32).toNatClampNeg) * 81) + (M5 79 (1 : Int32).toNatClampNeg)) * 2) + v4_2)), (0, .ref 78), (4, .int v4_2), (5, .int v5_3), (6, .int v6_4)], [.int (v5_3 + 1)], zh, M8)) rfl trivial ?_
          simp only [if_pos c18] at hk17
          try simp only [if_pos c18]
          exact zF_as hk17 rfl
        · skip
          refine zF_go (n := 2) (ps := []) (s' := (133, [(7, .int (((((M5 79 (0 : Int32).toNatClampNeg) * 81) + (M5 79 (1 : Int32).toNatClampNeg)) * 2) + v4_2)), (0, .ref 78), (4, .int v4_2), (5, .int v5_3), (6, .int v6_4)], [.int 0], zh, M8)) rfl trivial ?_
          simp only [if_neg c18] at hk17
          try simp only [if_neg c18]
          exact zF_as hk17 rfl
      · rw [if_pos c14] at h
        obtain ⟨g19, h⟩ := zq_some h
        refine zF_go (n := 8) (ps := [vp_in (((((M5 79 (0 : Int32).toNatClampNeg) * 81) + (M5 79 (1 : Int32).toNatClampNeg)) * 2) + v4_2) 13122]) (s' := (106, [(7, .int (((((M5 79 (0 : Int32).toNatClampNeg) * 81) + (M5 79 (1 : Int32).toNatClampNeg)) * 2) + v4_2)), (0, .ref 78), (4, .int v4_2), (5, .int v5_3), (6, .int v6_4)], [], zh, (zw M5 78 1 (v6_4 - (M5 84 (((((M5 79 (0 : Int32).toNatClampNeg) * 81) + (M5 79 (1 : Int32).toNatClampNeg)) * 2) + v4_2).toNatClampNeg))))) rfl ⟨g19, trivial⟩ ?_
        cases h
        exact zF_ret rfl trivial
noncomputable def qS_ring (M : zM) (p_shop : Int32) (p_what : Int32) : Option (Int32 × zM) :=
  zb (qS_noShop p_shop) fun x1 =>
  if x1 = 0 then
    (zb (qS_isOut p_what 0 3) fun x2 =>
    if x2 = 0 then
      (zb (qS_forbidsAll M 0 (M 2 3)) fun x3 =>
      if x3 = 0 then
        (zb (qS_forbidsAll M 1 (M 2 3)) fun x4 =>
        if x4 = 0 then
          (zb (qS_lookAsItIs M) fun M5 =>
          zb (qD_prepare M5 (M5 2 3)) fun M6 =>
          zb (qG_rowOf_3 M6 0) fun x7 =>
          zb (qG_rowOf_3 M6 1) fun x8 =>
          zb (qD_fight M6 p_shop x7 x8) fun M9 =>
          if p_what = 0 then
            (some ((M9 78 0), M9))
          else if p_what = 1 then
            (some ((M9 78 1), M9))
          else 
            (zq (vp_in (p_what - 2) 2) <| some ((M9 79 (p_what - 2).toNatClampNeg), M9)))
        else
          (some ((-5), M)))
      else
        (some ((-5), M)))
    else
      (some ((-2), M)))
  else
    (some ((-1), M))
set_option maxRecDepth 20000 in
set_option maxHeartbeats 4000000 in
theorem qS_ring_ok {S : zSc} {M : zM} {p_shop : Int32} {p_what : Int32} {r : Int32 × zM} (h : qS_ring M p_shop p_what = some r) : zF S 112 (0, [(0, .ref 1), (1, .int p_shop), (2, .int p_what)], [], zh, M) (some (.int r.1)) (r.2) := by
  unfold qS_ring at h
  refine zF_go (n := 1) (ps := []) (s' := (1, [(0, .ref 1), (1, .int p_shop), (2, .int p_what)], [.int p_shop], zh, M)) rfl trivial ?_
  obtain ⟨x1, e10, h⟩ := zb_some h
  refine zF_call (y' := 126) (as := [.int p_shop]) (u := (4, [(0, .ref 1), (1, .int p_shop), (2, .int p_what)], [], zh, M)) rfl ⟨rfl, rfl⟩ rfl (qS_noShop_ok (S := S) (M := M) e10) ?_
  show zF S 112 (4, [(0, .ref 1), (1, .int p_shop), (2, .int p_what)], [.int x1], zh, M) _ _
  refine zF_eq (t := 9) (u := (7, [(0, .ref 1), (1, .int p_shop), (2, .int p_what)], [], zh, M)) rfl (fun c11 => ?_) (fun c11 => ?_)
  · rw [if_pos c11] at h
    refine zF_go (n := 3) (ps := []) (s' := (12, [(0, .ref 1), (1, .int p_shop), (2, .int p_what)], [.int 3, .int 0, .int p_what], zh, M)) rfl trivial ?_
    obtain ⟨x2, e12, h⟩ := zb_some h
    refine zF_call (y' := 125) (as := [.int p_what, .int 0, .int 3]) (u := (15, [(0, .ref 1), (1, .int p_shop), (2, .int p_what)], [], zh, M)) rfl ⟨rfl, rfl⟩ rfl (qS_isOut_ok (S := S) (M := M) e12) ?_
    show zF S 112 (15, [(0, .ref 1), (1, .int p_shop), (2, .int p_what)], [.int x2], zh, M) _ _
    refine zF_eq (t := 21) (u := (18, [(0, .ref 1), (1, .int p_shop), (2, .int p_what)], [], zh, M)) rfl (fun c13 => ?_) (fun c13 => ?_)
    · rw [if_pos c13] at h
      refine zF_go (n := 5) (ps := []) (s' := (30, [(0, .ref 1), (1, .int p_shop), (2, .int p_what)], [.int (M 2 3), .int 0, .ref 1], zh, M)) rfl trivial ?_
      obtain ⟨x3, e14, h⟩ := zb_some h
      refine zF_call (y' := 130) (as := [.ref 1, .int 0, .int (M 2 3)]) (u := (33, [(0, .ref 1), (1, .int p_shop), (2, .int p_what)], [], zh, M)) rfl ⟨rfl, rfl⟩ rfl (qS_forbidsAll_ok (S := S) (M := M) e14) ?_
      show zF S 112 (33, [(0, .ref 1), (1, .int p_shop), (2, .int p_what)], [.int x3], zh, M) _ _
      refine zF_ne (t := 51) (u := (36, [(0, .ref 1), (1, .int p_shop), (2, .int p_what)], [], zh, M)) rfl (fun c15 => ?_) (fun c15 => ?_)
      · rw [if_neg c15] at h
        refine zF_go (n := 1) (ps := []) (s' := (53, [], [.int (-5)], zh, M)) rfl trivial ?_
        cases h
        exact zF_ret rfl trivial
      · rw [if_pos c15] at h
        refine zF_go (n := 5) (ps := []) (s' := (45, [(0, .ref 1), (1, .int p_shop), (2, .int p_what)], [.int (M 2 3), .int 1, .ref 1], zh, M)) rfl trivial ?_
        obtain ⟨x4, e16, h⟩ := zb_some h
        refine zF_call (y' := 130) (as := [.ref 1, .int 1, .int (M 2 3)]) (u := (48, [(0, .ref 1), (1, .int p_shop), (2, .int p_what)], [], zh, M)) rfl ⟨rfl, rfl⟩ rfl (qS_forbidsAll_ok (S := S) (M := M) e16) ?_
        show zF S 112 (48, [(0, .ref 1), (1, .int p_shop), (2, .int p_what)], [.int x4], zh, M) _ _
        refine zF_eq (t := 54) (u := (51, [(0, .ref 1), (1, .int p_shop), (2, .int p_what)], [], zh, M)) rfl (fun c17 => ?_) (fun c17 => ?_)
        · rw [if_pos c17] at h
          refine zF_go (n := 1) (ps := []) (s' := (55, [(0, .ref 1), (1, .int p_shop), (2, .int p_what)], [.ref 1], zh, M)) rfl trivial ?_
          obtain ⟨M5, e18, h⟩ := zb_some h
          refine zF_call (y' := 132) (as := [.ref 1]) (u := (58, [(0, .ref 1), (1, .int p_shop), (2, .int p_what)], [], zh, M)) rfl ⟨rfl, rfl⟩ rfl (qS_lookAsItIs_ok (S := S) (M := M) e18) ?_
          show zF S 112 (58, [(0, .ref 1), (1, .int p_shop), (2, .int p_what)], [], zh, M5) _ _
          refine zF_go (n := 5) (ps := []) (s' := (69, [(0, .ref 1), (1, .int p_shop), (2, .int p_what)], [.int (M5 2 3), .ref 78], zh, M5)) rfl trivial ?_
          obtain ⟨M6, e19, h⟩ := zb_some h
          refine zF_call (y' := 2) (as := [.ref 78, .int (M5 2 3)]) (u := (72, [(0, .ref 1), (1, .int p_shop), (2, .int p_what)], [], zh, M5)) rfl ⟨rfl, rfl⟩ rfl (qD_prepare_ok (S := S) (M := M5) e19) ?_
          show zF S 112 (72, [(0, .ref 1), (1, .int p_shop), (2, .int p_what)], [], zh, M6) _ _
          refine zF_go (n := 7) (ps := []) (s' := (85, [(0, .ref 1), (1, .int p_shop), (2, .int p_what)], [.int 0, .ref 3, .int p_shop, .ref 78], zh, M6)) rfl trivial ?_
          obtain ⟨x7, e20, h⟩ := zb_some h
          refine zF_call (y' := 20) (as := [.ref 3, .int 0]) (u := (88, [(0, .ref 1), (1, .int p_shop), (2, .int p_what)], [.int p_shop, .ref 78], zh, M6)) rfl ⟨rfl, rfl⟩ rfl (qG_rowOf_3_ok (S := S) (M := M6) e20) ?_
          show zF S 112 (88, [(0, .ref 1), (1, .int p_shop), (2, .int p_what)], [.int x7, .int p_shop, .ref 78], zh, M6) _ _
          refine zF_go (n := 4) (ps := []) (s' := (96, [(0, .ref 1), (1, .int p_shop), (2, .int p_what)], [.int 1, .ref 3, .int x7, .int p_shop, .ref 78], zh, M6)) rfl trivial ?_
          obtain ⟨x8, e21, h⟩ := zb_some h
          refine zF_call (y' := 20) (as := [.ref 3, .int 1]) (u := (99, [(0, .ref 1), (1, .int p_shop), (2, .int p_what)], [.int x7, .int p_shop, .ref 78], zh, M6)) rfl ⟨rfl, rfl⟩ rfl (qG_rowOf_3_ok (S := S) (M := M6) e21) ?_
          show zF S 112 (99, [(0, .ref 1), (1, .int p_shop), (2, .int p_what)], [.int x8, .int x7, .int p_shop, .ref 78], zh, M6) _ _
          obtain ⟨M9, e22, h⟩ := zb_some h
          refine zF_call (y' := 10) (as := [.ref 78, .int p_shop, .int x7, .int x8]) (u := (102, [(0, .ref 1), (1, .int p_shop), (2, .int p_what)], [], zh, M6)) rfl ⟨rfl, rfl⟩ rfl (qD_fight_ok (S := S) (M := M6) e22) ?_
          show zF S 112 (102, [(0, .ref 1), (1, .int p_shop), (2, .int p_what)], [], zh, M9) _ _
          refine zF_go (n := 1) (ps := []) (s' := (103, [(0, .ref 1), (1, .int p_shop), (2, .int p_what)], [.int p_what], zh, M9)) rfl trivial ?_
          by_cases c23 : p_what = 0
          · rw [if_pos c23] at h
            refine zF_sw (t := 128) (lv := [(0, .ref 1), (1, .int p_shop), (2, .int p_what)]) (st := []) (M := M9) rfl (by rw [c23]; rfl) ?_
            refine zF_go (n := 3) (ps := []) (s' := (135, [(0, .ref 1), (1, .int p_shop), (2, .int p_what)], [.int (M9 78 0)], zh, M9)) rfl trivial ?_
            cases h
            exact zF_ret rfl trivial
          rw [if_neg c23] at h
          by_cases c24 : p_what = 1
          · rw [if_pos c24] at h
            refine zF_sw (t := 136) (lv := [(0, .ref 1), (1, .int p_shop), (2, .int p_what)]) (st := []) (M := M9) rfl (by rw [c24]; rfl) ?_
            refine zF_go (n := 3) (ps := []) (s' := (143, [(0, .ref 1), (1, .int p_shop), (2, .int p_what)], [.int (M9 78 1)], zh, M9)) rfl trivial ?_
            cases h
            exact zF_ret rfl trivial
          rw [if_neg c24] at h
          refine zF_sw (t := 144) (lv := [(0, .ref 1), (1, .int p_shop), (2, .int p_what)]) (st := []) (M := M9) rfl (by have nc23 := lv_neT c23 (show (0 : Int32).toInt = 0 from rfl); have nc24 := lv_neT c24 (show (1 : Int32).toInt = 1 from rfl); simp [zlup, nc23, nc24]) ?_
          obtain ⟨g25, h⟩ := zq_some h
          refine zF_go (n := 7) (ps := [vp_in (p_what - 2) 2]) (s' := (155, [(0, .ref 1), (1, .int p_shop), (2, .int p_what)], [.int (M9 79 (p_what - 2).toNatClampNeg)], zh, M9)) rfl ⟨g25, trivial⟩ ?_
          cases h
          exact zF_ret rfl trivial
        · rw [if_neg c17] at h
          refine zF_go (n := 1) (ps := []) (s' := (53, [], [.int (-5)], zh, M)) rfl trivial ?_
          cases h
          exact zF_ret rfl trivial
    · rw [if_neg c13] at h
      refine zF_go (n := 1) (ps := []) (s' := (20, [(0, .ref 1), (1, .int p_shop), (2, .int p_what)], [.int (-2)], zh, M)) rfl trivial ?_
      cases h
      exact zF_ret rfl trivial
  · rw [if_neg c11] at h
    refine zF_go (n := 1) (ps := []) (s' := (8, [(0, .ref 1), (1, .int p_shop), (2, .int p_what)], [.int (-1)], zh, M)) rfl trivial ?_
    cases h
    exact zF_ret rfl trivial
noncomputable def qM_goRound_L91 (x5 : Int32) (x6 : Int32) (rec16 : (Int32 × Int32 × Int32 × Int32 × zM) → Option (Int32 × zM)) (v : Int32 × Int32 × Int32 × Int32 × zM) : Option (Int32 × zM) := match v with
  | (v4_11, v5_12, v6_13, v7_14, M15) =>
    if v7_14 = 0 then
      (zb (qM_rowOf M15 0) fun x17 =>
      zb (qM_rowOf (zw M15 86 26 x17) 1) fun x18 =>
      zb (qM_lay (zw (zw M15 86 26 x17) 86 27 x18) 0 x5) fun M19 =>
      zb (qM_lay M19 1 x6) fun M20 =>
      some (1, M20))
    else
      (zb2 (qM_bestOf M15 v4_11) fun x21 M22 =>
      zb (qM_rowOf M22 v4_11) fun x23 =>
      zb (zlj (fun (_ : Unit) =>
          some 0) fun k38 =>
        if x21 = x23 then
          (k38 ())
        else
          (zb (qM_leftOf M22 v4_11) fun x39 =>
          zlj (fun (_ : Unit) =>
            some 1) fun k41 =>
          if x39 < (M22 86 19) then
            (k41 ())
          else
            (zb (qM_isAllowed M22 v4_11) fun x42 =>
            if x42 = 0 then
              (k41 ())
            else
              (k38 ())))) fun (w33 : Int32) =>
      zb (if w33 = 0 then
          (some M22)
        else
          (zb (qM_lay M22 v4_11 x21) fun M45 =>
          some (zw M45 86 24 ((M45 86 24) + 1)))) fun (M44 : zM) =>
      zb (qM_rowOf M44 0) fun x47 =>
      zb (qM_rowOf M44 1) fun x48 =>
      zb (qM_at (1 - v4_11) x47 x48) fun x49 =>
      if ((if w33 = 0 then (v5_12 + 1) else 0) : Int32) = 2 then
        (rec16 ((1 - v4_11), (if w33 = 0 then (v5_12 + 1) else 0), (v6_13 + 1), 0, M44))
      else
        (zq (vp_in x49 13122) <| if (M44 104 x49.toNatClampNeg) < 0 then
          (zq (vp_in x49 13122) <| rec16 ((1 - v4_11), (if w33 = 0 then (v5_12 + 1) else 0), (v6_13 + 1), v7_14, (zw M44 104 x49.toNatClampNeg (v6_13 + 1))))
        else
          (zq (vp_in x49 13122) <| rec16 ((1 - v4_11), (if w33 = 0 then (v5_12 + 1) else 0), (v6_13 + 1), 0, (zw M44 86 25 ((v6_13 + 1) - (M44 104 x49.toNatClampNeg)))))))
noncomputable def qM_goRound_L33 (p_shop : Int32) (x5 : Int32) (x6 : Int32) (rec9 : (Int32 × zM) → Option (Int32 × zM)) (v : Int32 × zM) : Option (Int32 × zM) := match v with
  | (v4_7, M8) =>
    if v4_7 < 13122 then
      (zq (vp_in v4_7 13122) <| rec9 ((v4_7 + 1), (zw M8 104 v4_7.toNatClampNeg (-6))))
    else
      (zb (qM_at p_shop x5 x6) fun x10 =>
      zq (vp_in x10 13122) <| zlp (qM_goRound_L91 x5 x6) zfu (p_shop, 0, 0, 1, (zw (zw (zw M8 86 24 0) 86 25 0) 104 x10.toNatClampNeg 0)))
noncomputable def qM_goRound (M : zM) (p_shop : Int32) : Option (Int32 × zM) :=
  zb2 (qM_bestOf M 0) fun x1 M2 =>
  if x1 < 0 then
    (some (0, M2))
  else
    (zb2 (qM_bestOf M2 1) fun x3 M4 =>
    if x3 < 0 then
      (some (0, M4))
    else
      (zb (qM_rowOf M4 0) fun x5 =>
      zb (qM_rowOf M4 1) fun x6 =>
      zlp (qM_goRound_L33 p_shop x5 x6) zfu (0, M4)))
set_option maxRecDepth 20000 in
set_option maxHeartbeats 4000000 in
theorem qM_goRound_ok {S : zSc} {M : zM} {p_shop : Int32} {r : Int32 × zM} (h : qM_goRound M p_shop = some r) : zF S 192 (0, [(0, .ref 86), (1, .int p_shop)], [], zh, M) (some (.int r.1)) (r.2) := by
  unfold qM_goRound at h
  refine zF_go (n := 2) (ps := []) (s' := (2, [(0, .ref 86), (1, .int p_shop)], [.int 0, .ref 86], zh, M)) rfl trivial ?_
  obtain ⟨x1, M2, e50, h⟩ := zb2_some h
  refine zF_call (y' := 179) (as := [.ref 86, .int 0]) (u := (5, [(0, .ref 86), (1, .int p_shop)], [], zh, M)) rfl ⟨rfl, rfl⟩ rfl (qM_bestOf_ok (S := S) (M := M) e50) ?_
  show zF S 192 (5, [(0, .ref 86), (1, .int p_shop)], [.int x1], zh, M2) _ _
  refine zF_lt (t := 16) (u := (8, [(0, .ref 86), (1, .int p_shop)], [], zh, M2)) rfl (fun c51 => ?_) (fun c51 => ?_)
  · rw [if_pos c51] at h
    refine zF_go (n := 1) (ps := []) (s' := (17, [], [.int 0], zh, M2)) rfl trivial ?_
    cases h
    exact zF_ret rfl ⟨(Or.inl rfl), trivial⟩
  · rw [if_neg c51] at h
    refine zF_go (n := 2) (ps := []) (s' := (10, [(0, .ref 86), (1, .int p_shop)], [.int 1, .ref 86], zh, M2)) rfl trivial ?_
    obtain ⟨x3, M4, e52, h⟩ := zb2_some h
    refine zF_call (y' := 179) (as := [.ref 86, .int 1]) (u := (13, [(0, .ref 86), (1, .int p_shop)], [], zh, M2)) rfl ⟨rfl, rfl⟩ rfl (qM_bestOf_ok (S := S) (M := M2) e52) ?_
    show zF S 192 (13, [(0, .ref 86), (1, .int p_shop)], [.int x3], zh, M4) _ _
    refine zF_ge (t := 18) (u := (16, [(0, .ref 86), (1, .int p_shop)], [], zh, M4)) rfl (fun c53 => ?_) (fun c53 => ?_)
    · rw [if_neg c53] at h
      refine zF_go (n := 2) (ps := []) (s' := (20, [(0, .ref 86), (1, .int p_shop)], [.int 0, .ref 86], zh, M4)) rfl trivial ?_
      obtain ⟨x5, e54, h⟩ := zb_some h
      refine zF_call (y' := 174) (as := [.ref 86, .int 0]) (u := (23, [(0, .ref 86), (1, .int p_shop)], [], zh, M4)) rfl ⟨rfl, rfl⟩ rfl (qM_rowOf_ok (S := S) (M := M4) e54) ?_
      show zF S 192 (23, [(0, .ref 86), (1, .int p_shop)], [.int x5], zh, M4) _ _
      refine zF_go (n := 3) (ps := []) (s' := (26, [(2, .int x5), (0, .ref 86), (1, .int p_shop)], [.int 1, .ref 86], zh, M4)) rfl trivial ?_
      obtain ⟨x6, e55, h⟩ := zb_some h
      refine zF_call (y' := 174) (as := [.ref 86, .int 1]) (u := (29, [(2, .int x5), (0, .ref 86), (1, .int p_shop)], [], zh, M4)) rfl ⟨rfl, rfl⟩ rfl (qM_rowOf_ok (S := S) (M := M4) e55) ?_
      show zF S 192 (29, [(2, .int x5), (0, .ref 86), (1, .int p_shop)], [.int x6], zh, M4) _ _
      refine zF_go (n := 3) (ps := []) (s' := (33, [(4, .int 0), (3, .int x6), (2, .int x5), (0, .ref 86), (1, .int p_shop)], [], zh, M4)) rfl trivial ?_
      refine zF_same (s' := (33, [(0, .ref 86), (1, .int p_shop), (2, .int x5), (3, .int x6), (4, .int 0)], [], zh, M4)) rfl ?_
      refine zlp_ind (P := fun (v : Int32 × zM) r => zF S 192 (33, [(0, .ref 86), (1, .int p_shop), (2, .int x5), (3, .int x6), (4, .int v.1)], [], zh, v.2) (some (.int r.1)) (r.2)) ?_ _ _ _ h
      intro rec9 hrec9 v r h
      obtain ⟨v4_7, M8⟩ := v
      unfold qM_goRound_L33 at h
      dsimp only at h
      show zF S 192 (33, [(0, .ref 86), (1, .int p_shop), (2, .int x5), (3, .int x6), (4, .int v4_7)], [], zh, M8) _ _
      refine zF_go (n := 2) (ps := []) (s' := (38, [(0, .ref 86), (1, .int p_shop), (2, .int x5), (3, .int x6), (4, .int v4_7)], [.int 13122, .int v4_7], zh, M8)) rfl trivial ?_
      refine zF_ge (t := 56) (u := (41, [(0, .ref 86), (1, .int p_shop), (2, .int x5), (3, .int x6), (4, .int v4_7)], [], zh, M8)) rfl (fun c56 => ?_) (fun c56 => ?_)
      · rw [if_neg c56] at h
        refine zF_go (n := 19) (ps := []) (s' := (86, [(7, .int 1), (6, .int 0), (5, .int 0), (4, .int p_shop), (0, .ref 86), (1, .int p_shop), (2, .int x5), (3, .int x6)], [.int x6, .int x5, .int p_shop, .ref 104], zh, (zw (zw M8 86 24 0) 86 25 0))) rfl trivial ?_
        obtain ⟨x10, e57, h⟩ := zb_some h
        refine zF_call (y' := 188) (as := [.int p_shop, .int x5, .int x6]) (u := (89, [(7, .int 1), (6, .int 0), (5, .int 0), (4, .int p_shop), (0, .ref 86), (1, .int p_shop), (2, .int x5), (3, .int x6)], [.ref 104], zh, (zw (zw M8 86 24 0) 86 25 0))) rfl ⟨rfl, rfl⟩ rfl (qM_at_ok (S := S) (M := (zw (zw M8 86 24 0) 86 25 0)) e57) ?_
        show zF S 192 (89, [(7, .int 1), (6, .int 0), (5, .int 0), (4, .int p_shop), (0, .ref 86), (1, .int p_shop), (2, .int x5), (3, .int x6)], [.int x10, .ref 104], zh, (zw (zw M8 86 24 0) 86 25 0)) _ _
        obtain ⟨g58, h⟩ := zq_some h
        refine zF_go (n := 2) (ps := [vp_in x10 13122]) (s' := (91, [(7, .int 1), (6, .int 0), (5, .int 0), (4, .int p_shop), (0, .ref 86), (1, .int p_shop), (2, .int x5), (3, .int x6)], [], zh, (zw (zw (zw M8 86 24 0) 86 25 0) 104 x10.toNatClampNeg 0))) rfl ⟨g58, trivial⟩ ?_
        refine zF_same (s' := (91, [(0, .ref 86), (2, .int x5), (3, .int x6), (4, .int p_shop), (5, .int 0), (6, .int 0), (7, .int 1)], [], zh, (zw (zw (zw M8 86 24 0) 86 25 0) 104 x10.toNatClampNeg 0))) rfl ?_
        refine zlp_ind (P := fun (v : Int32 × Int32 × Int32 × Int32 × zM) r => zF S 192 (91, [(0, .ref 86), (2, .int x5), (3, .int x6), (4, .int v.1), (5, .int v.2.1), (6, .int v.2.2.1), (7, .int v.2.2.2.1)], [], zh, v.2.2.2.2) (some (.int r.1)) (r.2)) ?_ _ _ _ h
        intro rec16 hrec16 v r h
        obtain ⟨v4_11, v5_12, v6_13, v7_14, M15⟩ := v
        unfold qM_goRound_L91 at h
        dsimp only at h
        show zF S 192 (91, [(0, .ref 86), (2, .int x5), (3, .int x6), (4, .int v4_11), (5, .int v5_12), (6, .int v6_13), (7, .int v7_14)], [], zh, M15) _ _
        refine zF_go (n := 1) (ps := []) (s' := (93, [(0, .ref 86), (2, .int x5), (3, .int x6), (4, .int v4_11), (5, .int v5_12), (6, .int v6_13), (7, .int v7_14)], [.int v7_14], zh, M15)) rfl trivial ?_
        refine zF_eq (t := 262) (u := (96, [(0, .ref 86), (2, .int x5), (3, .int x6), (4, .int v4_11), (5, .int v5_12), (6, .int v6_13), (7, .int v7_14)], [], zh, M15)) rfl (fun c59 => ?_) (fun c59 => ?_)
        · rw [if_pos c59] at h
          refine zF_go (n := 3) (ps := []) (s' := (265, [(0, .ref 86), (2, .int x5), (3, .int x6), (4, .int v4_11), (5, .int v5_12), (6, .int v6_13), (7, .int v7_14)], [.int 0, .ref 86, .ref 86], zh, M15)) rfl trivial ?_
          obtain ⟨x17, e60, h⟩ := zb_some h
          refine zF_call (y' := 174) (as := [.ref 86, .int 0]) (u := (268, [(0, .ref 86), (2, .int x5), (3, .int x6), (4, .int v4_11), (5, .int v5_12), (6, .int v6_13), (7, .int v7_14)], [.ref 86], zh, M15)) rfl ⟨rfl, rfl⟩ rfl (qM_rowOf_ok (S := S) (M := M15) e60) ?_
          show zF S 192 (268, [(0, .ref 86), (2, .int x5), (3, .int x6), (4, .int v4_11), (5, .int v5_12), (6, .int v6_13), (7, .int v7_14)], [.int x17, .ref 86], zh, M15) _ _
          refine zF_go (n := 4) (ps := []) (s' := (274, [(0, .ref 86), (2, .int x5), (3, .int x6), (4, .int v4_11), (5, .int v5_12), (6, .int v6_13), (7, .int v7_14)], [.int 1, .ref 86, .ref 86], zh, (zw M15 86 26 x17))) rfl trivial ?_
          obtain ⟨x18, e61, h⟩ := zb_some h
          refine zF_call (y' := 174) (as := [.ref 86, .int 1]) (u := (277, [(0, .ref 86), (2, .int x5), (3, .int x6), (4, .int v4_11), (5, .int v5_12), (6, .int v6_13), (7, .int v7_14)], [.ref 86], zh, (zw M15 86 26 x17))) rfl ⟨rfl, rfl⟩ rfl (qM_rowOf_ok (S := S) (M := (zw M15 86 26 x17)) e61) ?_
          show zF S 192 (277, [(0, .ref 86), (2, .int x5), (3, .int x6), (4, .int v4_11), (5, .int v5_12), (6, .int v6_13), (7, .int v7_14)], [.int x18, .ref 86], zh, (zw M15 86 26 x17)) _ _
          refine zF_go (n := 4) (ps := []) (s' := (283, [(0, .ref 86), (2, .int x5), (3, .int x6), (4, .int v4_11), (5, .int v5_12), (6, .int v6_13), (7, .int v7_14)], [.int x5, .int 0, .ref 86], zh, (zw (zw M15 86 26 x17) 86 27 x18))) rfl trivial ?_
          obtain ⟨M19, e62, h⟩ := zb_some h
          refine zF_call (y' := 176) (as := [.ref 86, .int 0, .int x5]) (u := (286, [(0, .ref 86), (2, .int x5), (3, .int x6), (4, .int v4_11), (5, .int v5_12), (6, .int v6_13), (7, .int v7_14)], [], zh, (zw (zw M15 86 26 x17) 86 27 x18))) rfl ⟨rfl, rfl⟩ rfl (qM_lay_ok (S := S) (M := (zw (zw M15 86 26 x17) 86 27 x18)) e62) ?_
          show zF S 192 (286, [(0, .ref 86), (2, .int x5), (3, .int x6), (4, .int v4_11), (5, .int v5_12), (6, .int v6_13), (7, .int v7_14)], [], zh, M19) _ _
          refine zF_go (n := 3) (ps := []) (s' := (289, [(0, .ref 86), (2, .int x5), (3, .int x6), (4, .int v4_11), (5, .int v5_12), (6, .int v6_13), (7, .int v7_14)], [.int x6, .int 1, .ref 86], zh, M19)) rfl trivial ?_
          obtain ⟨M20, e63, h⟩ := zb_some h
          refine zF_call (y' := 176) (as := [.ref 86, .int 1, .int x6]) (u := (292, [(0, .ref 86), (2, .int x5), (3, .int x6), (4, .int v4_11), (5, .int v5_12), (6, .int v6_13), (7, .int v7_14)], [], zh, M19)) rfl ⟨rfl, rfl⟩ rfl (qM_lay_ok (S := S) (M := M19) e63) ?_
          show zF S 192 (292, [(0, .ref 86), (2, .int x5), (3, .int x6), (4, .int v4_11), (5, .int v5_12), (6, .int v6_13), (7, .int v7_14)], [], zh, M20) _ _
          refine zF_go (n := 1) (ps := []) (s' := (293, [(0, .ref 86), (2, .int x5), (3, .int x6), (4, .int v4_11), (5, .int v5_12), (6, .int v6_13), (7, .int v7_14)], [.int 1], zh, M20)) rfl trivial ?_
          cases h
          exact zF_ret rfl ⟨(Or.inr rfl), trivial⟩
        · rw [if_neg c59] at h
          refine zF_go (n := 2) (ps := []) (s' := (99, [(0, .ref 86), (2, .int x5), (3, .int x6), (4, .int v4_11), (5, .int v5_12), (6, .int v6_13), (7, .int v7_14)], [.int v4_11, .ref 86], zh, M15)) rfl trivial ?_
          obtain ⟨x21, M22, e64, h⟩ := zb2_some h
          refine zF_call (y' := 179) (as := [.ref 86, .int v4_11]) (u := (102, [(0, .ref 86), (2, .int x5), (3, .int x6), (4, .int v4_11), (5, .int v5_12), (6, .int v6_13), (7, .int v7_14)], [], zh, M15)) rfl ⟨rfl, rfl⟩ rfl (qM_bestOf_ok (S := S) (M := M15) e64) ?_
          show zF S 192 (102, [(0, .ref 86), (2, .int x5), (3, .int x6), (4, .int v4_11), (5, .int v5_12), (6, .int v6_13), (7, .int v7_14)], [.int x21], zh, M22) _ _
          refine zF_go (n := 4) (ps := []) (s' := (109, [(8, .int x21), (0, .ref 86), (2, .int x5), (3, .int x6), (4, .int v4_11), (5, .int v5_12), (6, .int v6_13), (7, .int v7_14)], [.int v4_11, .ref 86, .int x21], zh, M22)) rfl trivial ?_
          obtain ⟨x23, e65, h⟩ := zb_some h
          refine zF_call (y' := 174) (as := [.ref 86, .int v4_11]) (u := (112, [(8, .int x21), (0, .ref 86), (2, .int x5), (3, .int x6), (4, .int v4_11), (5, .int v5_12), (6, .int v6_13), (7, .int v7_14)], [.int x21], zh, M22)) rfl ⟨rfl, rfl⟩ rfl (qM_rowOf_ok (S := S) (M := M22) e65) ?_
          show zF S 192 (112, [(8, .int x21), (0, .ref 86), (2, .int x5), (3, .int x6), (4, .int v4_11), (5, .int v5_12), (6, .int v6_13), (7, .int v7_14)], [.int x23, .int x21], zh, M22) _ _
          obtain ⟨w33, g66, h⟩ := zb_some h
          have hk67 : zF S 192 (142, [(0, .ref 86), (2, .int x5), (3, .int x6), (4, .int v4_11), (5, .int v5_12), (6, .int v6_13), (7, .int v7_14), (8, .int x21)], [.int w33], zh, M22) (some (.int r.1)) (r.2) := by
            refine zF_go (n := 2) (ps := []) (s' := (146, [(9, .int w33), (0, .ref 86), (2, .int x5), (3, .int x6), (4, .int v4_11), (5, .int v5_12), (6, .int v6_13), (7, .int v7_14), (8, .int x21)], [.int w33], zh, M22)) rfl trivial ?_
            obtain ⟨M44, g68, h⟩ := zb_some h
            have hk69 : zF S 192 (167, [(0, .ref 86), (2, .int x5), (3, .int x6), (4, .int v4_11), (5, .int v5_12), (6, .int v6_13), (7, .int v7_14), (9, .int w33)], [], zh, M44) (some (.int r.1)) (r.2) := by
              refine zF_go (n := 1) (ps := []) (s' := (169, [(0, .ref 86), (2, .int x5), (3, .int x6), (4, .int v4_11), (5, .int v5_12), (6, .int v6_13), (7, .int v7_14), (9, .int w33)], [.int w33], zh, M44)) rfl trivial ?_
              have hk70 : zF S 192 (180, [(0, .ref 86), (2, .int x5), (3, .int x6), (4, .int v4_11), (6, .int v6_13), (7, .int v7_14)], [.int (if w33 = 0 then (v5_12 + 1) else 0)], zh, M44) (some (.int r.1)) (r.2) := by
                refine zF_go (n := 9) (ps := []) (s' := (195, [(6, .int (v6_13 + 1)), (4, .int (1 - v4_11)), (5, .int (if w33 = 0 then (v5_12 + 1) else 0)), (0, .ref 86), (2, .int x5), (3, .int x6), (7, .int v7_14)], [.int 0, .ref 86, .int (1 - v4_11)], zh, M44)) rfl trivial ?_
                obtain ⟨x47, e71, h⟩ := zb_some h
                refine zF_call (y' := 174) (as := [.ref 86, .int 0]) (u := (198, [(6, .int (v6_13 + 1)), (4, .int (1 - v4_11)), (5, .int (if w33 = 0 then (v5_12 + 1) else 0)), (0, .ref 86), (2, .int x5), (3, .int x6), (7, .int v7_14)], [.int (1 - v4_11)], zh, M44)) rfl ⟨rfl, rfl⟩ rfl (qM_rowOf_ok (S := S) (M := M44) e71) ?_
                show zF S 192 (198, [(6, .int (v6_13 + 1)), (4, .int (1 - v4_11)), (5, .int (if w33 = 0 then (v5_12 + 1) else 0)), (0, .ref 86), (2, .int x5), (3, .int x6), (7, .int v7_14)], [.int x47, .int (1 - v4_11)], zh, M44) _ _
                refine zF_go (n := 2) (ps := []) (s' := (200, [(6, .int (v6_13 + 1)), (4, .int (1 - v4_11)), (5, .int (if w33 = 0 then (v5_12 + 1) else 0)), (0, .ref 86), (2, .int x5), (3, .int x6), (7, .int v7_14)], [.int 1, .ref 86, .int x47, .int (1 - v4_11)], zh, M44)) rfl trivial ?_
                obtain ⟨x48, e72, h⟩ := zb_some h
                refine zF_call (y' := 174) (as := [.ref 86, .int 1]) (u := (203, [(6, .int (v6_13 + 1)), (4, .int (1 - v4_11)), (5, .int (if w33 = 0 then (v5_12 + 1) else 0)), (0, .ref 86), (2, .int x5), (3, .int x6), (7, .int v7_14)], [.int x47, .int (1 - v4_11)], zh, M44)) rfl ⟨rfl, rfl⟩ rfl (qM_rowOf_ok (S := S) (M := M44) e72) ?_
                show zF S 192 (203, [(6, .int (v6_13 + 1)), (4, .int (1 - v4_11)), (5, .int (if w33 = 0 then (v5_12 + 1) else 0)), (0, .ref 86), (2, .int x5), (3, .int x6), (7, .int v7_14)], [.int x48, .int x47, .int (1 - v4_11)], zh, M44) _ _
                obtain ⟨x49, e73, h⟩ := zb_some h
                refine zF_call (y' := 188) (as := [.int (1 - v4_11), .int x47, .int x48]) (u := (206, [(6, .int (v6_13 + 1)), (4, .int (1 - v4_11)), (5, .int (if w33 = 0 then (v5_12 + 1) else 0)), (0, .ref 86), (2, .int x5), (3, .int x6), (7, .int v7_14)], [], zh, M44)) rfl ⟨rfl, rfl⟩ rfl (qM_at_ok (S := S) (M := M44) e73) ?_
                show zF S 192 (206, [(6, .int (v6_13 + 1)), (4, .int (1 - v4_11)), (5, .int (if w33 = 0 then (v5_12 + 1) else 0)), (0, .ref 86), (2, .int x5), (3, .int x6), (7, .int v7_14)], [.int x49], zh, M44) _ _
                refine zF_go (n := 3) (ps := []) (s' := (211, [(10, .int x49), (6, .int (v6_13 + 1)), (4, .int (1 - v4_11)), (5, .int (if w33 = 0 then (v5_12 + 1) else 0)), (0, .ref 86), (2, .int x5), (3, .int x6), (7, .int v7_14)], [.int 2, .int (if w33 = 0 then (v5_12 + 1) else 0)], zh, M44)) rfl trivial ?_
                refine zF_ne (t := 220) (u := (214, [(10, .int x49), (6, .int (v6_13 + 1)), (4, .int (1 - v4_11)), (5, .int (if w33 = 0 then (v5_12 + 1) else 0)), (0, .ref 86), (2, .int x5), (3, .int x6), (7, .int v7_14)], [], zh, M44)) rfl (fun c74 => ?_) (fun c74 => ?_)
                · rw [if_neg c74] at h
                  obtain ⟨g75, h⟩ := zq_some h
                  refine zF_go (n := 4) (ps := [vp_in x49 13122]) (s' := (227, [(10, .int x49), (6, .int (v6_13 + 1)), (4, .int (1 - v4_11)), (5, .int (if w33 = 0 then (v5_12 + 1) else 0)), (0, .ref 86), (2, .int x5), (3, .int x6), (7, .int v7_14)], [.int (M44 104 x49.toNatClampNeg)], zh, M44)) rfl ⟨g75, trivial⟩ ?_
                  refine zF_lt (t := 250) (u := (230, [(10, .int x49), (6, .int (v6_13 + 1)), (4, .int (1 - v4_11)), (5, .int (if w33 = 0 then (v5_12 + 1) else 0)), (0, .ref 86), (2, .int x5), (3, .int x6), (7, .int v7_14)], [], zh, M44)) rfl (fun c76 => ?_) (fun c76 => ?_)
                  · rw [if_pos c76] at h
                    obtain ⟨g77, h⟩ := zq_some h
                    refine zF_go (n := 5) (ps := [vp_in x49 13122]) (s' := (259, [(10, .int x49), (6, .int (v6_13 + 1)), (4, .int (1 - v4_11)), (5, .int (if w33 = 0 then (v5_12 + 1) else 0)), (0, .ref 86), (2, .int x5), (3, .int x6), (7, .int v7_14)], [], zh, (zw M44 104 x49.toNatClampNeg (v6_13 + 1)))) rfl ⟨g77, trivial⟩ ?_
                    refine zF_go (n := 1) (ps := []) (s' := (91, [(0, .ref 86), (2, .int x5), (3, .int x6), (4, .int (1 - v4_11)), (5, .int (if w33 = 0 then (v5_12 + 1) else 0)), (6, .int (v6_13 + 1)), (7, .int v7_14)], [], zh, (zw M44 104 x49.toNatClampNeg (v6_13 + 1)))) rfl trivial ?_
                    exact zF_as (hrec16 _ _ h) rfl
                  · rw [if_neg c76] at h
                    obtain ⟨g78, h⟩ := zq_some h
                    refine zF_go (n := 11) (ps := [vp_in x49 13122]) (s' := (259, [(7, .int 0), (10, .int x49), (6, .int (v6_13 + 1)), (4, .int (1 - v4_11)), (5, .int (if w33 = 0 then (v5_12 + 1) else 0)), (0, .ref 86), (2, .int x5), (3, .int x6)], [], zh, (zw M44 86 25 ((v6_13 + 1) - (M44 104 x49.toNatClampNeg))))) rfl ⟨g78, trivial⟩ ?_
                    refine zF_go (n := 1) (ps := []) (s' := (91, [(0, .ref 86), (2, .int x5), (3, .int x6), (4, .int (1 - v4_11)), (5, .int (if w33 = 0 then (v5_12 + 1) else 0)), (6, .int (v6_13 + 1)), (7, .int 0)], [], zh, (zw M44 86 25 ((v6_13 + 1) - (M44 104 x49.toNatClampNeg))))) rfl trivial ?_
                    exact zF_as (hrec16 _ _ h) rfl
                · rw [if_pos c74] at h
                  refine zF_go (n := 3) (ps := []) (s' := (259, [(7, .int 0), (10, .int x49), (6, .int (v6_13 + 1)), (4, .int (1 - v4_11)), (5, .int (if w33 = 0 then (v5_12 + 1) else 0)), (0, .ref 86), (2, .int x5), (3, .int x6)], [], zh, M44)) rfl trivial ?_
                  refine zF_go (n := 1) (ps := []) (s' := (91, [(0, .ref 86), (2, .int x5), (3, .int x6), (4, .int (1 - v4_11)), (5, .int (if w33 = 0 then (v5_12 + 1) else 0)), (6, .int (v6_13 + 1)), (7, .int 0)], [], zh, M44)) rfl trivial ?_
                  exact zF_as (hrec16 _ _ h) rfl
              refine zF_eq (t := 176) (u := (172, [(0, .ref 86), (2, .int x5), (3, .int x6), (4, .int v4_11), (5, .int v5_12), (6, .int v6_13), (7, .int v7_14), (9, .int w33)], [], zh, M44)) rfl (fun c79 => ?_) (fun c79 => ?_)
              · skip
                refine zF_go (n := 3) (ps := []) (s' := (180, [(0, .ref 86), (2, .int x5), (3, .int x6), (4, .int v4_11), (5, .int v5_12), (6, .int v6_13), (7, .int v7_14), (9, .int w33)], [.int (v5_12 + 1)], zh, M44)) rfl trivial ?_
                simp only [if_pos c79] at hk70
                try simp only [if_pos c79]
                exact zF_as hk70 rfl
              · skip
                refine zF_go (n := 2) (ps := []) (s' := (180, [(0, .ref 86), (2, .int x5), (3, .int x6), (4, .int v4_11), (5, .int v5_12), (6, .int v6_13), (7, .int v7_14), (9, .int w33)], [.int 0], zh, M44)) rfl trivial ?_
                simp only [if_neg c79] at hk70
                try simp only [if_neg c79]
                exact zF_as hk70 rfl
            refine zF_eq (t := 167) (u := (149, [(9, .int w33), (0, .ref 86), (2, .int x5), (3, .int x6), (4, .int v4_11), (5, .int v5_12), (6, .int v6_13), (7, .int v7_14), (8, .int x21)], [], zh, M22)) rfl (fun c80 => ?_) (fun c80 => ?_)
            · rw [if_pos c80] at g68
              cases g68
              exact zF_as hk69 rfl
            · rw [if_neg c80] at g68
              refine zF_go (n := 3) (ps := []) (s' := (154, [(9, .int w33), (0, .ref 86), (2, .int x5), (3, .int x6), (4, .int v4_11), (5, .int v5_12), (6, .int v6_13), (7, .int v7_14), (8, .int x21)], [.int x21, .int v4_11, .ref 86], zh, M22)) rfl trivial ?_
              obtain ⟨M45, e81, g68⟩ := zb_some g68
              refine zF_call (y' := 176) (as := [.ref 86, .int v4_11, .int x21]) (u := (157, [(9, .int w33), (0, .ref 86), (2, .int x5), (3, .int x6), (4, .int v4_11), (5, .int v5_12), (6, .int v6_13), (7, .int v7_14), (8, .int x21)], [], zh, M22)) rfl ⟨rfl, rfl⟩ rfl (qM_lay_ok (S := S) (M := M22) e81) ?_
              show zF S 192 (157, [(9, .int w33), (0, .ref 86), (2, .int x5), (3, .int x6), (4, .int v4_11), (5, .int v5_12), (6, .int v6_13), (7, .int v7_14), (8, .int x21)], [], zh, M45) _ _
              refine zF_go (n := 6) (ps := []) (s' := (167, [(9, .int w33), (0, .ref 86), (2, .int x5), (3, .int x6), (4, .int v4_11), (5, .int v5_12), (6, .int v6_13), (7, .int v7_14), (8, .int x21)], [], zh, (zw M45 86 24 ((M45 86 24) + 1)))) rfl trivial ?_
              cases g68
              exact zF_as hk69 rfl
          refine zlj_e g66 (fun k => ∀ (_ : Unit), k () = some w33 → zF S 192 (141, [(0, .ref 86), (2, .int x5), (3, .int x6), (4, .int v4_11), (5, .int v5_12), (6, .int v6_13), (7, .int v7_14), (8, .int x21)], [], zh, M22) (some (.int r.1)) (r.2)) ?_ ?_
          · intro _ g66
            try dsimp only at g66
            refine zF_go (n := 1) (ps := []) (s' := (142, [(0, .ref 86), (2, .int x5), (3, .int x6), (4, .int v4_11), (5, .int v5_12), (6, .int v6_13), (7, .int v7_14), (8, .int x21)], [.int 0], zh, M22)) rfl trivial ?_
            cases g66
            exact zF_as hk67 rfl
          · intro k38 hk38 g66
            try dsimp only at g66
            refine zF_eq (t := 141) (u := (115, [(8, .int x21), (0, .ref 86), (2, .int x5), (3, .int x6), (4, .int v4_11), (5, .int v5_12), (6, .int v6_13), (7, .int v7_14)], [], zh, M22)) rfl (fun c82 => ?_) (fun c82 => ?_)
            · rw [if_pos c82] at g66
              exact zF_as (hk38 () g66) rfl
            · rw [if_neg c82] at g66
              refine zF_go (n := 4) (ps := []) (s' := (122, [(8, .int x21), (0, .ref 86), (2, .int x5), (3, .int x6), (4, .int v4_11), (5, .int v5_12), (6, .int v6_13), (7, .int v7_14)], [.int v4_11, .ref 86, .int (M22 86 19)], zh, M22)) rfl trivial ?_
              obtain ⟨x39, e83, g66⟩ := zb_some g66
              refine zF_call (y' := 172) (as := [.ref 86, .int v4_11]) (u := (125, [(8, .int x21), (0, .ref 86), (2, .int x5), (3, .int x6), (4, .int v4_11), (5, .int v5_12), (6, .int v6_13), (7, .int v7_14)], [.int (M22 86 19)], zh, M22)) rfl ⟨rfl, rfl⟩ rfl (qM_leftOf_ok (S := S) (M := M22) e83) ?_
              show zF S 192 (125, [(8, .int x21), (0, .ref 86), (2, .int x5), (3, .int x6), (4, .int v4_11), (5, .int v5_12), (6, .int v6_13), (7, .int v7_14)], [.int x39, .int (M22 86 19)], zh, M22) _ _
              refine zlj_e g66 (fun k => ∀ (_ : Unit), k () = some w33 → zF S 192 (137, [(0, .ref 86), (2, .int x5), (3, .int x6), (4, .int v4_11), (5, .int v5_12), (6, .int v6_13), (7, .int v7_14), (8, .int x21)], [], zh, M22) (some (.int r.1)) (r.2)) ?_ ?_
              · intro _ g66
                try dsimp only at g66
                refine zF_go (n := 2) (ps := []) (s' := (142, [(0, .ref 86), (2, .int x5), (3, .int x6), (4, .int v4_11), (5, .int v5_12), (6, .int v6_13), (7, .int v7_14), (8, .int x21)], [.int 1], zh, M22)) rfl trivial ?_
                cases g66
                exact zF_as hk67 rfl
              · intro k41 hk41 g66
                try dsimp only at g66
                refine zF_gt (t := 137) (u := (128, [(8, .int x21), (0, .ref 86), (2, .int x5), (3, .int x6), (4, .int v4_11), (5, .int v5_12), (6, .int v6_13), (7, .int v7_14)], [], zh, M22)) rfl (fun c84 => ?_) (fun c84 => ?_)
                · rw [if_pos c84] at g66
                  exact zF_as (hk41 () g66) rfl
                · rw [if_neg c84] at g66
                  refine zF_go (n := 2) (ps := []) (s' := (131, [(8, .int x21), (0, .ref 86), (2, .int x5), (3, .int x6), (4, .int v4_11), (5, .int v5_12), (6, .int v6_13), (7, .int v7_14)], [.int v4_11, .ref 86], zh, M22)) rfl trivial ?_
                  obtain ⟨x42, e85, g66⟩ := zb_some g66
                  refine zF_call (y' := 178) (as := [.ref 86, .int v4_11]) (u := (134, [(8, .int x21), (0, .ref 86), (2, .int x5), (3, .int x6), (4, .int v4_11), (5, .int v5_12), (6, .int v6_13), (7, .int v7_14)], [], zh, M22)) rfl ⟨rfl, rfl⟩ rfl (qM_isAllowed_ok (S := S) (M := M22) e85) ?_
                  show zF S 192 (134, [(8, .int x21), (0, .ref 86), (2, .int x5), (3, .int x6), (4, .int v4_11), (5, .int v5_12), (6, .int v6_13), (7, .int v7_14)], [.int x42], zh, M22) _ _
                  refine zF_ne (t := 141) (u := (137, [(8, .int x21), (0, .ref 86), (2, .int x5), (3, .int x6), (4, .int v4_11), (5, .int v5_12), (6, .int v6_13), (7, .int v7_14)], [], zh, M22)) rfl (fun c86 => ?_) (fun c86 => ?_)
                  · rw [if_neg c86] at g66
                    exact zF_as (hk38 () g66) rfl
                  · rw [if_pos c86] at g66
                    exact zF_as (hk41 () g66) rfl
      · rw [if_pos c56] at h
        obtain ⟨g87, h⟩ := zq_some h
        refine zF_go (n := 7) (ps := [vp_in v4_7 13122]) (s' := (33, [(4, .int (v4_7 + 1)), (0, .ref 86), (1, .int p_shop), (2, .int x5), (3, .int x6)], [], zh, (zw M8 104 v4_7.toNatClampNeg (-6)))) rfl ⟨g87, trivial⟩ ?_
        exact zF_as (hrec9 _ _ h) rfl
    · rw [if_pos c53] at h
      refine zF_go (n := 1) (ps := []) (s' := (17, [], [.int 0], zh, M4)) rfl trivial ?_
      cases h
      exact zF_ret rfl ⟨(Or.inl rfl), trivial⟩
end ZT
