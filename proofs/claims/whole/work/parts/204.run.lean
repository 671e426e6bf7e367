section ZT
noncomputable def qW_gained_L5 (M : zM) (p_sort : Int32) (p_shop : Int32) (rec3 : (Int32 × Int32) → Option (Int32)) (v : Int32 × Int32) : Option (Int32) := match v with
  | (v3_1, v4_2) =>
    if v4_2 < (M 63 0) then
      (zq (vp_in ((p_sort * 4) + v4_2) 20) <| zb (qG_priceNow M p_shop v4_2) fun x4 =>
      zq (vp_in ((p_shop * 4) + v4_2) 8) <| rec3 ((v3_1 + ((M 74 ((p_shop * 4) + v4_2).toNatClampNeg) * ((M 16 ((p_sort * 4) + v4_2).toNatClampNeg) - x4))), (v4_2 + 1)))
    else
      (some v3_1)
noncomputable def qW_gained (M : zM) (p_sort : Int32) (p_shop : Int32) : Option (Int32) :=
  zlp (qW_gained_L5 M p_sort p_shop) zfu (0, 0)
set_option maxRecDepth 20000 in
set_option maxHeartbeats 4000000 in
theorem qW_gained_ok {S : zSc} {M : zM} {p_sort : Int32} {p_shop : Int32} {r : Int32} (h : qW_gained M p_sort p_shop = some r) : zF S 80 (0, [(0, .ref 70), (1, .int p_sort), (2, .int p_shop)], [], zh, M) (some (.int r)) (M) := by
  unfold qW_gained at h
  refine zF_go (n := 4) (ps := []) (s' := (5, [(4, .int 0), (3, .int 0), (0, .ref 70), (1, .int p_sort), (2, .int p_shop)], [], zh, M)) rfl trivial ?_
  refine zF_same (s' := (5, [(0, .ref 70), (1, .int p_sort), (2, .int p_shop), (3, .int 0), (4, .int 0)], [], zh, M)) rfl ?_
  refine zlp_ind (P := fun (v : Int32 × Int32) r => zF S 80 (5, [(0, .ref 70), (1, .int p_sort), (2, .int p_shop), (3, .int v.1), (4, .int v.2)], [], zh, M) (some (.int r)) (M)) ?_ _ _ _ h
  intro rec3 hrec3 v r h
  obtain ⟨v3_1, v4_2⟩ := v
  unfold qW_gained_L5 at h
  dsimp only at h
  show zF S 80 (5, [(0, .ref 70), (1, .int p_sort), (2, .int p_shop), (3, .int v3_1), (4, .int v4_2)], [], zh, M) _ _
  refine zF_go (n := 4) (ps := []) (s' := (14, [(0, .ref 70), (1, .int p_sort), (2, .int p_shop), (3, .int v3_1), (4, .int v4_2)], [.int (M 63 0), .int v4_2], zh, M)) rfl trivial ?_
  refine zF_ge (t := 67) (u := (17, [(0, .ref 70), (1, .int p_sort), (2, .int p_shop), (3, .int v3_1), (4, .int v4_2)], [], zh, M)) rfl (fun c5 => ?_) (fun c5 => ?_)
  · rw [if_neg c5] at h
    refine zF_go (n := 1) (ps := []) (s' := (68, [(0, .ref 70), (1, .int p_sort), (2, .int p_shop), (3, .int v3_1), (4, .int v4_2)], [.int v3_1], zh, M)) rfl trivial ?_
    cases h
    exact zF_ret rfl trivial
  · rw [if_pos c5] at h
    obtain ⟨g6, h⟩ := zq_some h
    refine zF_go (n := 13) (ps := [vp_in ((p_sort * 4) + v4_2) 20]) (s' := (38, [(0, .ref 70), (1, .int p_sort), (2, .int p_shop), (3, .int v3_1), (4, .int v4_2)], [.int v4_2, .int p_shop, .ref 63, .int (M 16 ((p_sort * 4) + v4_2).toNatClampNeg)], zh, M)) rfl ⟨g6, trivial⟩ ?_
    obtain ⟨x4, e7, h⟩ := zb_some h
    refine zF_call (y' := 17) (as := [.ref 63, .int p_shop, .int v4_2]) (u := (41, [(0, .ref 70), (1, .int p_sort), (2, .int p_shop), (3, .int v3_1), (4, .int v4_2)], [.int (M 16 ((p_sort * 4) + v4_2).toNatClampNeg)], zh, M)) rfl ⟨rfl, rfl⟩ rfl (qG_priceNow_ok (S := S) (M := M) e7) ?_
    show zF S 80 (41, [(0, .ref 70), (1, .int p_sort), (2, .int p_shop), (3, .int v3_1), (4, .int v4_2)], [.int x4, .int (M 16 ((p_sort * 4) + v4_2).toNatClampNeg)], zh, M) _ _
    obtain ⟨g8, h⟩ := zq_some h
    refine zF_go (n := 17) (ps := [vp_in ((p_shop * 4) + v4_2) 8]) (s' := (5, [(4, .int (v4_2 + 1)), (3, .int (v3_1 + ((M 74 ((p_shop * 4) + v4_2).toNatClampNeg) * ((M 16 ((p_sort * 4) + v4_2).toNatClampNeg) - x4)))), (5, .int ((M 16 ((p_sort * 4) + v4_2).toNatClampNeg) - x4)), (0, .ref 70), (1, .int p_sort), (2, .int p_shop)], [], zh, M)) rfl ⟨g8, trivial⟩ ?_
    exact zF_as (hrec3 _ _ h) rfl
noncomputable def qW_savedBy_L11 (x1 : Int32) (M2 : zM) (p_sort : Int32) (rec5 : (Int32 × Int32) → Option (Int32 × zM)) (v : Int32 × Int32) : Option (Int32 × zM) := match v with
  | (v3_3, v4_4) =>
    if v4_4 < 2 then
      (zb (qW_visits x1 v4_4) fun x6 =>
      if x6 = 0 then
        (rec5 (v3_3, (v4_4 + 1)))
      else
        (zb (qW_gained M2 p_sort v4_4) fun x7 =>
        zq (vp_in ((p_sort * 2) + v4_4) 10) <| rec5 ((v3_3 + (x7 - (M2 12 ((p_sort * 2) + v4_4).toNatClampNeg))), (v4_4 + 1))))
    else
      (some (v3_3, M2))
noncomputable def qW_savedBy (M : zM) (p_sort : Int32) : Option (Int32 × zM) :=
  zb2 (qW_send M p_sort) fun x1 M2 =>
  zlp (qW_savedBy_L11 x1 M2 p_sort) zfu (0, 0)
set_option maxRecDepth 20000 in
set_option maxHeartbeats 4000000 in
theorem qW_savedBy_ok {S : zSc} {M : zM} {p_sort : Int32} {r : Int32 × zM} (h : qW_savedBy M p_sort = some r) : zF S 79 (0, [(0, .ref 70), (1, .int p_sort)], [], zh, M) (some (.int r.1)) (r.2) := by
  unfold qW_savedBy at h
  refine zF_go (n := 2) (ps := []) (s' := (2, [(0, .ref 70), (1, .int p_sort)], [.int p_sort, .ref 70], zh, M)) rfl trivial ?_
  obtain ⟨x1, M2, e8, h⟩ := zb2_some h
  refine zF_call (y' := 75) (as := [.ref 70, .int p_sort]) (u := (5, [(0, .ref 70), (1, .int p_sort)], [], zh, M)) rfl ⟨rfl, rfl⟩ rfl (qW_send_ok (S := S) (M := M) e8) ?_
  show zF S 79 (5, [(0, .ref 70), (1, .int p_sort)], [.int x1], zh, M2) _ _
  refine zF_go (n := 5) (ps := []) (s' := (11, [(4, .int 0), (3, .int 0), (2, .int x1), (0, .ref 70), (1, .int p_sort)], [], zh, M2)) rfl trivial ?_
  refine zF_same (s' := (11, [(0, .ref 70), (1, .int p_sort), (2, .int x1), (3, .int 0), (4, .int 0)], [], zh, M2)) rfl ?_
  refine zlp_ind (P := fun (v : Int32 × Int32) r => zF S 79 (11, [(0, .ref 70), (1, .int p_sort), (2, .int x1), (3, .int v.1), (4, .int v.2)], [], zh, M2) (some (.int r.1)) (r.2)) ?_ _ _ _ h
  intro rec5 hrec5 v r h
  obtain ⟨v3_3, v4_4⟩ := v
  unfold qW_savedBy_L11 at h
  dsimp only at h
  show zF S 79 (11, [(0, .ref 70), (1, .int p_sort), (2, .int x1), (3, .int v3_3), (4, .int v4_4)], [], zh, M2) _ _
  refine zF_go (n := 2) (ps := []) (s' := (14, [(0, .ref 70), (1, .int p_sort), (2, .int x1), (3, .int v3_3), (4, .int v4_4)], [.int 2, .int v4_4], zh, M2)) rfl trivial ?_
  refine zF_ge (t := 57) (u := (17, [(0, .ref 70), (1, .int p_sort), (2, .int x1), (3, .int v3_3), (4, .int v4_4)], [], zh, M2)) rfl (fun c9 => ?_) (fun c9 => ?_)
  · rw [if_neg c9] at h
    refine zF_go (n := 1) (ps := []) (s' := (58, [(0, .ref 70), (1, .int p_sort), (2, .int x1), (3, .int v3_3), (4, .int v4_4)], [.int v3_3], zh, M2)) rfl trivial ?_
    cases h
    exact zF_ret rfl trivial
  · rw [if_pos c9] at h
    refine zF_go (n := 2) (ps := []) (s' := (20, [(0, .ref 70), (1, .int p_sort), (2, .int x1), (3, .int v3_3), (4, .int v4_4)], [.int v4_4, .int x1], zh, M2)) rfl trivial ?_
    obtain ⟨x6, e10, h⟩ := zb_some h
    refine zF_call (y' := 74) (as := [.int x1, .int v4_4]) (u := (23, [(0, .ref 70), (1, .int p_sort), (2, .int x1), (3, .int v3_3), (4, .int v4_4)], [], zh, M2)) rfl ⟨rfl, rfl⟩ rfl (qW_visits_ok (S := S) (M := M2) e10) ?_
    show zF S 79 (23, [(0, .ref 70), (1, .int p_sort), (2, .int x1), (3, .int v3_3), (4, .int v4_4)], [.int x6], zh, M2) _ _
    refine zF_eq (t := 51) (u := (26, [(0, .ref 70), (1, .int p_sort), (2, .int x1), (3, .int v3_3), (4, .int v4_4)], [], zh, M2)) rfl (fun c11 => ?_) (fun c11 => ?_)
    · rw [if_pos c11] at h
      refine zF_go (n := 2) (ps := []) (s' := (11, [(4, .int (v4_4 + 1)), (0, .ref 70), (1, .int p_sort), (2, .int x1), (3, .int v3_3)], [], zh, M2)) rfl trivial ?_
      exact zF_as (hrec5 _ _ h) rfl
    · rw [if_neg c11] at h
      refine zF_go (n := 4) (ps := []) (s' := (31, [(0, .ref 70), (1, .int p_sort), (2, .int x1), (3, .int v3_3), (4, .int v4_4)], [.int v4_4, .int p_sort, .ref 70, .int v3_3], zh, M2)) rfl trivial ?_
      obtain ⟨x7, e12, h⟩ := zb_some h
      refine zF_call (y' := 80) (as := [.ref 70, .int p_sort, .int v4_4]) (u := (34, [(0, .ref 70), (1, .int p_sort), (2, .int x1), (3, .int v3_3), (4, .int v4_4)], [.int v3_3], zh, M2)) rfl ⟨rfl, rfl⟩ rfl (qW_gained_ok (S := S) (M := M2) e12) ?_
      show zF S 79 (34, [(0, .ref 70), (1, .int p_sort), (2, .int x1), (3, .int v3_3), (4, .int v4_4)], [.int x7, .int v3_3], zh, M2) _ _
      obtain ⟨g13, h⟩ := zq_some h
      refine zF_go (n := 12) (ps := [vp_in ((p_sort * 2) + v4_4) 10]) (s' := (51, [(3, .int (v3_3 + (x7 - (M2 12 ((p_sort * 2) + v4_4).toNatClampNeg)))), (0, .ref 70), (1, .int p_sort), (2, .int x1), (4, .int v4_4)], [], zh, M2)) rfl ⟨g13, trivial⟩ ?_
      refine zF_go (n := 2) (ps := []) (s' := (11, [(4, .int (v4_4 + 1)), (0, .ref 70), (1, .int p_sort), (2, .int x1), (3, .int (v3_3 + (x7 - (M2 12 ((p_sort * 2) + v4_4).toNatClampNeg))))], [], zh, M2)) rfl trivial ?_
      exact zF_as (hrec5 _ _ h) rfl
noncomputable def qS_saves (M : zM) (p_sort : Int32) : Option (Int64 × zM) :=
  zb (qS_noSort M p_sort) fun x1 =>
  if x1 = 0 then
    (zb (qS_lookAsItIs M) fun M2 =>
    zb2 (qW_savedBy M2 p_sort) fun x3 M4 =>
    some (x3.toInt64, M4))
  else
    (some ((-1000000000000000001), M))
set_option maxRecDepth 20000 in
set_option maxHeartbeats 4000000 in
theorem qS_saves_ok {S : zSc} {M : zM} {p_sort : Int32} {r : Int64 × zM} (h : qS_saves M p_sort = some r) : zF S 102 (0, [(0, .ref 1), (1, .int p_sort)], [], zh, M) (some (.long r.1)) (r.2) := by
  unfold qS_saves at h
  refine zF_go (n := 2) (ps := []) (s' := (2, [(0, .ref 1), (1, .int p_sort)], [.int p_sort, .ref 1], zh, M)) rfl trivial ?_
  obtain ⟨x1, e5, h⟩ := zb_some h
  refine zF_call (y' := 129) (as := [.ref 1, .int p_sort]) (u := (5, [(0, .ref 1), (1, .int p_sort)], [], zh, M)) rfl ⟨rfl, rfl⟩ rfl (qS_noSort_ok (S := S) (M := M) e5) ?_
  show zF S 102 (5, [(0, .ref 1), (1, .int p_sort)], [.int x1], zh, M) _ _
  refine zF_eq (t := 12) (u := (8, [(0, .ref 1), (1, .int p_sort)], [], zh, M)) rfl (fun c6 => ?_) (fun c6 => ?_)
  · rw [if_pos c6] at h
    refine zF_go (n := 1) (ps := []) (s' := (13, [(0, .ref 1), (1, .int p_sort)], [.ref 1], zh, M)) rfl trivial ?_
    obtain ⟨M2, e7, h⟩ := zb_some h
    refine zF_call (y' := 132) (as := [.ref 1]) (u := (16, [(0, .ref 1), (1, .int p_sort)], [], zh, M)) rfl ⟨rfl, rfl⟩ rfl (qS_lookAsItIs_ok (S := S) (M := M) e7) ?_
    show zF S 102 (16, [(0, .ref 1), (1, .int p_sort)], [], zh, M2) _ _
    refine zF_go (n := 3) (ps := []) (s' := (21, [(0, .ref 1), (1, .int p_sort)], [.int p_sort, .ref 70], zh, M2)) rfl trivial ?_
    obtain ⟨x3, M4, e8, h⟩ := zb2_some h
    refine zF_call (y' := 79) (as := [.ref 70, .int p_sort]) (u := (24, [(0, .ref 1), (1, .int p_sort)], [], zh, M2)) rfl ⟨rfl, rfl⟩ rfl (qW_savedBy_ok (S := S) (M := M2) e8) ?_
    show zF S 102 (24, [(0, .ref 1), (1, .int p_sort)], [.int x3], zh, M4) _ _
    refine zF_go (n := 1) (ps := []) (s' := (25, [(0, .ref 1), (1, .int p_sort)], [.long x3.toInt64], zh, M4)) rfl trivial ?_
    cases h
    exact zF_ret rfl trivial
  · rw [if_neg c6] at h
    refine zF_go (n := 1) (ps := []) (s' := (11, [(0, .ref 1), (1, .int p_sort)], [.long (-1000000000000000001)], zh, M)) rfl trivial ?_
    cases h
    exact zF_ret rfl trivial
noncomputable def qM_savesOf_L48 (M : zM) (p_sort : Int32) (x1 : Int32) (v4_3 : Int32) (rec4 : (Int32 × Int32) → Option (Int32)) (rec8 : (Int32 × Int32) → Option (Int32)) (v : Int32 × Int32) : Option (Int32) := match v with
  | (v3_6, v5_7) =>
    if v5_7 < (M 86 6) then
      (zb (qM_bought M p_sort x1 v4_3 v5_7) fun x9 =>
      zq (vp_in ((4 * p_sort) + v5_7) 20) <| zb (qM_priceOf M v4_3 v5_7) fun x10 =>
      rec8 ((v3_6 + (x9 * ((M 98 ((4 * p_sort) + v5_7).toNatClampNeg) - x10))), (v5_7 + 1)))
    else
      (rec4 (v3_6, (v4_3 + 1)))
noncomputable def qM_savesOf_L11 (x1 : Int32) (p_sort : Int32) (M : zM) (rec4 : (Int32 × Int32) → Option (Int32)) (v : Int32 × Int32) : Option (Int32) := match v with
  | (v3_2, v4_3) =>
    if v4_3 < 2 then
      (zb (if ((x1 >>> (v4_3 &&& 31)) &&& 1) = 1 then
          (zq (vp_in ((2 * p_sort) + v4_3) 10) <| some (M 94 ((2 * p_sort) + v4_3).toNatClampNeg))
        else
          (some 0)) fun (w5 : Int32) =>
      zlp (qM_savesOf_L48 M p_sort x1 v4_3 rec4) zfu ((v3_2 - w5), 0))
    else
      (some v3_2)
noncomputable def qM_savesOf (M : zM) (p_sort : Int32) : Option (Int32) :=
  zb (qM_goesTo M p_sort) fun x1 =>
  zlp (qM_savesOf_L11 x1 p_sort M) zfu (0, 0)
set_option maxRecDepth 20000 in
set_option maxHeartbeats 4000000 in
theorem qM_savesOf_ok {S : zSc} {M : zM} {p_sort : Int32} {r : Int32} (h : qM_savesOf M p_sort = some r) : zF S 169 (0, [(0, .ref 86), (1, .int p_sort)], [], zh, M) (some (.int r)) (M) := by
  unfold qM_savesOf at h
  refine zF_go (n := 2) (ps := []) (s' := (2, [(0, .ref 86), (1, .int p_sort)], [.int p_sort, .ref 86], zh, M)) rfl trivial ?_
  obtain ⟨x1, e11, h⟩ := zb_some h
  refine zF_call (y' := 165) (as := [.ref 86, .int p_sort]) (u := (5, [(0, .ref 86), (1, .int p_sort)], [], zh, M)) rfl ⟨rfl, rfl⟩ rfl (qM_goesTo_ok (S := S) (M := M) e11) ?_
  show zF S 169 (5, [(0, .ref 86), (1, .int p_sort)], [.int x1], zh, M) _ _
  refine zF_go (n := 5) (ps := []) (s' := (11, [(4, .int 0), (3, .int 0), (2, .int x1), (0, .ref 86), (1, .int p_sort)], [], zh, M)) rfl trivial ?_
  refine zF_same (s' := (11, [(0, .ref 86), (1, .int p_sort), (2, .int x1), (3, .int 0), (4, .int 0)], [], zh, M)) rfl ?_
  refine zlp_ind (P := fun (v : Int32 × Int32) r => zF S 169 (11, [(0, .ref 86), (1, .int p_sort), (2, .int x1), (3, .int v.1), (4, .int v.2)], [], zh, M) (some (.int r)) (M)) ?_ _ _ _ h
  intro rec4 hrec4 v r h
  obtain ⟨v3_2, v4_3⟩ := v
  unfold qM_savesOf_L11 at h
  dsimp only at h
  show zF S 169 (11, [(0, .ref 86), (1, .int p_sort), (2, .int x1), (3, .int v3_2), (4, .int v4_3)], [], zh, M) _ _
  refine zF_go (n := 2) (ps := []) (s' := (14, [(0, .ref 86), (1, .int p_sort), (2, .int x1), (3, .int v3_2), (4, .int v4_3)], [.int 2, .int v4_3], zh, M)) rfl trivial ?_
  refine zF_ge (t := 103) (u := (17, [(0, .ref 86), (1, .int p_sort), (2, .int x1), (3, .int v3_2), (4, .int v4_3)], [], zh, M)) rfl (fun c12 => ?_) (fun c12 => ?_)
  · rw [if_neg c12] at h
    refine zF_go (n := 1) (ps := []) (s' := (104, [(0, .ref 86), (1, .int p_sort), (2, .int x1), (3, .int v3_2), (4, .int v4_3)], [.int v3_2], zh, M)) rfl trivial ?_
    cases h
    exact zF_ret rfl trivial
  · rw [if_pos c12] at h
    refine zF_go (n := 7) (ps := []) (s' := (25, [(0, .ref 86), (1, .int p_sort), (2, .int x1), (3, .int v3_2), (4, .int v4_3)], [.int 1, .int ((x1 >>> (v4_3 &&& 31)) &&& 1), .int v3_2], zh, M)) rfl trivial ?_
    obtain ⟨w5, g13, h⟩ := zb_some h
    have hk14 : zF S 169 (43, [(0, .ref 86), (1, .int p_sort), (2, .int x1), (4, .int v4_3)], [.int w5, .int v3_2], zh, M) (some (.int r)) (M) := by
      refine zF_go (n := 4) (ps := []) (s' := (48, [(5, .int 0), (3, .int (v3_2 - w5)), (0, .ref 86), (1, .int p_sort), (2, .int x1), (4, .int v4_3)], [], zh, M)) rfl trivial ?_
      refine zF_same (s' := (48, [(0, .ref 86), (1, .int p_sort), (2, .int x1), (3, .int (v3_2 - w5)), (4, .int v4_3), (5, .int 0)], [], zh, M)) rfl ?_
      refine zlp_ind (P := fun (v : Int32 × Int32) r => zF S 169 (48, [(0, .ref 86), (1, .int p_sort), (2, .int x1), (3, .int v.1), (4, .int v4_3), (5, .int v.2)], [], zh, M) (some (.int r)) (M)) ?_ _ _ _ h
      intro rec8 hrec8 v r h
      obtain ⟨v3_6, v5_7⟩ := v
      unfold qM_savesOf_L48 at h
      dsimp only at h
      show zF S 169 (48, [(0, .ref 86), (1, .int p_sort), (2, .int x1), (3, .int v3_6), (4, .int v4_3), (5, .int v5_7)], [], zh, M) _ _
      refine zF_go (n := 3) (ps := []) (s' := (54, [(0, .ref 86), (1, .int p_sort), (2, .int x1), (3, .int v3_6), (4, .int v4_3), (5, .int v5_7)], [.int (M 86 6), .int v5_7], zh, M)) rfl trivial ?_
      refine zF_ge (t := 97) (u := (57, [(0, .ref 86), (1, .int p_sort), (2, .int x1), (3, .int v3_6), (4, .int v4_3), (5, .int v5_7)], [], zh, M)) rfl (fun c15 => ?_) (fun c15 => ?_)
      · rw [if_neg c15] at h
        refine zF_go (n := 2) (ps := []) (s' := (11, [(4, .int (v4_3 + 1)), (0, .ref 86), (1, .int p_sort), (2, .int x1), (3, .int v3_6), (5, .int v5_7)], [], zh, M)) rfl trivial ?_
        exact zF_as (hrec4 _ _ h) rfl
      · rw [if_pos c15] at h
        refine zF_go (n := 6) (ps := []) (s' := (65, [(0, .ref 86), (1, .int p_sort), (2, .int x1), (3, .int v3_6), (4, .int v4_3), (5, .int v5_7)], [.int v5_7, .int v4_3, .int x1, .int p_sort, .ref 86, .int v3_6], zh, M)) rfl trivial ?_
        obtain ⟨x9, e16, h⟩ := zb_some h
        refine zF_call (y' := 167) (as := [.ref 86, .int p_sort, .int x1, .int v4_3, .int v5_7]) (u := (68, [(0, .ref 86), (1, .int p_sort), (2, .int x1), (3, .int v3_6), (4, .int v4_3), (5, .int v5_7)], [.int v3_6], zh, M)) rfl ⟨rfl, rfl⟩ rfl (qM_bought_ok (S := S) (M := M) e16) ?_
        show zF S 169 (68, [(0, .ref 86), (1, .int p_sort), (2, .int x1), (3, .int v3_6), (4, .int v4_3), (5, .int v5_7)], [.int x9, .int v3_6], zh, M) _ _
        obtain ⟨g17, h⟩ := zq_some h
        refine zF_go (n := 11) (ps := [vp_in ((4 * p_sort) + v5_7) 20]) (s' := (84, [(0, .ref 86), (1, .int p_sort), (2, .int x1), (3, .int v3_6), (4, .int v4_3), (5, .int v5_7)], [.int v5_7, .int v4_3, .ref 86, .int (M 98 ((4 * p_sort) + v5_7).toNatClampNeg), .int x9, .int v3_6], zh, M)) rfl ⟨g17, trivial⟩ ?_
        obtain ⟨x10, e18, h⟩ := zb_some h
        refine zF_call (y' := 144) (as := [.ref 86, .int v4_3, .int v5_7]) (u := (87, [(0, .ref 86), (1, .int p_sort), (2, .int x1), (3, .int v3_6), (4, .int v4_3), (5, .int v5_7)], [.int (M 98 ((4 * p_sort) + v5_7).toNatClampNeg), .int x9, .int v3_6], zh, M)) rfl ⟨rfl, rfl⟩ rfl (qM_priceOf_ok (S := S) (M := M) e18) ?_
        show zF S 169 (87, [(0, .ref 86), (1, .int p_sort), (2, .int x1), (3, .int v3_6), (4, .int v4_3), (5, .int v5_7)], [.int x10, .int (M 98 ((4 * p_sort) + v5_7).toNatClampNeg), .int x9, .int v3_6], zh, M) _ _
        refine zF_go (n := 6) (ps := []) (s' := (48, [(5, .int (v5_7 + 1)), (3, .int (v3_6 + (x9 * ((M 98 ((4 * p_sort) + v5_7).toNatClampNeg) - x10)))), (0, .ref 86), (1, .int p_sort), (2, .int x1), (4, .int v4_3)], [], zh, M)) rfl trivial ?_
        exact zF_as (hrec8 _ _ h) rfl
    refine zF_ne (t := 42) (u := (28, [(0, .ref 86), (1, .int p_sort), (2, .int x1), (3, .int v3_2), (4, .int v4_3)], [.int v3_2], zh, M)) rfl (fun c19 => ?_) (fun c19 => ?_)
    · rw [if_neg c19] at g13
      refine zF_go (n := 1) (ps := []) (s' := (43, [(0, .ref 86), (1, .int p_sort), (2, .int x1), (3, .int v3_2), (4, .int v4_3)], [.int 0, .int v3_2], zh, M)) rfl trivial ?_
      cases g13
      exact zF_as hk14 rfl
    · rw [if_pos c19] at g13
      obtain ⟨g20, g13⟩ := zq_some g13
      refine zF_go (n := 9) (ps := [vp_in ((2 * p_sort) + v4_3) 10]) (s' := (43, [(0, .ref 86), (1, .int p_sort), (2, .int x1), (3, .int v3_2), (4, .int v4_3)], [.int (M 94 ((2 * p_sort) + v4_3).toNatClampNeg), .int v3_2], zh, M)) rfl ⟨g20, trivial⟩ ?_
      cases g13
      exact zF_as hk14 rfl
noncomputable def qM_saves (M : zM) (p_sort : Int32) : Option (Int64) :=
  zb (qM_isSort M p_sort) fun x1 =>
  if x1 = 0 then
    (some (-1000000000000000001))
  else
    (zb (qM_savesOf M p_sort) fun x2 =>
    some x2.toInt64)
set_option maxRecDepth 20000 in
set_option maxHeartbeats 4000000 in
theorem qM_saves_ok {S : zSc} {M : zM} {p_sort : Int32} {r : Int64} (h : qM_saves M p_sort = some r) : zF S 170 (0, [(0, .ref 86), (1, .int p_sort)], [], zh, M) (some (.long r)) (M) := by
  unfold qM_saves at h
  refine zF_go (n := 2) (ps := []) (s' := (2, [(0, .ref 86), (1, .int p_sort)], [.int p_sort, .ref 86], zh, M)) rfl trivial ?_
  obtain ⟨x1, e3, h⟩ := zb_some h
  refine zF_call (y' := 146) (as := [.ref 86, .int p_sort]) (u := (5, [(0, .ref 86), (1, .int p_sort)], [], zh, M)) rfl ⟨rfl, rfl⟩ rfl (qM_isSort_ok (S := S) (M := M) e3) ?_
  show zF S 170 (5, [(0, .ref 86), (1, .int p_sort)], [.int x1], zh, M) _ _
  refine zF_eq (t := 17) (u := (8, [(0, .ref 86), (1, .int p_sort)], [], zh, M)) rfl (fun c4 => ?_) (fun c4 => ?_)
  · rw [if_pos c4] at h
    refine zF_go (n := 1) (ps := []) (s' := (20, [(0, .ref 86), (1, .int p_sort)], [.long (-1000000000000000001)], zh, M)) rfl trivial ?_
    cases h
    exact zF_ret rfl trivial
  · rw [if_neg c4] at h
    refine zF_go (n := 2) (ps := []) (s' := (10, [(0, .ref 86), (1, .int p_sort)], [.int p_sort, .ref 86], zh, M)) rfl trivial ?_
    obtain ⟨x2, e5, h⟩ := zb_some h
    refine zF_call (y' := 169) (as := [.ref 86, .int p_sort]) (u := (13, [(0, .ref 86), (1, .int p_sort)], [], zh, M)) rfl ⟨rfl, rfl⟩ rfl (qM_savesOf_ok (S := S) (M := M) e5) ?_
    show zF S 170 (13, [(0, .ref 86), (1, .int p_sort)], [.int x2], zh, M) _ _
    refine zF_go (n := 2) (ps := []) (s' := (20, [(0, .ref 86), (1, .int p_sort)], [.long x2.toInt64], zh, M)) rfl trivial ?_
    cases h
    exact zF_ret rfl trivial
noncomputable def qW_brought_L5 (M : zM) (p_shop : Int32) (p_sort : Int32) (rec3 : (Int32 × Int32) → Option (Int32)) (v : Int32 × Int32) : Option (Int32) := match v with
  | (v3_1, v4_2) =>
    if v4_2 < (M 63 0) then
      (zq (vp_in ((p_shop * 4) + v4_2) 8) <| zq (vp_in ((p_shop * 4) + v4_2) 8) <| zq (vp_in ((v4_2 * 3) + (M 68 ((p_shop * 4) + v4_2).toNatClampNeg)) 12) <| zq (vp_in ((p_shop * 4) + v4_2) 8) <| rec3 ((v3_1 + ((M 74 ((p_shop * 4) + v4_2).toNatClampNeg) * ((M 65 ((v4_2 * 3) + (M 68 ((p_shop * 4) + v4_2).toNatClampNeg)).toNatClampNeg) - (M 66 ((p_shop * 4) + v4_2).toNatClampNeg)))), (v4_2 + 1)))
    else
      (zq (vp_in p_sort 5) <| some (v3_1 * (M 11 p_sort.toNatClampNeg)))
noncomputable def qW_brought (M : zM) (p_sort : Int32) (p_shop : Int32) : Option (Int32) :=
  zlp (qW_brought_L5 M p_shop p_sort) zfu (0, 0)
set_option maxRecDepth 20000 in
set_option maxHeartbeats 4000000 in
theorem qW_brought_ok {S : zSc} {M : zM} {p_sort : Int32} {p_shop : Int32} {r : Int32} (h : qW_brought M p_sort p_shop = some r) : zF S 76 (0, [(0, .ref 70), (1, .int p_sort), (2, .int p_shop)], [], zh, M) (some (.int r)) (M) := by
  unfold qW_brought at h
  refine zF_go (n := 4) (ps := []) (s' := (5, [(4, .int 0), (3, .int 0), (0, .ref 70), (1, .int p_sort), (2, .int p_shop)], [], zh, M)) rfl trivial ?_
  refine zF_same (s' := (5, [(0, .ref 70), (1, .int p_sort), (2, .int p_shop), (3, .int 0), (4, .int 0)], [], zh, M)) rfl ?_
  refine zlp_ind (P := fun (v : Int32 × Int32) r => zF S 76 (5, [(0, .ref 70), (1, .int p_sort), (2, .int p_shop), (3, .int v.1), (4, .int v.2)], [], zh, M) (some (.int r)) (M)) ?_ _ _ _ h
  intro rec3 hrec3 v r h
  obtain ⟨v3_1, v4_2⟩ := v
  unfold qW_brought_L5 at h
  dsimp only at h
  show zF S 76 (5, [(0, .ref 70), (1, .int p_sort), (2, .int p_shop), (3, .int v3_1), (4, .int v4_2)], [], zh, M) _ _
  refine zF_go (n := 4) (ps := []) (s' := (14, [(0, .ref 70), (1, .int p_sort), (2, .int p_shop), (3, .int v3_1), (4, .int v4_2)], [.int (M 63 0), .int v4_2], zh, M)) rfl trivial ?_
  refine zF_ge (t := 76) (u := (17, [(0, .ref 70), (1, .int p_sort), (2, .int p_shop), (3, .int v3_1), (4, .int v4_2)], [], zh, M)) rfl (fun c4 => ?_) (fun c4 => ?_)
  · rw [if_neg c4] at h
    obtain ⟨g5, h⟩ := zq_some h
    refine zF_go (n := 7) (ps := [vp_in p_sort 5]) (s' := (87, [(0, .ref 70), (1, .int p_sort), (2, .int p_shop), (3, .int v3_1), (4, .int v4_2)], [.int (v3_1 * (M 11 p_sort.toNatClampNeg))], zh, M)) rfl ⟨g5, trivial⟩ ?_
    cases h
    exact zF_ret rfl trivial
  · rw [if_pos c4] at h
    obtain ⟨g6, h⟩ := zq_some h
    obtain ⟨g7, h⟩ := zq_some h
    obtain ⟨g8, h⟩ := zq_some h
    obtain ⟨g9, h⟩ := zq_some h
    refine zF_go (n := 35) (ps := [vp_in ((p_shop * 4) + v4_2) 8, vp_in ((p_shop * 4) + v4_2) 8, vp_in ((v4_2 * 3) + (M 68 ((p_shop * 4) + v4_2).toNatClampNeg)) 12, vp_in ((p_shop * 4) + v4_2) 8]) (s' := (5, [(4, .int (v4_2 + 1)), (3, .int (v3_1 + ((M 74 ((p_shop * 4) + v4_2).toNatClampNeg) * ((M 65 ((v4_2 * 3) + (M 68 ((p_shop * 4) + v4_2).toNatClampNeg)).toNatClampNeg) - (M 66 ((p_shop * 4) + v4_2).toNatClampNeg))))), (5, .int ((p_shop * 4) + v4_2)), (0, .ref 70), (1, .int p_sort), (2, .int p_shop)], [], zh, M)) rfl ⟨g6, g7, g8, g9, trivial⟩ ?_
    exact zF_as (hrec3 _ _ h) rfl
noncomputable def qW_leftOf_L4 (p_shop : Int32) (rec4 : (Int32 × Int32 × zM) → Option (Int32 × zM)) (v : Int32 × Int32 × zM) : Option (Int32 × zM) := match v with
  | (v2_1, v3_2, M3) =>
    if v3_2 < (M3 10 0) then
      (zb2 (qW_send M3 v3_2) fun x5 M6 =>
      zb (qW_visits x5 p_shop) fun x7 =>
      if x7 = 0 then
        (rec4 (v2_1, (v3_2 + 1), M6))
      else
        (zb (qW_brought M6 v3_2 p_shop) fun x8 =>
        rec4 ((v2_1 + x8), (v3_2 + 1), M6)))
    else
      (some (v2_1, M3))
noncomputable def qW_leftOf (M : zM) (p_shop : Int32) : Option (Int32 × zM) :=
  zlp (qW_leftOf_L4 p_shop) zfu (0, 0, M)
set_option maxRecDepth 20000 in
set_option maxHeartbeats 4000000 in
theorem qW_leftOf_ok {S : zSc} {M : zM} {p_shop : Int32} {r : Int32 × zM} (h : qW_leftOf M p_shop = some r) : zF S 78 (0, [(0, .ref 70), (1, .int p_shop)], [], zh, M) (some (.int r.1)) (r.2) := by
  unfold qW_leftOf at h
  refine zF_go (n := 4) (ps := []) (s' := (4, [(3, .int 0), (2, .int 0), (0, .ref 70), (1, .int p_shop)], [], zh, M)) rfl trivial ?_
  refine zF_same (s' := (4, [(0, .ref 70), (1, .int p_shop), (2, .int 0), (3, .int 0)], [], zh, M)) rfl ?_
  refine zlp_ind (P := fun (v : Int32 × Int32 × zM) r => zF S 78 (4, [(0, .ref 70), (1, .int p_shop), (2, .int v.1), (3, .int v.2.1)], [], zh, v.2.2) (some (.int r.1)) (r.2)) ?_ _ _ _ h
  intro rec4 hrec4 v r h
  obtain ⟨v2_1, v3_2, M3⟩ := v
  unfold qW_leftOf_L4 at h
  dsimp only at h
  show zF S 78 (4, [(0, .ref 70), (1, .int p_shop), (2, .int v2_1), (3, .int v3_2)], [], zh, M3) _ _
  refine zF_go (n := 4) (ps := []) (s' := (12, [(0, .ref 70), (1, .int p_shop), (2, .int v2_1), (3, .int v3_2)], [.int (M3 10 0), .int v3_2], zh, M3)) rfl trivial ?_
  refine zF_ge (t := 42) (u := (15, [(0, .ref 70), (1, .int p_shop), (2, .int v2_1), (3, .int v3_2)], [], zh, M3)) rfl (fun c9 => ?_) (fun c9 => ?_)
  · rw [if_neg c9] at h
    refine zF_go (n := 1) (ps := []) (s' := (43, [(0, .ref 70), (1, .int p_shop), (2, .int v2_1), (3, .int v3_2)], [.int v2_1], zh, M3)) rfl trivial ?_
    cases h
    exact zF_ret rfl trivial
  · rw [if_pos c9] at h
    refine zF_go (n := 2) (ps := []) (s' := (17, [(0, .ref 70), (1, .int p_shop), (2, .int v2_1), (3, .int v3_2)], [.int v3_2, .ref 70], zh, M3)) rfl trivial ?_
    obtain ⟨x5, M6, e10, h⟩ := zb2_some h
    refine zF_call (y' := 75) (as := [.ref 70, .int v3_2]) (u := (20, [(0, .ref 70), (1, .int p_shop), (2, .int v2_1), (3, .int v3_2)], [], zh, M3)) rfl ⟨rfl, rfl⟩ rfl (qW_send_ok (S := S) (M := M3) e10) ?_
    show zF S 78 (20, [(0, .ref 70), (1, .int p_shop), (2, .int v2_1), (3, .int v3_2)], [.int x5], zh, M6) _ _
    refine zF_go (n := 1) (ps := []) (s' := (21, [(0, .ref 70), (1, .int p_shop), (2, .int v2_1), (3, .int v3_2)], [.int p_shop, .int x5], zh, M6)) rfl trivial ?_
    obtain ⟨x7, e11, h⟩ := zb_some h
    refine zF_call (y' := 74) (as := [.int x5, .int p_shop]) (u := (24, [(0, .ref 70), (1, .int p_shop), (2, .int v2_1), (3, .int v3_2)], [], zh, M6)) rfl ⟨rfl, rfl⟩ rfl (qW_visits_ok (S := S) (M := M6) e11) ?_
    show zF S 78 (24, [(0, .ref 70), (1, .int p_shop), (2, .int v2_1), (3, .int v3_2)], [.int x7], zh, M6) _ _
    refine zF_eq (t := 36) (u := (27, [(0, .ref 70), (1, .int p_shop), (2, .int v2_1), (3, .int v3_2)], [], zh, M6)) rfl (fun c12 => ?_) (fun c12 => ?_)
    · rw [if_pos c12] at h
      refine zF_go (n := 2) (ps := []) (s' := (4, [(3, .int (v3_2 + 1)), (0, .ref 70), (1, .int p_shop), (2, .int v2_1)], [], zh, M6)) rfl trivial ?_
      exact zF_as (hrec4 _ _ h) rfl
    · rw [if_neg c12] at h
      refine zF_go (n := 4) (ps := []) (s' := (31, [(0, .ref 70), (1, .int p_shop), (2, .int v2_1), (3, .int v3_2)], [.int p_shop, .int v3_2, .ref 70, .int v2_1], zh, M6)) rfl trivial ?_
      obtain ⟨x8, e13, h⟩ := zb_some h
      refine zF_call (y' := 76) (as := [.ref 70, .int v3_2, .int p_shop]) (u := (34, [(0, .ref 70), (1, .int p_shop), (2, .int v2_1), (3, .int v3_2)], [.int v2_1], zh, M6)) rfl ⟨rfl, rfl⟩ rfl (qW_brought_ok (S := S) (M := M6) e13) ?_
      show zF S 78 (34, [(0, .ref 70), (1, .int p_shop), (2, .int v2_1), (3, .int v3_2)], [.int x8, .int v2_1], zh, M6) _ _
      refine zF_go (n := 2) (ps := []) (s' := (36, [(2, .int (v2_1 + x8)), (0, .ref 70), (1, .int p_shop), (3, .int v3_2)], [], zh, M6)) rfl trivial ?_
      refine zF_go (n := 2) (ps := []) (s' := (4, [(3, .int (v3_2 + 1)), (0, .ref 70), (1, .int p_shop), (2, .int (v2_1 + x8))], [], zh, M6)) rfl trivial ?_
      exact zF_as (hrec4 _ _ h) rfl
noncomputable def qS_left (M : zM) (p_shop : Int32) : Option (Int64 × zM) :=
  zb (qS_noShop p_shop) fun x1 =>
  if x1 = 0 then
    (zb (qS_lookAsItIs M) fun M2 =>
    zb2 (qW_leftOf M2 p_shop) fun x3 M4 =>
    some (x3.toInt64, M4))
  else
    (some ((-1000000000000000001), M))
set_option maxRecDepth 20000 in
set_option maxHeartbeats 4000000 in
theorem qS_left_ok {S : zSc} {M : zM} {p_shop : Int32} {r : Int64 × zM} (h : qS_left M p_shop = some r) : zF S 103 (0, [(0, .ref 1), (1, .int p_shop)], [], zh, M) (some (.long r.1)) (r.2) := by
  unfold qS_left at h
  refine zF_go (n := 1) (ps := []) (s' := (1, [(0, .ref 1), (1, .int p_shop)], [.int p_shop], zh, M)) rfl trivial ?_
  obtain ⟨x1, e5, h⟩ := zb_some h
  refine zF_call (y' := 126) (as := [.int p_shop]) (u := (4, [(0, .ref 1), (1, .int p_shop)], [], zh, M)) rfl ⟨rfl, rfl⟩ rfl (qS_noShop_ok (S := S) (M := M) e5) ?_
  show zF S 103 (4, [(0, .ref 1), (1, .int p_shop)], [.int x1], zh, M) _ _
  refine zF_eq (t := 11) (u := (7, [(0, .ref 1), (1, .int p_shop)], [], zh, M)) rfl (fun c6 => ?_) (fun c6 => ?_)
  · rw [if_pos c6] at h
    refine zF_go (n := 1) (ps := []) (s' := (12, [(0, .ref 1), (1, .int p_shop)], [.ref 1], zh, M)) rfl trivial ?_
    obtain ⟨M2, e7, h⟩ := zb_some h
    refine zF_call (y' := 132) (as := [.ref 1]) (u := (15, [(0, .ref 1), (1, .int p_shop)], [], zh, M)) rfl ⟨rfl, rfl⟩ rfl (qS_lookAsItIs_ok (S := S) (M := M) e7) ?_
    show zF S 103 (15, [(0, .ref 1), (1, .int p_shop)], [], zh, M2) _ _
    refine zF_go (n := 3) (ps := []) (s' := (20, [(0, .ref 1), (1, .int p_shop)], [.int p_shop, .ref 70], zh, M2)) rfl trivial ?_
    obtain ⟨x3, M4, e8, h⟩ := zb2_some h
    refine zF_call (y' := 78) (as := [.ref 70, .int p_shop]) (u := (23, [(0, .ref 1), (1, .int p_shop)], [], zh, M2)) rfl ⟨rfl, rfl⟩ rfl (qW_leftOf_ok (S := S) (M := M2) e8) ?_
    show zF S 103 (23, [(0, .ref 1), (1, .int p_shop)], [.int x3], zh, M4) _ _
    refine zF_go (n := 1) (ps := []) (s' := (24, [(0, .ref 1), (1, .int p_shop)], [.long x3.toInt64], zh, M4)) rfl trivial ?_
    cases h
    exact zF_ret rfl trivial
  · rw [if_neg c6] at h
    refine zF_go (n := 1) (ps := []) (s' := (10, [(0, .ref 1), (1, .int p_shop)], [.long (-1000000000000000001)], zh, M)) rfl trivial ?_
    cases h
    exact zF_ret rfl trivial
noncomputable def qM_broughtBy_L12 (M : zM) (p_sort : Int32) (x1 : Int32) (p_shop : Int32) (rec4 : (Int32 × Int32) → Option (Int32)) (v : Int32 × Int32) : Option (Int32) := match v with
  | (v4_2, v5_3) =>
    if v5_3 < (M 86 6) then
      (zb (qM_bought M p_sort x1 p_shop v5_3) fun x5 =>
      zb (qM_priceOf M p_shop v5_3) fun x6 =>
      zq (vp_in ((4 * p_shop) + v5_3) 8) <| rec4 ((v4_2 + (x5 * (x6 - (M 87 ((4 * p_shop) + v5_3).toNatClampNeg)))), (v5_3 + 1)))
    else
      (zq (vp_in p_sort 5) <| some ((M 93 p_sort.toNatClampNeg) * v4_2))
noncomputable def qM_broughtBy (M : zM) (p_sort : Int32) (p_shop : Int32) : Option (Int32) :=
  zb (qM_goesTo M p_sort) fun x1 =>
  zlp (qM_broughtBy_L12 M p_sort x1 p_shop) zfu (0, 0)
set_option maxRecDepth 20000 in
set_option maxHeartbeats 4000000 in
theorem qM_broughtBy_ok {S : zSc} {M : zM} {p_sort : Int32} {p_shop : Int32} {r : Int32} (h : qM_broughtBy M p_sort p_shop = some r) : zF S 171 (0, [(0, .ref 86), (1, .int p_sort), (2, .int p_shop)], [], zh, M) (some (.int r)) (M) := by
  unfold qM_broughtBy at h
  refine zF_go (n := 2) (ps := []) (s' := (2, [(0, .ref 86), (1, .int p_sort), (2, .int p_shop)], [.int p_sort, .ref 86], zh, M)) rfl trivial ?_
  obtain ⟨x1, e7, h⟩ := zb_some h
  refine zF_call (y' := 165) (as := [.ref 86, .int p_sort]) (u := (5, [(0, .ref 86), (1, .int p_sort), (2, .int p_shop)], [], zh, M)) rfl ⟨rfl, rfl⟩ rfl (qM_goesTo_ok (S := S) (M := M) e7) ?_
  show zF S 171 (5, [(0, .ref 86), (1, .int p_sort), (2, .int p_shop)], [.int x1], zh, M) _ _
  refine zF_go (n := 5) (ps := []) (s' := (12, [(5, .int 0), (4, .int 0), (3, .int x1), (0, .ref 86), (1, .int p_sort), (2, .int p_shop)], [], zh, M)) rfl trivial ?_
  refine zF_same (s' := (12, [(0, .ref 86), (1, .int p_sort), (2, .int p_shop), (3, .int x1), (4, .int 0), (5, .int 0)], [], zh, M)) rfl ?_
  refine zlp_ind (P := fun (v : Int32 × Int32) r => zF S 171 (12, [(0, .ref 86), (1, .int p_sort), (2, .int p_shop), (3, .int x1), (4, .int v.1), (5, .int v.2)], [], zh, M) (some (.int r)) (M)) ?_ _ _ _ h
  intro rec4 hrec4 v r h
  obtain ⟨v4_2, v5_3⟩ := v
  unfold qM_broughtBy_L12 at h
  dsimp only at h
  show zF S 171 (12, [(0, .ref 86), (1, .int p_sort), (2, .int p_shop), (3, .int x1), (4, .int v4_2), (5, .int v5_3)], [], zh, M) _ _
  refine zF_go (n := 3) (ps := []) (s' := (18, [(0, .ref 86), (1, .int p_sort), (2, .int p_shop), (3, .int x1), (4, .int v4_2), (5, .int v5_3)], [.int (M 86 6), .int v5_3], zh, M)) rfl trivial ?_
  refine zF_ge (t := 61) (u := (21, [(0, .ref 86), (1, .int p_sort), (2, .int p_shop), (3, .int x1), (4, .int v4_2), (5, .int v5_3)], [], zh, M)) rfl (fun c8 => ?_) (fun c8 => ?_)
  · rw [if_neg c8] at h
    obtain ⟨g9, h⟩ := zq_some h
    refine zF_go (n := 6) (ps := [vp_in p_sort 5]) (s' := (70, [(0, .ref 86), (1, .int p_sort), (2, .int p_shop), (3, .int x1), (4, .int v4_2), (5, .int v5_3)], [.int ((M 93 p_sort.toNatClampNeg) * v4_2)], zh, M)) rfl ⟨g9, trivial⟩ ?_
    cases h
    exact zF_ret rfl trivial
  · rw [if_pos c8] at h
    refine zF_go (n := 6) (ps := []) (s' := (29, [(0, .ref 86), (1, .int p_sort), (2, .int p_shop), (3, .int x1), (4, .int v4_2), (5, .int v5_3)], [.int v5_3, .int p_shop, .int x1, .int p_sort, .ref 86, .int v4_2], zh, M)) rfl trivial ?_
    obtain ⟨x5, e10, h⟩ := zb_some h
    refine zF_call (y' := 167) (as := [.ref 86, .int p_sort, .int x1, .int p_shop, .int v5_3]) (u := (32, [(0, .ref 86), (1, .int p_sort), (2, .int p_shop), (3, .int x1), (4, .int v4_2), (5, .int v5_3)], [.int v4_2], zh, M)) rfl ⟨rfl, rfl⟩ rfl (qM_bought_ok (S := S) (M := M) e10) ?_
    show zF S 171 (32, [(0, .ref 86), (1, .int p_sort), (2, .int p_shop), (3, .int x1), (4, .int v4_2), (5, .int v5_3)], [.int x5, .int v4_2], zh, M) _ _
    refine zF_go (n := 3) (ps := []) (s' := (36, [(0, .ref 86), (1, .int p_sort), (2, .int p_shop), (3, .int x1), (4, .int v4_2), (5, .int v5_3)], [.int v5_3, .int p_shop, .ref 86, .int x5, .int v4_2], zh, M)) rfl trivial ?_
    obtain ⟨x6, e11, h⟩ := zb_some h
    refine zF_call (y' := 144) (as := [.ref 86, .int p_shop, .int v5_3]) (u := (39, [(0, .ref 86), (1, .int p_sort), (2, .int p_shop), (3, .int x1), (4, .int v4_2), (5, .int v5_3)], [.int x5, .int v4_2], zh, M)) rfl ⟨rfl, rfl⟩ rfl (qM_priceOf_ok (S := S) (M := M) e11) ?_
    show zF S 171 (39, [(0, .ref 86), (1, .int p_sort), (2, .int p_shop), (3, .int x1), (4, .int v4_2), (5, .int v5_3)], [.int x6, .int x5, .int v4_2], zh, M) _ _
    obtain ⟨g12, h⟩ := zq_some h
    refine zF_go (n := 14) (ps := [vp_in ((4 * p_shop) + v5_3) 8]) (s' := (12, [(5, .int (v5_3 + 1)), (4, .int (v4_2 + (x5 * (x6 - (M 87 ((4 * p_shop) + v5_3).toNatClampNeg))))), (0, .ref 86), (1, .int p_sort), (2, .int p_shop), (3, .int x1)], [], zh, M)) rfl ⟨g12, trivial⟩ ?_
    exact zF_as (hrec4 _ _ h) rfl
noncomputable def qM_leftOf_L4 (M : zM) (p_shop : Int32) (rec3 : (Int32 × Int32) → Option (Int32)) (v : Int32 × Int32) : Option (Int32) := match v with
  | (v2_1, v3_2) =>
    if v3_2 < (M 86 14) then
      (zb (qM_broughtBy M v3_2 p_shop) fun x4 =>
      rec3 ((v2_1 + x4), (v3_2 + 1)))
    else
      (some v2_1)
noncomputable def qM_leftOf (M : zM) (p_shop : Int32) : Option (Int32) :=
  zlp (qM_leftOf_L4 M p_shop) zfu (0, 0)
set_option maxRecDepth 20000 in
set_option maxHeartbeats 4000000 in
theorem qM_leftOf_ok {S : zSc} {M : zM} {p_shop : Int32} {r : Int32} (h : qM_leftOf M p_shop = some r) : zF S 172 (0, [(0, .ref 86), (1, .int p_shop)], [], zh, M) (some (.int r)) (M) := by
  unfold qM_leftOf at h
  refine zF_go (n := 4) (ps := []) (s' := (4, [(3, .int 0), (2, .int 0), (0, .ref 86), (1, .int p_shop)], [], zh, M)) rfl trivial ?_
  refine zF_same (s' := (4, [(0, .ref 86), (1, .int p_shop), (2, .int 0), (3, .int 0)], [], zh, M)) rfl ?_
  refine zlp_ind (P := fun (v : Int32 × Int32) r => zF S 172 (4, [(0, .ref 86), (1, .int p_shop), (2, .int v.1), (3, .int v.2)], [], zh, M) (some (.int r)) (M)) ?_ _ _ _ h
  intro rec3 hrec3 v r h
  obtain ⟨v2_1, v3_2⟩ := v
  unfold qM_leftOf_L4 at h
  dsimp only at h
  show zF S 172 (4, [(0, .ref 86), (1, .int p_shop), (2, .int v2_1), (3, .int v3_2)], [], zh, M) _ _
  refine zF_go (n := 3) (ps := []) (s' := (9, [(0, .ref 86), (1, .int p_shop), (2, .int v2_1), (3, .int v3_2)], [.int (M 86 14), .int v3_2], zh, M)) rfl trivial ?_
  refine zF_ge (t := 27) (u := (12, [(0, .ref 86), (1, .int p_shop), (2, .int v2_1), (3, .int v3_2)], [], zh, M)) rfl (fun c5 => ?_) (fun c5 => ?_)
  · rw [if_neg c5] at h
    refine zF_go (n := 1) (ps := []) (s' := (28, [(0, .ref 86), (1, .int p_shop), (2, .int v2_1), (3, .int v3_2)], [.int v2_1], zh, M)) rfl trivial ?_
    cases h
    exact zF_ret rfl trivial
  · rw [if_pos c5] at h
    refine zF_go (n := 4) (ps := []) (s' := (16, [(0, .ref 86), (1, .int p_shop), (2, .int v2_1), (3, .int v3_2)], [.int p_shop, .int v3_2, .ref 86, .int v2_1], zh, M)) rfl trivial ?_
    obtain ⟨x4, e6, h⟩ := zb_some h
    refine zF_call (y' := 171) (as := [.ref 86, .int v3_2, .int p_shop]) (u := (19, [(0, .ref 86), (1, .int p_shop), (2, .int v2_1), (3, .int v3_2)], [.int v2_1], zh, M)) rfl ⟨rfl, rfl⟩ rfl (qM_broughtBy_ok (S := S) (M := M) e6) ?_
    show zF S 172 (19, [(0, .ref 86), (1, .int p_shop), (2, .int v2_1), (3, .int v3_2)], [.int x4, .int v2_1], zh, M) _ _
    refine zF_go (n := 4) (ps := []) (s' := (4, [(3, .int (v3_2 + 1)), (2, .int (v2_1 + x4)), (0, .ref 86), (1, .int p_shop)], [], zh, M)) rfl trivial ?_
    exact zF_as (hrec3 _ _ h) rfl
noncomputable def qM_left (M : zM) (p_shop : Int32) : Option (Int64) :=
  zb (qM_isShop p_shop) fun x1 =>
  if x1 = 0 then
    (some (-1000000000000000001))
  else
    (zb (qM_leftOf M p_shop) fun x2 =>
    some x2.toInt64)
set_option maxRecDepth 20000 in
set_option maxHeartbeats 4000000 in
theorem qM_left_ok {S : zSc} {M : zM} {p_shop : Int32} {r : Int64} (h : qM_left M p_shop = some r) : zF S 173 (0, [(0, .ref 86), (1, .int p_shop)], [], zh, M) (some (.long r)) (M) := by
  unfold qM_left at h
  refine zF_go (n := 1) (ps := []) (s' := (1, [(0, .ref 86), (1, .int p_shop)], [.int p_shop], zh, M)) rfl trivial ?_
  obtain ⟨x1, e3, h⟩ := zb_some h
  refine zF_call (y' := 136) (as := [.int p_shop]) (u := (4, [(0, .ref 86), (1, .int p_shop)], [], zh, M)) rfl ⟨rfl, rfl⟩ rfl (qM_isShop_ok (S := S) (M := M) e3) ?_
  show zF S 173 (4, [(0, .ref 86), (1, .int p_shop)], [.int x1], zh, M) _ _
  refine zF_eq (t := 16) (u := (7, [(0, .ref 86), (1, .int p_shop)], [], zh, M)) rfl (fun c4 => ?_) (fun c4 => ?_)
  · rw [if_pos c4] at h
    refine zF_go (n := 1) (ps := []) (s' := (19, [(0, .ref 86), (1, .int p_shop)], [.long (-1000000000000000001)], zh, M)) rfl trivial ?_
    cases h
    exact zF_ret rfl trivial
  · rw [if_neg c4] at h
    refine zF_go (n := 2) (ps := []) (s' := (9, [(0, .ref 86), (1, .int p_shop)], [.int p_shop, .ref 86], zh, M)) rfl trivial ?_
    obtain ⟨x2, e5, h⟩ := zb_some h
    refine zF_call (y' := 172) (as := [.ref 86, .int p_shop]) (u := (12, [(0, .ref 86), (1, .int p_shop)], [], zh, M)) rfl ⟨rfl, rfl⟩ rfl (qM_leftOf_ok (S := S) (M := M) e5) ?_
    show zF S 173 (12, [(0, .ref 86), (1, .int p_shop)], [.int x2], zh, M) _ _
    refine zF_go (n := 2) (ps := []) (s' := (19, [(0, .ref 86), (1, .int p_shop)], [.long x2.toInt64], zh, M)) rfl trivial ?_
    cases h
    exact zF_ret rfl trivial
noncomputable def qG_rowOf_3_L4 (M : zM) (p_shop : Int32) (rec3 : (Int32 × Int32) → Option (Int32)) (v : Int32 × Int32) : Option (Int32) := match v with
  | (v2_1, v3_2) =>
    if v3_2 < (M 3 0) then
      (zq (vp_in v3_2 4) <| zq (vp_in ((p_shop * 4) + v3_2) 8) <| rec3 (((v2_1 * (M 4 v3_2.toNatClampNeg)) + (M 8 ((p_shop * 4) + v3_2).toNatClampNeg)), (v3_2 + 1)))
    else
      (some v2_1)
noncomputable def qG_rowOf_3 (M : zM) (p_shop : Int32) : Option (Int32) :=
  zlp (qG_rowOf_3_L4 M p_shop) zfu (0, 0)
set_option maxRecDepth 20000 in
set_option maxHeartbeats 4000000 in
theorem qG_rowOf_3_ok {S : zSc} {M : zM} {p_shop : Int32} {r : Int32} (h : qG_rowOf_3 M p_shop = some r) : zF S 20 (0, [(0, .ref 3), (1, .int p_shop)], [], zh, M) (some (.int r)) (M) := by
  unfold qG_rowOf_3 at h
  refine zF_go (n := 4) (ps := []) (s' := (4, [(3, .int 0), (2, .int 0), (0, .ref 3), (1, .int p_shop)], [], zh, M)) rfl trivial ?_
  refine zF_same (s' := (4, [(0, .ref 3), (1, .int p_shop), (2, .int 0), (3, .int 0)], [], zh, M)) rfl ?_
  refine zlp_ind (P := fun (v : Int32 × Int32) r => zF S 20 (4, [(0, .ref 3), (1, .int p_shop), (2, .int v.1), (3, .int v.2)], [], zh, M) (some (.int r)) (M)) ?_ _ _ _ h
  intro rec3 hrec3 v r h
  obtain ⟨v2_1, v3_2⟩ := v
  unfold qG_rowOf_3_L4 at h
  dsimp only at h
  show zF S 20 (4, [(0, .ref 3), (1, .int p_shop), (2, .int v2_1), (3, .int v3_2)], [], zh, M) _ _
  refine zF_go (n := 3) (ps := []) (s' := (9, [(0, .ref 3), (1, .int p_shop), (2, .int v2_1), (3, .int v3_2)], [.int (M 3 0), .int v3_2], zh, M)) rfl trivial ?_
  refine zF_ge (t := 38) (u := (12, [(0, .ref 3), (1, .int p_shop), (2, .int v2_1), (3, .int v3_2)], [], zh, M)) rfl (fun c4 => ?_) (fun c4 => ?_)
  · rw [if_neg c4] at h
    refine zF_go (n := 1) (ps := []) (s' := (39, [(0, .ref 3), (1, .int p_shop), (2, .int v2_1), (3, .int v3_2)], [.int v2_1], zh, M)) rfl trivial ?_
    cases h
    exact zF_ret rfl trivial
  · rw [if_pos c4] at h
    obtain ⟨g5, h⟩ := zq_some h
    obtain ⟨g6, h⟩ := zq_some h
    refine zF_go (n := 18) (ps := [vp_in v3_2 4, vp_in ((p_shop * 4) + v3_2) 8]) (s' := (4, [(3, .int (v3_2 + 1)), (2, .int ((v2_1 * (M 4 v3_2.toNatClampNeg)) + (M 8 ((p_shop * 4) + v3_2).toNatClampNeg))), (0, .ref 3), (1, .int p_shop)], [], zh, M)) rfl ⟨g5, g6, trivial⟩ ?_
    exact zF_as (hrec3 _ _ h) rfl
noncomputable def qS_row (M : zM) (p_shop : Int32) : Option (Int32) :=
  zb (qS_noShop p_shop) fun x1 =>
  if x1 = 0 then
    (zb (qG_rowOf_3 M p_shop) fun x2 =>
    some x2)
  else
    (some (-1))
set_option maxRecDepth 20000 in
set_option maxHeartbeats 4000000 in
theorem qS_row_ok {S : zSc} {M : zM} {p_shop : Int32} {r : Int32} (h : qS_row M p_shop = some r) : zF S 104 (0, [(0, .ref 1), (1, .int p_shop)], [], zh, M) (some (.int r)) (M) := by
  unfold qS_row at h
  refine zF_go (n := 1) (ps := []) (s' := (1, [(0, .ref 1), (1, .int p_shop)], [.int p_shop], zh, M)) rfl trivial ?_
  obtain ⟨x1, e3, h⟩ := zb_some h
  refine zF_call (y' := 126) (as := [.int p_shop]) (u := (4, [(0, .ref 1), (1, .int p_shop)], [], zh, M)) rfl ⟨rfl, rfl⟩ rfl (qS_noShop_ok (S := S) (M := M) e3) ?_
  show zF S 104 (4, [(0, .ref 1), (1, .int p_shop)], [.int x1], zh, M) _ _
  refine zF_eq (t := 11) (u := (7, [(0, .ref 1), (1, .int p_shop)], [], zh, M)) rfl (fun c4 => ?_) (fun c4 => ?_)
  · rw [if_pos c4] at h
    refine zF_go (n := 4) (ps := []) (s' := (19, [(0, .ref 1), (1, .int p_shop)], [.int p_shop, .ref 3], zh, M)) rfl trivial ?_
    obtain ⟨x2, e5, h⟩ := zb_some h
    refine zF_call (y' := 20) (as := [.ref 3, .int p_shop]) (u := (22, [(0, .ref 1), (1, .int p_shop)], [], zh, M)) rfl ⟨rfl, rfl⟩ rfl (qG_rowOf_3_ok (S := S) (M := M) e5) ?_
    show zF S 104 (22, [(0, .ref 1), (1, .int p_shop)], [.int x2], zh, M) _ _
    cases h
    exact zF_ret rfl trivial
  · rw [if_neg c4] at h
    refine zF_go (n := 2) (ps := []) (s' := (22, [(0, .ref 1), (1, .int p_shop)], [.int (-1)], zh, M)) rfl trivial ?_
    cases h
    exact zF_ret rfl trivial
noncomputable def qM_rowOf_L4 (M : zM) (p_shop : Int32) (rec3 : (Int32 × Int32) → Option (Int32)) (v : Int32 × Int32) : Option (Int32) := match v with
  | (v2_1, v3_2) =>
    if v3_2 < (M 86 6) then
      (zq (vp_in v3_2 4) <| zq (vp_in ((4 * p_shop) + v3_2) 8) <| rec3 (((v2_1 * (M 92 v3_2.toNatClampNeg)) + (M 89 ((4 * p_shop) + v3_2).toNatClampNeg)), (v3_2 + 1)))
    else
      (some v2_1)
noncomputable def qM_rowOf (M : zM) (p_shop : Int32) : Option (Int32) :=
  zlp (qM_rowOf_L4 M p_shop) zfu (0, 0)
set_option maxRecDepth 20000 in
set_option maxHeartbeats 4000000 in
theorem qM_rowOf_ok {S : zSc} {M : zM} {p_shop : Int32} {r : Int32} (h : qM_rowOf M p_shop = some r) : zF S 174 (0, [(0, .ref 86), (1, .int p_shop)], [], zh, M) (some (.int r)) (M) := by
  unfold qM_rowOf at h
  refine zF_go (n := 4) (ps := []) (s' := (4, [(3, .int 0), (2, .int 0), (0, .ref 86), (1, .int p_shop)], [], zh, M)) rfl trivial ?_
  refine zF_same (s' := (4, [(0, .ref 86), (1, .int p_shop), (2, .int 0), (3, .int 0)], [], zh, M)) rfl ?_
  refine zlp_ind (P := fun (v : Int32 × Int32) r => zF S 174 (4, [(0, .ref 86), (1, .int p_shop), (2, .int v.1), (3, .int v.2)], [], zh, M) (some (.int r)) (M)) ?_ _ _ _ h
  intro rec3 hrec3 v r h
  obtain ⟨v2_1, v3_2⟩ := v
  unfold qM_rowOf_L4 at h
  dsimp only at h
  show zF S 174 (4, [(0, .ref 86), (1, .int p_shop), (2, .int v2_1), (3, .int v3_2)], [], zh, M) _ _
  refine zF_go (n := 3) (ps := []) (s' := (9, [(0, .ref 86), (1, .int p_shop), (2, .int v2_1), (3, .int v3_2)], [.int (M 86 6), .int v3_2], zh, M)) rfl trivial ?_
  refine zF_ge (t := 38) (u := (12, [(0, .ref 86), (1, .int p_shop), (2, .int v2_1), (3, .int v3_2)], [], zh, M)) rfl (fun c4 => ?_) (fun c4 => ?_)
  · rw [if_neg c4] at h
    refine zF_go (n := 1) (ps := []) (s' := (39, [(0, .ref 86), (1, .int p_shop), (2, .int v2_1), (3, .int v3_2)], [.int v2_1], zh, M)) rfl trivial ?_
    cases h
    exact zF_ret rfl trivial
  · rw [if_pos c4] at h
    obtain ⟨g5, h⟩ := zq_some h
    obtain ⟨g6, h⟩ := zq_some h
    refine zF_go (n := 18) (ps := [vp_in v3_2 4, vp_in ((4 * p_shop) + v3_2) 8]) (s' := (4, [(3, .int (v3_2 + 1)), (2, .int ((v2_1 * (M 92 v3_2.toNatClampNeg)) + (M 89 ((4 * p_shop) + v3_2).toNatClampNeg))), (0, .ref 86), (1, .int p_shop)], [], zh, M)) rfl ⟨g5, g6, trivial⟩ ?_
    exact zF_as (hrec3 _ _ h) rfl
noncomputable def qM_row (M : zM) (p_shop : Int32) : Option (Int32) :=
  zb (qM_isShop p_shop) fun x1 =>
  if x1 = 0 then
    (some (-1))
  else
    (zb (qM_rowOf M p_shop) fun x2 =>
    some x2)
set_option maxRecDepth 20000 in
set_option maxHeartbeats 4000000 in
theorem qM_row_ok {S : zSc} {M : zM} {p_shop : Int32} {r : Int32} (h : qM_row M p_shop = some r) : zF S 177 (0, [(0, .ref 86), (1, .int p_shop)], [], zh, M) (some (.int r)) (M) := by
  unfold qM_row at h
  refine zF_go (n := 1) (ps := []) (s' := (1, [(0, .ref 86), (1, .int p_shop)], [.int p_shop], zh, M)) rfl trivial ?_
  obtain ⟨x1, e3, h⟩ := zb_some h
  refine zF_call (y' := 136) (as := [.int p_shop]) (u := (4, [(0, .ref 86), (1, .int p_shop)], [], zh, M)) rfl ⟨rfl, rfl⟩ rfl (qM_isShop_ok (S := S) (M := M) e3) ?_
  show zF S 177 (4, [(0, .ref 86), (1, .int p_shop)], [.int x1], zh, M) _ _
  refine zF_eq (t := 15) (u := (7, [(0, .ref 86), (1, .int p_shop)], [], zh, M)) rfl (fun c4 => ?_) (fun c4 => ?_)
  · rw [if_pos c4] at h
    refine zF_go (n := 1) (ps := []) (s' := (16, [(0, .ref 86), (1, .int p_shop)], [.int (-1)], zh, M)) rfl trivial ?_
    cases h
    exact zF_ret rfl trivial
  · rw [if_neg c4] at h
    refine zF_go (n := 2) (ps := []) (s' := (9, [(0, .ref 86), (1, .int p_shop)], [.int p_shop, .ref 86], zh, M)) rfl trivial ?_
    obtain ⟨x2, e5, h⟩ := zb_some h
    refine zF_call (y' := 174) (as := [.ref 86, .int p_shop]) (u := (12, [(0, .ref 86), (1, .int p_shop)], [], zh, M)) rfl ⟨rfl, rfl⟩ rfl (qM_rowOf_ok (S := S) (M := M) e5) ?_
    show zF S 177 (12, [(0, .ref 86), (1, .int p_shop)], [.int x2], zh, M) _ _
    refine zF_go (n := 1) (ps := []) (s' := (16, [(0, .ref 86), (1, .int p_shop)], [.int x2], zh, M)) rfl trivial ?_
    cases h
    exact zF_ret rfl trivial
noncomputable def qG_hasLawfulRow_L2 (M : zM) (p_shop : Int32) (rec2 : (Int32) → Option (Int32)) (v2_1 : Int32) : Option (Int32) :=
  if v2_1 < (M 3 0) then
    (zb (qG_lastPrice M v2_1) fun x3 =>
    zq (vp_in ((p_shop * 4) + v2_1) 8) <| if x3 < (M 6 ((p_shop * 4) + v2_1).toNatClampNeg) then
      (some 0)
    else
      (rec2 (v2_1 + 1)))
  else
    (some 1)
noncomputable def qG_hasLawfulRow (M : zM) (p_shop : Int32) : Option (Int32) :=
  zlp (qG_hasLawfulRow_L2 M p_shop) zfu 0
set_option maxRecDepth 20000 in
set_option maxHeartbeats 4000000 in
theorem qG_hasLawfulRow_ok {S : zSc} {M : zM} {p_shop : Int32} {r : Int32} (h : qG_hasLawfulRow M p_shop = some r) : zF S 25 (0, [(0, .ref 3), (1, .int p_shop)], [], zh, M) (some (.int r)) (M) := by
  unfold qG_hasLawfulRow at h
  refine zF_go (n := 2) (ps := []) (s' := (2, [(2, .int 0), (0, .ref 3), (1, .int p_shop)], [], zh, M)) rfl trivial ?_
  refine zF_same (s' := (2, [(0, .ref 3), (1, .int p_shop), (2, .int 0)], [], zh, M)) rfl ?_
  refine zlp_ind (P := fun (v : Int32) r => zF S 25 (2, [(0, .ref 3), (1, .int p_shop), (2, .int v)], [], zh, M) (some (.int r)) (M)) ?_ _ _ _ h
  intro rec2 hrec2 v2_1 r h
  unfold qG_hasLawfulRow_L2 at h
  show zF S 25 (2, [(0, .ref 3), (1, .int p_shop), (2, .int v2_1)], [], zh, M) _ _
  refine zF_go (n := 3) (ps := []) (s' := (7, [(0, .ref 3), (1, .int p_shop), (2, .int v2_1)], [.int (M 3 0), .int v2_1], zh, M)) rfl trivial ?_
  refine zF_ge (t := 36) (u := (10, [(0, .ref 3), (1, .int p_shop), (2, .int v2_1)], [], zh, M)) rfl (fun c4 => ?_) (fun c4 => ?_)
  · rw [if_neg c4] at h
    refine zF_go (n := 1) (ps := []) (s' := (37, [(0, .ref 3), (1, .int p_shop), (2, .int v2_1)], [.int 1], zh, M)) rfl trivial ?_
    cases h
    exact zF_ret rfl ⟨(Or.inr rfl), trivial⟩
  · rw [if_pos c4] at h
    refine zF_go (n := 2) (ps := []) (s' := (12, [(0, .ref 3), (1, .int p_shop), (2, .int v2_1)], [.int v2_1, .ref 3], zh, M)) rfl trivial ?_
    obtain ⟨x3, e5, h⟩ := zb_some h
    refine zF_call (y' := 16) (as := [.ref 3, .int v2_1]) (u := (15, [(0, .ref 3), (1, .int p_shop), (2, .int v2_1)], [], zh, M)) rfl ⟨rfl, rfl⟩ rfl (qG_lastPrice_ok (S := S) (M := M) e5) ?_
    show zF S 25 (15, [(0, .ref 3), (1, .int p_shop), (2, .int v2_1)], [.int x3], zh, M) _ _
    obtain ⟨g6, h⟩ := zq_some h
    refine zF_go (n := 8) (ps := [vp_in ((p_shop * 4) + v2_1) 8]) (s' := (25, [(0, .ref 3), (1, .int p_shop), (2, .int v2_1)], [.int (M 6 ((p_shop * 4) + v2_1).toNatClampNeg), .int x3], zh, M)) rfl ⟨g6, trivial⟩ ?_
    refine zF_ge (t := 30) (u := (28, [(0, .ref 3), (1, .int p_shop), (2, .int v2_1)], [], zh, M)) rfl (fun c7 => ?_) (fun c7 => ?_)
    · rw [if_neg c7] at h
      refine zF_go (n := 2) (ps := []) (s' := (2, [(2, .int (v2_1 + 1)), (0, .ref 3), (1, .int p_shop)], [], zh, M)) rfl trivial ?_
      exact zF_as (hrec2 _ _ h) rfl
    · rw [if_pos c7] at h
      refine zF_go (n := 1) (ps := []) (s' := (29, [(0, .ref 3), (1, .int p_shop), (2, .int v2_1)], [.int 0], zh, M)) rfl trivial ?_
      cases h
      exact zF_ret rfl ⟨(Or.inl rfl), trivial⟩
noncomputable def qS_forbidsAll (M : zM) (p_shop : Int32) (p_law : Int32) : Option (Int32) :=
  if p_law = 1 then
    (zb (qG_hasLawfulRow M p_shop) fun x1 =>
    if x1 = 0 then
      (some 1)
    else
      (some 0))
  else
    (some 0)
set_option maxRecDepth 20000 in
set_option maxHeartbeats 4000000 in
theorem qS_forbidsAll_ok {S : zSc} {M : zM} {p_shop : Int32} {p_law : Int32} {r : Int32} (h : qS_forbidsAll M p_shop p_law = some r) : zF S 130 (0, [(0, .ref 1), (1, .int p_shop), (2, .int p_law)], [], zh, M) (some (.int r)) (M) := by
  unfold qS_forbidsAll at h
  refine zF_go (n := 2) (ps := []) (s' := (2, [(0, .ref 1), (1, .int p_shop), (2, .int p_law)], [.int 1, .int p_law], zh, M)) rfl trivial ?_
  refine zF_ne (t := 23) (u := (5, [(0, .ref 1), (1, .int p_shop), (2, .int p_law)], [], zh, M)) rfl (fun c2 => ?_) (fun c2 => ?_)
  · rw [if_neg c2] at h
    refine zF_go (n := 1) (ps := []) (s' := (24, [], [.int 0], zh, M)) rfl trivial ?_
    cases h
    exact zF_ret rfl ⟨(Or.inl rfl), trivial⟩
  · rw [if_pos c2] at h
    refine zF_go (n := 4) (ps := []) (s' := (13, [(0, .ref 1), (1, .int p_shop), (2, .int p_law)], [.int p_shop, .ref 3], zh, M)) rfl trivial ?_
    obtain ⟨x1, e3, h⟩ := zb_some h
    refine zF_call (y' := 25) (as := [.ref 3, .int p_shop]) (u := (16, [(0, .ref 1), (1, .int p_shop), (2, .int p_law)], [], zh, M)) rfl ⟨rfl, rfl⟩ rfl (qG_hasLawfulRow_ok (S := S) (M := M) e3) ?_
    show zF S 130 (16, [(0, .ref 1), (1, .int p_shop), (2, .int p_law)], [.int x1], zh, M) _ _
    refine zF_ne (t := 23) (u := (19, [(0, .ref 1), (1, .int p_shop), (2, .int p_law)], [], zh, M)) rfl (fun c4 => ?_) (fun c4 => ?_)
    · rw [if_neg c4] at h
      refine zF_go (n := 1) (ps := []) (s' := (24, [], [.int 0], zh, M)) rfl trivial ?_
      cases h
      exact zF_ret rfl ⟨(Or.inl rfl), trivial⟩
    · rw [if_pos c4] at h
      refine zF_go (n := 2) (ps := []) (s' := (24, [(0, .ref 1), (1, .int p_shop), (2, .int p_law)], [.int 1], zh, M)) rfl trivial ?_
      cases h
      exact zF_ret rfl ⟨(Or.inr rfl), trivial⟩
noncomputable def qG_rowOf_63_L4 (M : zM) (p_shop : Int32) (rec3 : (Int32 × Int32) → Option (Int32)) (v : Int32 × Int32) : Option (Int32) := match v with
  | (v2_1, v3_2) =>
    if v3_2 < (M 63 0) then
      (zq (vp_in v3_2 4) <| zq (vp_in ((p_shop * 4) + v3_2) 8) <| rec3 (((v2_1 * (M 64 v3_2.toNatClampNeg)) + (M 68 ((p_shop * 4) + v3_2).toNatClampNeg)), (v3_2 + 1)))
    else
      (some v2_1)
noncomputable def qG_rowOf_63 (M : zM) (p_shop : Int32) : Option (Int32) :=
  zlp (qG_rowOf_63_L4 M p_shop) zfu (0, 0)
set_option maxRecDepth 20000 in
set_option maxHeartbeats 4000000 in
theorem qG_rowOf_63_ok {S : zSc} {M : zM} {p_shop : Int32} {r : Int32} (h : qG_rowOf_63 M p_shop = some r) : zF S 20 (0, [(0, .ref 63), (1, .int p_shop)], [], zh, M) (some (.int r)) (M) := by
  unfold qG_rowOf_63 at h
  refine zF_go (n := 4) (ps := []) (s' := (4, [(3, .int 0), (2, .int 0), (0, .ref 63), (1, .int p_shop)], [], zh, M)) rfl trivial ?_
  refine zF_same (s' := (4, [(0, .ref 63), (1, .int p_shop), (2, .int 0), (3, .int 0)], [], zh, M)) rfl ?_
  refine zlp_ind (P := fun (v : Int32 × Int32) r => zF S 20 (4, [(0, .ref 63), (1, .int p_shop), (2, .int v.1), (3, .int v.2)], [], zh, M) (some (.int r)) (M)) ?_ _ _ _ h
  intro rec3 hrec3 v r h
  obtain ⟨v2_1, v3_2⟩ := v
  unfold qG_rowOf_63_L4 at h
  dsimp only at h
  show zF S 20 (4, [(0, .ref 63), (1, .int p_shop), (2, .int v2_1), (3, .int v3_2)], [], zh, M) _ _
  refine zF_go (n := 3) (ps := []) (s' := (9, [(0, .ref 63), (1, .int p_shop), (2, .int v2_1), (3, .int v3_2)], [.int (M 63 0), .int v3_2], zh, M)) rfl trivial ?_
  refine zF_ge (t := 38) (u := (12, [(0, .ref 63), (1, .int p_shop), (2, .int v2_1), (3, .int v3_2)], [], zh, M)) rfl (fun c4 => ?_) (fun c4 => ?_)
  · rw [if_neg c4] at h
    refine zF_go (n := 1) (ps := []) (s' := (39, [(0, .ref 63), (1, .int p_shop), (2, .int v2_1), (3, .int v3_2)], [.int v2_1], zh, M)) rfl trivial ?_
    cases h
    exact zF_ret rfl trivial
  · rw [if_pos c4] at h
    obtain ⟨g5, h⟩ := zq_some h
    obtain ⟨g6, h⟩ := zq_some h
    refine zF_go (n := 18) (ps := [vp_in v3_2 4, vp_in ((p_shop * 4) + v3_2) 8]) (s' := (4, [(3, .int (v3_2 + 1)), (2, .int ((v2_1 * (M 64 v3_2.toNatClampNeg)) + (M 68 ((p_shop * 4) + v3_2).toNatClampNeg))), (0, .ref 63), (1, .int p_shop)], [], zh, M)) rfl ⟨g5, g6, trivial⟩ ?_
    exact zF_as (hrec3 _ _ h) rfl
noncomputable def qG_rowCount_63_L4 (M : zM) (rec3 : (Int32 × Int32) → Option (Int32)) (v : Int32 × Int32) : Option (Int32) := match v with
  | (v1_1, v2_2) =>
    if v2_2 < (M 63 0) then
      (zq (vp_in v2_2 4) <| rec3 ((v1_1 * (M 64 v2_2.toNatClampNeg)), (v2_2 + 1)))
    else
      (some v1_1)
noncomputable def qG_rowCount_63 (M : zM) : Option (Int32) :=
  zlp (qG_rowCount_63_L4 M) zfu (1, 0)
set_option maxRecDepth 20000 in
set_option maxHeartbeats 4000000 in
theorem qG_rowCount_63_ok {S : zSc} {M : zM} {r : Int32} (h : qG_rowCount_63 M = some r) : zF S 19 (0, [(0, .ref 63)], [], zh, M) (some (.int r)) (M) := by
  unfold qG_rowCount_63 at h
  refine zF_go (n := 4) (ps := []) (s' := (4, [(2, .int 0), (1, .int 1), (0, .ref 63)], [], zh, M)) rfl trivial ?_
  refine zF_same (s' := (4, [(0, .ref 63), (1, .int 1), (2, .int 0)], [], zh, M)) rfl ?_
  refine zlp_ind (P := fun (v : Int32 × Int32) r => zF S 19 (4, [(0, .ref 63), (1, .int v.1), (2, .int v.2)], [], zh, M) (some (.int r)) (M)) ?_ _ _ _ h
  intro rec3 hrec3 v r h
  obtain ⟨v1_1, v2_2⟩ := v
  unfold qG_rowCount_63_L4 at h
  dsimp only at h
  show zF S 19 (4, [(0, .ref 63), (1, .int v1_1), (2, .int v2_2)], [], zh, M) _ _
  refine zF_go (n := 3) (ps := []) (s' := (9, [(0, .ref 63), (1, .int v1_1), (2, .int v2_2)], [.int (M 63 0), .int v2_2], zh, M)) rfl trivial ?_
  refine zF_ge (t := 27) (u := (12, [(0, .ref 63), (1, .int v1_1), (2, .int v2_2)], [], zh, M)) rfl (fun c4 => ?_) (fun c4 => ?_)
  · rw [if_neg c4] at h
    refine zF_go (n := 1) (ps := []) (s' := (28, [(0, .ref 63), (1, .int v1_1), (2, .int v2_2)], [.int v1_1], zh, M)) rfl trivial ?_
    cases h
    exact zF_ret rfl trivial
  · rw [if_pos c4] at h
    obtain ⟨g5, h⟩ := zq_some h
    refine zF_go (n := 9) (ps := [vp_in v2_2 4]) (s' := (4, [(2, .int (v2_2 + 1)), (1, .int (v1_1 * (M 64 v2_2.toNatClampNeg))), (0, .ref 63)], [], zh, M)) rfl ⟨g5, trivial⟩ ?_
    exact zF_as (hrec3 _ _ h) rfl
noncomputable def qG_putRow_L14 (p_shop : Int32) (rec4 : (Int32 × Int32 × zM) → Option (zM)) (v : Int32 × Int32 × zM) : Option (zM) := match v with
  | (v3_1, v4_2, M3) =>
    if v4_2 < 0 then
      (some M3)
    else
      (zq (vp_in v4_2 4) <| zq (¬ (if (1 : Int32) < (M3 64 v4_2.toNatClampNeg) then (M3 64 v4_2.toNatClampNeg) else 1) = 0) <| zq (vp_in ((p_shop * 4) + v4_2) 8) <| zq (¬ (if (1 : Int32) < (M3 64 v4_2.toNatClampNeg) then (M3 64 v4_2.toNatClampNeg) else 1) = 0) <| rec4 ((v3_1 / (if (1 : Int32) < (M3 64 v4_2.toNatClampNeg) then (M3 64 v4_2.toNatClampNeg) else 1)), (v4_2 + (-1)), (zw M3 68 ((p_shop * 4) + v4_2).toNatClampNeg (v3_1 - v3_1 / (if (1 : Int32) < (M3 64 v4_2.toNatClampNeg) then (M3 64 v4_2.toNatClampNeg) else 1) * (if (1 : Int32) < (M3 64 v4_2.toNatClampNeg) then (M3 64 v4_2.toNatClampNeg) else 1)))))
noncomputable def qG_putRow (M : zM) (p_shop : Int32) (p_number : Int32) : Option (zM) :=
  zlp (qG_putRow_L14 p_shop) zfu ((if (0 : Int32) < p_number then p_number else 0), ((M 63 0) - 1), M)
set_option maxRecDepth 20000 in
set_option maxHeartbeats 4000000 in
theorem qG_putRow_ok {S : zSc} {M : zM} {p_shop : Int32} {p_number : Int32} {r : zM} (h : qG_putRow M p_shop p_number = some r) : zF S 21 (0, [(0, .ref 63), (1, .int p_shop), (2, .int p_number)], [], zh, M) (none) (r) := by
  unfold qG_putRow at h
  refine zF_go (n := 9) (ps := []) (s' := (14, [(4, .int ((M 63 0) - 1)), (3, .int (if (0 : Int32) < p_number then p_number else 0)), (0, .ref 63), (1, .int p_shop), (2, .int p_number)], [], zh, M)) rfl trivial ?_
  refine zF_same (s' := (14, [(0, .ref 63), (1, .int p_shop), (3, .int (if (0 : Int32) < p_number then p_number else 0)), (4, .int ((M 63 0) - 1))], [], zh, M)) rfl ?_
  refine zlp_ind (P := fun (v : Int32 × Int32 × zM) r => zF S 21 (14, [(0, .ref 63), (1, .int p_shop), (3, .int v.1), (4, .int v.2.1)], [], zh, v.2.2) (none) (r)) ?_ _ _ _ h
  intro rec4 hrec4 v r h
  obtain ⟨v3_1, v4_2, M3⟩ := v
  unfold qG_putRow_L14 at h
  dsimp only at h
  show zF S 21 (14, [(0, .ref 63), (1, .int p_shop), (3, .int v3_1), (4, .int v4_2)], [], zh, M3) _ _
  refine zF_go (n := 1) (ps := []) (s' := (16, [(0, .ref 63), (1, .int p_shop), (3, .int v3_1), (4, .int v4_2)], [.int v4_2], zh, M3)) rfl trivial ?_
  refine zF_lt (t := 58) (u := (19, [(0, .ref 63), (1, .int p_shop), (3, .int v3_1), (4, .int v4_2)], [], zh, M3)) rfl (fun c5 => ?_) (fun c5 => ?_)
  · rw [if_pos c5] at h
    cases h
    exact zF_ret rfl trivial
  · rw [if_neg c5] at h
    obtain ⟨g6, h⟩ := zq_some h
    obtain ⟨g7, h⟩ := zq_some h
    obtain ⟨g8, h⟩ := zq_some h
    obtain ⟨g9, h⟩ := zq_some h
    refine zF_go (n := 24) (ps := [vp_in v4_2 4, ¬ (if (1 : Int32) < (M3 64 v4_2.toNatClampNeg) then (M3 64 v4_2.toNatClampNeg) else 1) = 0, vp_in ((p_shop * 4) + v4_2) 8, ¬ (if (1 : Int32) < (M3 64 v4_2.toNatClampNeg) then (M3 64 v4_2.toNatClampNeg) else 1) = 0]) (s' := (14, [(4, .int (v4_2 + (-1))), (3, .int (v3_1 / (if (1 : Int32) < (M3 64 v4_2.toNatClampNeg) then (M3 64 v4_2.toNatClampNeg) else 1))), (5, .int (if (1 : Int32) < (M3 64 v4_2.toNatClampNeg) then (M3 64 v4_2.toNatClampNeg) else 1)), (0, .ref 63), (1, .int p_shop)], [], zh, (zw M3 68 ((p_shop * 4) + v4_2).toNatClampNeg (v3_1 - v3_1 / (if (1 : Int32) < (M3 64 v4_2.toNatClampNeg) then (M3 64 v4_2.toNatClampNeg) else 1) * (if (1 : Int32) < (M3 64 v4_2.toNatClampNeg) then (M3 64 v4_2.toNatClampNeg) else 1))))) rfl ⟨g6, g7, g8, g9, trivial⟩ ?_
    exact zF_as (hrec4 _ _ h) rfl
noncomputable def qG_isBelow (M : zM) (p_shop : Int32) (p_thing : Int32) : Option (Int32) :=
  zq (vp_in ((p_shop * 4) + p_thing) 8) <| zq (vp_in ((p_thing * 3) + (M 68 ((p_shop * 4) + p_thing).toNatClampNeg)) 12) <| zq (vp_in ((p_shop * 4) + p_thing) 8) <| if (M 65 ((p_thing * 3) + (M 68 ((p_shop * 4) + p_thing).toNatClampNeg)).toNatClampNeg) < (M 66 ((p_shop * 4) + p_thing).toNatClampNeg) then
    (some 1)
  else
    (some 0)
set_option maxRecDepth 20000 in
set_option maxHeartbeats 4000000 in
theorem qG_isBelow_ok {S : zSc} {M : zM} {p_shop : Int32} {p_thing : Int32} {r : Int32} (h : qG_isBelow M p_shop p_thing = some r) : zF S 22 (0, [(0, .ref 63), (1, .int p_shop), (2, .int p_thing)], [], zh, M) (some (.int r)) (M) := by
  unfold qG_isBelow at h
  obtain ⟨g1, h⟩ := zq_some h
  obtain ⟨g2, h⟩ := zq_some h
  obtain ⟨g3, h⟩ := zq_some h
  refine zF_go (n := 21) (ps := [vp_in ((p_shop * 4) + p_thing) 8, vp_in ((p_thing * 3) + (M 68 ((p_shop * 4) + p_thing).toNatClampNeg)) 12, vp_in ((p_shop * 4) + p_thing) 8]) (s' := (27, [(3, .int ((p_shop * 4) + p_thing)), (0, .ref 63), (1, .int p_shop), (2, .int p_thing)], [.int (M 66 ((p_shop * 4) + p_thing).toNatClampNeg), .int (M 65 ((p_thing * 3) + (M 68 ((p_shop * 4) + p_thing).toNatClampNeg)).toNatClampNeg)], zh, M)) rfl ⟨g1, g2, g3, trivial⟩ ?_
  refine zF_ge (t := 34) (u := (30, [(3, .int ((p_shop * 4) + p_thing)), (0, .ref 63), (1, .int p_shop), (2, .int p_thing)], [], zh, M)) rfl (fun c4 => ?_) (fun c4 => ?_)
  · rw [if_neg c4] at h
    refine zF_go (n := 1) (ps := []) (s' := (35, [(3, .int ((p_shop * 4) + p_thing)), (0, .ref 63), (1, .int p_shop), (2, .int p_thing)], [.int 0], zh, M)) rfl trivial ?_
    cases h
    exact zF_ret rfl ⟨(Or.inl rfl), trivial⟩
  · rw [if_pos c4] at h
    refine zF_go (n := 2) (ps := []) (s' := (35, [(3, .int ((p_shop * 4) + p_thing)), (0, .ref 63), (1, .int p_shop), (2, .int p_thing)], [.int 1], zh, M)) rfl trivial ?_
    cases h
    exact zF_ret rfl ⟨(Or.inr rfl), trivial⟩
noncomputable def qG_belowCost_L4 (M : zM) (p_shop : Int32) (rec3 : (Int32 × Int32) → Option (Int32)) (v : Int32 × Int32) : Option (Int32) := match v with
  | (v2_1, v3_2) =>
    if v3_2 < (M 63 0) then
      (zb (qG_isBelow M p_shop v3_2) fun x4 =>
      if x4 = 0 then
        (rec3 (v2_1, (v3_2 + 1)))
      else
        (rec3 ((v2_1 ||| (1 <<< (v3_2 &&& 31))), (v3_2 + 1))))
    else
      (some v2_1)
noncomputable def qG_belowCost (M : zM) (p_shop : Int32) : Option (Int32) :=
  zlp (qG_belowCost_L4 M p_shop) zfu (0, 0)
set_option maxRecDepth 20000 in
set_option maxHeartbeats 4000000 in
theorem qG_belowCost_ok {S : zSc} {M : zM} {p_shop : Int32} {r : Int32} (h : qG_belowCost M p_shop = some r) : zF S 23 (0, [(0, .ref 63), (1, .int p_shop)], [], zh, M) (some (.int r)) (M) := by
  unfold qG_belowCost at h
  refine zF_go (n := 4) (ps := []) (s' := (4, [(3, .int 0), (2, .int 0), (0, .ref 63), (1, .int p_shop)], [], zh, M)) rfl trivial ?_
  refine zF_same (s' := (4, [(0, .ref 63), (1, .int p_shop), (2, .int 0), (3, .int 0)], [], zh, M)) rfl ?_
  refine zlp_ind (P := fun (v : Int32 × Int32) r => zF S 23 (4, [(0, .ref 63), (1, .int p_shop), (2, .int v.1), (3, .int v.2)], [], zh, M) (some (.int r)) (M)) ?_ _ _ _ h
  intro rec3 hrec3 v r h
  obtain ⟨v2_1, v3_2⟩ := v
  unfold qG_belowCost_L4 at h
  dsimp only at h
  show zF S 23 (4, [(0, .ref 63), (1, .int p_shop), (2, .int v2_1), (3, .int v3_2)], [], zh, M) _ _
  refine zF_go (n := 3) (ps := []) (s' := (9, [(0, .ref 63), (1, .int p_shop), (2, .int v2_1), (3, .int v3_2)], [.int (M 63 0), .int v3_2], zh, M)) rfl trivial ?_
  refine zF_ge (t := 33) (u := (12, [(0, .ref 63), (1, .int p_shop), (2, .int v2_1), (3, .int v3_2)], [], zh, M)) rfl (fun c5 => ?_) (fun c5 => ?_)
  · rw [if_neg c5] at h
    refine zF_go (n := 1) (ps := []) (s' := (34, [(0, .ref 63), (1, .int p_shop), (2, .int v2_1), (3, .int v3_2)], [.int v2_1], zh, M)) rfl trivial ?_
    cases h
    exact zF_ret rfl trivial
  · rw [if_pos c5] at h
    refine zF_go (n := 3) (ps := []) (s' := (15, [(0, .ref 63), (1, .int p_shop), (2, .int v2_1), (3, .int v3_2)], [.int v3_2, .int p_shop, .ref 63], zh, M)) rfl trivial ?_
    obtain ⟨x4, e6, h⟩ := zb_some h
    refine zF_call (y' := 22) (as := [.ref 63, .int p_shop, .int v3_2]) (u := (18, [(0, .ref 63), (1, .int p_shop), (2, .int v2_1), (3, .int v3_2)], [], zh, M)) rfl ⟨rfl, rfl⟩ rfl (qG_isBelow_ok (S := S) (M := M) e6) ?_
    show zF S 23 (18, [(0, .ref 63), (1, .int p_shop), (2, .int v2_1), (3, .int v3_2)], [.int x4], zh, M) _ _
    refine zF_eq (t := 27) (u := (21, [(0, .ref 63), (1, .int p_shop), (2, .int v2_1), (3, .int v3_2)], [], zh, M)) rfl (fun c7 => ?_) (fun c7 => ?_)
    · rw [if_pos c7] at h
      refine zF_go (n := 2) (ps := []) (s' := (4, [(3, .int (v3_2 + 1)), (0, .ref 63), (1, .int p_shop), (2, .int v2_1)], [], zh, M)) rfl trivial ?_
      exact zF_as (hrec3 _ _ h) rfl
    · rw [if_neg c7] at h
      refine zF_go (n := 6) (ps := []) (s' := (27, [(2, .int (v2_1 ||| (1 <<< (v3_2 &&& 31)))), (0, .ref 63), (1, .int p_shop), (3, .int v3_2)], [], zh, M)) rfl trivial ?_
      refine zF_go (n := 2) (ps := []) (s' := (4, [(3, .int (v3_2 + 1)), (0, .ref 63), (1, .int p_shop), (2, .int (v2_1 ||| (1 <<< (v3_2 &&& 31))))], [], zh, M)) rfl trivial ?_
      exact zF_as (hrec3 _ _ h) rfl
noncomputable def qG_isLawful (M : zM) (p_shop : Int32) (p_law : Int32) : Option (Int32) :=
  if p_law = 0 then
    (some 1)
  else
    (zb (qG_belowCost M p_shop) fun x1 =>
    if x1 = 0 then
      (some 1)
    else
      (some 0))
set_option maxRecDepth 20000 in
set_option maxHeartbeats 4000000 in
theorem qG_isLawful_ok {S : zSc} {M : zM} {p_shop : Int32} {p_law : Int32} {r : Int32} (h : qG_isLawful M p_shop p_law = some r) : zF S 24 (0, [(0, .ref 63), (1, .int p_shop), (2, .int p_law)], [], zh, M) (some (.int r)) (M) := by
  unfold qG_isLawful at h
  refine zF_go (n := 1) (ps := []) (s' := (1, [(0, .ref 63), (1, .int p_shop), (2, .int p_law)], [.int p_law], zh, M)) rfl trivial ?_
  refine zF_eq (t := 12) (u := (4, [(0, .ref 63), (1, .int p_shop), (2, .int p_law)], [], zh, M)) rfl (fun c2 => ?_) (fun c2 => ?_)
  · rw [if_pos c2] at h
    refine zF_go (n := 2) (ps := []) (s' := (17, [], [.int 1], zh, M)) rfl trivial ?_
    cases h
    exact zF_ret rfl ⟨(Or.inr rfl), trivial⟩
  · rw [if_neg c2] at h
    refine zF_go (n := 2) (ps := []) (s' := (6, [(0, .ref 63), (1, .int p_shop), (2, .int p_law)], [.int p_shop, .ref 63], zh, M)) rfl trivial ?_
    obtain ⟨x1, e3, h⟩ := zb_some h
    refine zF_call (y' := 23) (as := [.ref 63, .int p_shop]) (u := (9, [(0, .ref 63), (1, .int p_shop), (2, .int p_law)], [], zh, M)) rfl ⟨rfl, rfl⟩ rfl (qG_belowCost_ok (S := S) (M := M) e3) ?_
    show zF S 24 (9, [(0, .ref 63), (1, .int p_shop), (2, .int p_law)], [.int x1], zh, M) _ _
    refine zF_ne (t := 16) (u := (12, [(0, .ref 63), (1, .int p_shop), (2, .int p_law)], [], zh, M)) rfl (fun c4 => ?_) (fun c4 => ?_)
    · rw [if_neg c4] at h
      refine zF_go (n := 1) (ps := []) (s' := (17, [(0, .ref 63), (1, .int p_shop), (2, .int p_law)], [.int 0], zh, M)) rfl trivial ?_
      cases h
      exact zF_ret rfl ⟨(Or.inl rfl), trivial⟩
    · rw [if_pos c4] at h
      refine zF_go (n := 2) (ps := []) (s' := (17, [], [.int 1], zh, M)) rfl trivial ?_
      cases h
      exact zF_ret rfl ⟨(Or.inr rfl), trivial⟩
noncomputable def qP_bestRow_L28 (x2 : Int32) (p_shop : Int32) (p_law : Int32) (x1 : Int32) (rec7 : (Int32 × Int32 × Int32 × zM) → Option (Int32 × zM)) (v : Int32 × Int32 × Int32 × zM) : Option (Int32 × zM) := match v with
  | (v5_3, v6_4, v7_5, M6) =>
    if v7_5 < x2 then
      (zb (qG_putRow M6 p_shop v7_5) fun M9 =>
      zb (qG_isLawful M9 p_shop p_law) fun x10 =>
      if x10 = 0 then
        (rec7 (v5_3, v6_4, (v7_5 + 1), M9))
      else
        (zb2 (qW_leftOf M9 p_shop) fun x11 M12 =>
        if v5_3 = (-6) then
          (rec7 (v7_5, x11, (v7_5 + 1), M12))
        else
          (if v6_4 < x11 then
            (rec7 (v7_5, x11, (v7_5 + 1), M12))
          else
            (rec7 (v5_3, v6_4, (v7_5 + 1), M12)))))
    else
      (zb (qG_putRow M6 p_shop x1) fun M8 =>
      some (v5_3, M8))
noncomputable def qP_bestRow (M : zM) (p_shop : Int32) (p_law : Int32) : Option (Int32 × zM) :=
  zb (qG_rowOf_63 M p_shop) fun x1 =>
  zb (qG_rowCount_63 M) fun x2 =>
  zlp (qP_bestRow_L28 x2 p_shop p_law x1) zfu ((-6), 0, 0, M)
set_option maxRecDepth 20000 in
set_option maxHeartbeats 4000000 in
theorem qP_bestRow_ok {S : zSc} {M : zM} {p_shop : Int32} {p_law : Int32} {r : Int32 × zM} (h : qP_bestRow M p_shop p_law = some r) : zF S 42 (0, [(0, .ref 76), (1, .int p_shop), (2, .int p_law)], [], zh, M) (some (.int r.1)) (r.2) := by
  unfold qP_bestRow at h
  refine zF_go (n := 3) (ps := []) (s' := (5, [(0, .ref 76), (1, .int p_shop), (2, .int p_law)], [.int p_shop, .ref 63], zh, M)) rfl trivial ?_
  obtain ⟨x1, e13, h⟩ := zb_some h
  refine zF_call (y' := 20) (as := [.ref 63, .int p_shop]) (u := (8, [(0, .ref 76), (1, .int p_shop), (2, .int p_law)], [], zh, M)) rfl ⟨rfl, rfl⟩ rfl (qG_rowOf_63_ok (S := S) (M := M) e13) ?_
  show zF S 42 (8, [(0, .ref 76), (1, .int p_shop), (2, .int p_law)], [.int x1], zh, M) _ _
  refine zF_go (n := 3) (ps := []) (s' := (13, [(3, .int x1), (0, .ref 76), (1, .int p_shop), (2, .int p_law)], [.ref 63], zh, M)) rfl trivial ?_
  obtain ⟨x2, e14, h⟩ := zb_some h
  refine zF_call (y' := 19) (as := [.ref 63]) (u := (16, [(3, .int x1), (0, .ref 76), (1, .int p_shop), (2, .int p_law)], [], zh, M)) rfl ⟨rfl, rfl⟩ rfl (qG_rowCount_63_ok (S := S) (M := M) e14) ?_
  show zF S 42 (16, [(3, .int x1), (0, .ref 76), (1, .int p_shop), (2, .int p_law)], [.int x2], zh, M) _ _
  refine zF_go (n := 7) (ps := []) (s' := (28, [(7, .int 0), (6, .int 0), (5, .int (-6)), (4, .int x2), (3, .int x1), (0, .ref 76), (1, .int p_shop), (2, .int p_law)], [], zh, M)) rfl trivial ?_
  refine zF_same (s' := (28, [(0, .ref 76), (1, .int p_shop), (2, .int p_law), (3, .int x1), (4, .int x2), (5, .int (-6)), (6, .int 0), (7, .int 0)], [], zh, M)) rfl ?_
  refine zlp_ind (P := fun (v : Int32 × Int32 × Int32 × zM) r => zF S 42 (28, [(0, .ref 76), (1, .int p_shop), (2, .int p_law), (3, .int x1), (4, .int x2), (5, .int v.1), (6, .int v.2.1), (7, .int v.2.2.1)], [], zh, v.2.2.2) (some (.int r.1)) (r.2)) ?_ _ _ _ h
  intro rec7 hrec7 v r h
  obtain ⟨v5_3, v6_4, v7_5, M6⟩ := v
  unfold qP_bestRow_L28 at h
  dsimp only at h
  show zF S 42 (28, [(0, .ref 76), (1, .int p_shop), (2, .int p_law), (3, .int x1), (4, .int x2), (5, .int v5_3), (6, .int v6_4), (7, .int v7_5)], [], zh, M6) _ _
  refine zF_go (n := 2) (ps := []) (s' := (32, [(0, .ref 76), (1, .int p_shop), (2, .int p_law), (3, .int x1), (4, .int x2), (5, .int v5_3), (6, .int v6_4), (7, .int v7_5)], [.int x2, .int v7_5], zh, M6)) rfl trivial ?_
  refine zF_ge (t := 95) (u := (35, [(0, .ref 76), (1, .int p_shop), (2, .int p_law), (3, .int x1), (4, .int x2), (5, .int v5_3), (6, .int v6_4), (7, .int v7_5)], [], zh, M6)) rfl (fun c15 => ?_) (fun c15 => ?_)
  · rw [if_neg c15] at h
    refine zF_go (n := 4) (ps := []) (s' := (101, [(0, .ref 76), (1, .int p_shop), (2, .int p_law), (3, .int x1), (4, .int x2), (5, .int v5_3), (6, .int v6_4), (7, .int v7_5)], [.int x1, .int p_shop, .ref 63], zh, M6)) rfl trivial ?_
    obtain ⟨M8, e16, h⟩ := zb_some h
    refine zF_call (y' := 21) (as := [.ref 63, .int p_shop, .int x1]) (u := (104, [(0, .ref 76), (1, .int p_shop), (2, .int p_law), (3, .int x1), (4, .int x2), (5, .int v5_3), (6, .int v6_4), (7, .int v7_5)], [], zh, M6)) rfl ⟨rfl, rfl⟩ rfl (qG_putRow_ok (S := S) (M := M6) e16) ?_
    show zF S 42 (104, [(0, .ref 76), (1, .int p_shop), (2, .int p_law), (3, .int x1), (4, .int x2), (5, .int v5_3), (6, .int v6_4), (7, .int v7_5)], [], zh, M8) _ _
    refine zF_go (n := 1) (ps := []) (s' := (106, [(0, .ref 76), (1, .int p_shop), (2, .int p_law), (3, .int x1), (4, .int x2), (5, .int v5_3), (6, .int v6_4), (7, .int v7_5)], [.int v5_3], zh, M8)) rfl trivial ?_
    cases h
    exact zF_ret rfl trivial
  · rw [if_pos c15] at h
    refine zF_go (n := 4) (ps := []) (s' := (42, [(0, .ref 76), (1, .int p_shop), (2, .int p_law), (3, .int x1), (4, .int x2), (5, .int v5_3), (6, .int v6_4), (7, .int v7_5)], [.int v7_5, .int p_shop, .ref 63], zh, M6)) rfl trivial ?_
    obtain ⟨M9, e17, h⟩ := zb_some h
    refine zF_call (y' := 21) (as := [.ref 63, .int p_shop, .int v7_5]) (u := (45, [(0, .ref 76), (1, .int p_shop), (2, .int p_law), (3, .int x1), (4, .int x2), (5, .int v5_3), (6, .int v6_4), (7, .int v7_5)], [], zh, M6)) rfl ⟨rfl, rfl⟩ rfl (qG_putRow_ok (S := S) (M := M6) e17) ?_
    show zF S 42 (45, [(0, .ref 76), (1, .int p_shop), (2, .int p_law), (3, .int x1), (4, .int x2), (5, .int v5_3), (6, .int v6_4), (7, .int v7_5)], [], zh, M9) _ _
    refine zF_go (n := 4) (ps := []) (s' := (51, [(0, .ref 76), (1, .int p_shop), (2, .int p_law), (3, .int x1), (4, .int x2), (5, .int v5_3), (6, .int v6_4), (7, .int v7_5)], [.int p_law, .int p_shop, .ref 63], zh, M9)) rfl trivial ?_
    obtain ⟨x10, e18, h⟩ := zb_some h
    refine zF_call (y' := 24) (as := [.ref 63, .int p_shop, .int p_law]) (u := (54, [(0, .ref 76), (1, .int p_shop), (2, .int p_law), (3, .int x1), (4, .int x2), (5, .int v5_3), (6, .int v6_4), (7, .int v7_5)], [], zh, M9)) rfl ⟨rfl, rfl⟩ rfl (qG_isLawful_ok (S := S) (M := M9) e18) ?_
    show zF S 42 (54, [(0, .ref 76), (1, .int p_shop), (2, .int p_law), (3, .int x1), (4, .int x2), (5, .int v5_3), (6, .int v6_4), (7, .int v7_5)], [.int x10], zh, M9) _ _
    refine zF_eq (t := 89) (u := (57, [(0, .ref 76), (1, .int p_shop), (2, .int p_law), (3, .int x1), (4, .int x2), (5, .int v5_3), (6, .int v6_4), (7, .int v7_5)], [], zh, M9)) rfl (fun c19 => ?_) (fun c19 => ?_)
    · rw [if_pos c19] at h
      refine zF_go (n := 2) (ps := []) (s' := (28, [(7, .int (v7_5 + 1)), (0, .ref 76), (1, .int p_shop), (2, .int p_law), (3, .int x1), (4, .int x2), (5, .int v5_3), (6, .int v6_4)], [], zh, M9)) rfl trivial ?_
      exact zF_as (hrec7 _ _ h) rfl
    · rw [if_neg c19] at h
      refine zF_go (n := 3) (ps := []) (s' := (62, [(0, .ref 76), (1, .int p_shop), (2, .int p_law), (3, .int x1), (4, .int x2), (5, .int v5_3), (6, .int v6_4), (7, .int v7_5)], [.int p_shop, .ref 70], zh, M9)) rfl trivial ?_
      obtain ⟨x11, M12, e20, h⟩ := zb2_some h
      refine zF_call (y' := 78) (as := [.ref 70, .int p_shop]) (u := (65, [(0, .ref 76), (1, .int p_shop), (2, .int p_law), (3, .int x1), (4, .int x2), (5, .int v5_3), (6, .int v6_4), (7, .int v7_5)], [], zh, M9)) rfl ⟨rfl, rfl⟩ rfl (qW_leftOf_ok (S := S) (M := M9) e20) ?_
      show zF S 42 (65, [(0, .ref 76), (1, .int p_shop), (2, .int p_law), (3, .int x1), (4, .int x2), (5, .int v5_3), (6, .int v6_4), (7, .int v7_5)], [.int x11], zh, M12) _ _
      refine zF_go (n := 3) (ps := []) (s' := (71, [(8, .int x11), (0, .ref 76), (1, .int p_shop), (2, .int p_law), (3, .int x1), (4, .int x2), (5, .int v5_3), (6, .int v6_4), (7, .int v7_5)], [.int (-6), .int v5_3], zh, M12)) rfl trivial ?_
      refine zF_eq (t := 81) (u := (74, [(8, .int x11), (0, .ref 76), (1, .int p_shop), (2, .int p_law), (3, .int x1), (4, .int x2), (5, .int v5_3), (6, .int v6_4), (7, .int v7_5)], [], zh, M12)) rfl (fun c21 => ?_) (fun c21 => ?_)
      · rw [if_pos c21] at h
        refine zF_go (n := 4) (ps := []) (s' := (89, [(6, .int x11), (5, .int v7_5), (0, .ref 76), (1, .int p_shop), (2, .int p_law), (3, .int x1), (4, .int x2), (7, .int v7_5), (8, .int x11)], [], zh, M12)) rfl trivial ?_
        refine zF_go (n := 2) (ps := []) (s' := (28, [(7, .int (v7_5 + 1)), (0, .ref 76), (1, .int p_shop), (2, .int p_law), (3, .int x1), (4, .int x2), (5, .int v7_5), (6, .int x11)], [], zh, M12)) rfl trivial ?_
        exact zF_as (hrec7 _ _ h) rfl
      · rw [if_neg c21] at h
        refine zF_go (n := 2) (ps := []) (s' := (78, [(8, .int x11), (0, .ref 76), (1, .int p_shop), (2, .int p_law), (3, .int x1), (4, .int x2), (5, .int v5_3), (6, .int v6_4), (7, .int v7_5)], [.int v6_4, .int x11], zh, M12)) rfl trivial ?_
        refine zF_le (t := 89) (u := (81, [(8, .int x11), (0, .ref 76), (1, .int p_shop), (2, .int p_law), (3, .int x1), (4, .int x2), (5, .int v5_3), (6, .int v6_4), (7, .int v7_5)], [], zh, M12)) rfl (fun c22 => ?_) (fun c22 => ?_)
        · rw [if_neg c22] at h
          refine zF_go (n := 2) (ps := []) (s' := (28, [(7, .int (v7_5 + 1)), (0, .ref 76), (1, .int p_shop), (2, .int p_law), (3, .int x1), (4, .int x2), (5, .int v5_3), (6, .int v6_4)], [], zh, M12)) rfl trivial ?_
          exact zF_as (hrec7 _ _ h) rfl
        · rw [if_pos c22] at h
          refine zF_go (n := 4) (ps := []) (s' := (89, [(6, .int x11), (5, .int v7_5), (0, .ref 76), (1, .int p_shop), (2, .int p_law), (3, .int x1), (4, .int x2), (7, .int v7_5), (8, .int x11)], [], zh, M12)) rfl trivial ?_
          refine zF_go (n := 2) (ps := []) (s' := (28, [(7, .int (v7_5 + 1)), (0, .ref 76), (1, .int p_shop), (2, .int p_law), (3, .int x1), (4, .int x2), (5, .int v7_5), (6, .int x11)], [], zh, M12)) rfl trivial ?_
          exact zF_as (hrec7 _ _ h) rfl
noncomputable def qS_best (M : zM) (p_shop : Int32) : Option (Int32 × zM) :=
  zb (qS_noShop p_shop) fun x1 =>
  if x1 = 0 then
    (zb (qS_forbidsAll M p_shop (M 2 3)) fun x2 =>
    if x2 = 0 then
      (zb (qS_lookAsItIs M) fun M3 =>
      zb2 (qP_bestRow M3 p_shop (M3 2 3)) fun x4 M5 =>
      some (x4, M5))
    else
      (some ((-5), M)))
  else
    (some ((-1), M))
set_option maxRecDepth 20000 in
set_option maxHeartbeats 4000000 in
theorem qS_best_ok {S : zSc} {M : zM} {p_shop : Int32} {r : Int32 × zM} (h : qS_best M p_shop = some r) : zF S 105 (0, [(0, .ref 1), (1, .int p_shop)], [], zh, M) (some (.int r.1)) (r.2) := by
  unfold qS_best at h
  refine zF_go (n := 1) (ps := []) (s' := (1, [(0, .ref 1), (1, .int p_shop)], [.int p_shop], zh, M)) rfl trivial ?_
  obtain ⟨x1, e6, h⟩ := zb_some h
  refine zF_call (y' := 126) (as := [.int p_shop]) (u := (4, [(0, .ref 1), (1, .int p_shop)], [], zh, M)) rfl ⟨rfl, rfl⟩ rfl (qS_noShop_ok (S := S) (M := M) e6) ?_
  show zF S 105 (4, [(0, .ref 1), (1, .int p_shop)], [.int x1], zh, M) _ _
  refine zF_eq (t := 9) (u := (7, [(0, .ref 1), (1, .int p_shop)], [], zh, M)) rfl (fun c7 => ?_) (fun c7 => ?_)
  · rw [if_pos c7] at h
    refine zF_go (n := 5) (ps := []) (s' := (18, [(0, .ref 1), (1, .int p_shop)], [.int (M 2 3), .int p_shop, .ref 1], zh, M)) rfl trivial ?_
    obtain ⟨x2, e8, h⟩ := zb_some h
    refine zF_call (y' := 130) (as := [.ref 1, .int p_shop, .int (M 2 3)]) (u := (21, [(0, .ref 1), (1, .int p_shop)], [], zh, M)) rfl ⟨rfl, rfl⟩ rfl (qS_forbidsAll_ok (S := S) (M := M) e8) ?_
    show zF S 105 (21, [(0, .ref 1), (1, .int p_shop)], [.int x2], zh, M) _ _
    refine zF_eq (t := 27) (u := (24, [(0, .ref 1), (1, .int p_shop)], [], zh, M)) rfl (fun c9 => ?_) (fun c9 => ?_)
    · rw [if_pos c9] at h
      refine zF_go (n := 1) (ps := []) (s' := (28, [(0, .ref 1), (1, .int p_shop)], [.ref 1], zh, M)) rfl trivial ?_
      obtain ⟨M3, e10, h⟩ := zb_some h
      refine zF_call (y' := 132) (as := [.ref 1]) (u := (31, [(0, .ref 1), (1, .int p_shop)], [], zh, M)) rfl ⟨rfl, rfl⟩ rfl (qS_lookAsItIs_ok (S := S) (M := M) e10) ?_
      show zF S 105 (31, [(0, .ref 1), (1, .int p_shop)], [], zh, M3) _ _
      refine zF_go (n := 6) (ps := []) (s' := (43, [(0, .ref 1), (1, .int p_shop)], [.int (M3 2 3), .int p_shop, .ref 76], zh, M3)) rfl trivial ?_
      obtain ⟨x4, M5, e11, h⟩ := zb2_some h
      refine zF_call (y' := 42) (as := [.ref 76, .int p_shop, .int (M3 2 3)]) (u := (46, [(0, .ref 1), (1, .int p_shop)], [], zh, M3)) rfl ⟨rfl, rfl⟩ rfl (qP_bestRow_ok (S := S) (M := M3) e11) ?_
      show zF S 105 (46, [(0, .ref 1), (1, .int p_shop)], [.int x4], zh, M5) _ _
      cases h
      exact zF_ret rfl trivial
    · rw [if_neg c9] at h
      refine zF_go (n := 1) (ps := []) (s' := (26, [(0, .ref 1), (1, .int p_shop)], [.int (-5)], zh, M)) rfl trivial ?_
      cases h
      exact zF_ret rfl trivial
  · rw [if_neg c7] at h
    refine zF_go (n := 1) (ps := []) (s' := (8, [(0, .ref 1), (1, .int p_shop)], [.int (-1)], zh, M)) rfl trivial ?_
    cases h
    exact zF_ret rfl trivial
noncomputable def qM_rows_L4 (M : zM) (rec3 : (Int32 × Int32) → Option (Int32)) (v : Int32 × Int32) : Option (Int32) := match v with
  | (v1_1, v2_2) =>
    if v2_2 < (M 86 6) then
      (zq (vp_in v2_2 4) <| rec3 ((v1_1 * (M 92 v2_2.toNatClampNeg)), (v2_2 + 1)))
    else
      (some v1_1)
noncomputable def qM_rows (M : zM) : Option (Int32) :=
  zlp (qM_rows_L4 M) zfu (1, 0)
set_option maxRecDepth 20000 in
set_option maxHeartbeats 4000000 in
theorem qM_rows_ok {S : zSc} {M : zM} {r : Int32} (h : qM_rows M = some r) : zF S 175 (0, [(0, .ref 86)], [], zh, M) (some (.int r)) (M) := by
  unfold qM_rows at h
  refine zF_go (n := 4) (ps := []) (s' := (4, [(2, .int 0), (1, .int 1), (0, .ref 86)], [], zh, M)) rfl trivial ?_
  refine zF_same (s' := (4, [(0, .ref 86), (1, .int 1), (2, .int 0)], [], zh, M)) rfl ?_
  refine zlp_ind (P := fun (v : Int32 × Int32) r => zF S 175 (4, [(0, .ref 86), (1, .int v.1), (2, .int v.2)], [], zh, M) (some (.int r)) (M)) ?_ _ _ _ h
  intro rec3 hrec3 v r h
  obtain ⟨v1_1, v2_2⟩ := v
  unfold qM_rows_L4 at h
  dsimp only at h
  show zF S 175 (4, [(0, .ref 86), (1, .int v1_1), (2, .int v2_2)], [], zh, M) _ _
  refine zF_go (n := 3) (ps := []) (s' := (9, [(0, .ref 86), (1, .int v1_1), (2, .int v2_2)], [.int (M 86 6), .int v2_2], zh, M)) rfl trivial ?_
  refine zF_ge (t := 27) (u := (12, [(0, .ref 86), (1, .int v1_1), (2, .int v2_2)], [], zh, M)) rfl (fun c4 => ?_) (fun c4 => ?_)
  · rw [if_neg c4] at h
    refine zF_go (n := 1) (ps := []) (s' := (28, [(0, .ref 86), (1, .int v1_1), (2, .int v2_2)], [.int v1_1], zh, M)) rfl trivial ?_
    cases h
    exact zF_ret rfl trivial
  · rw [if_pos c4] at h
    obtain ⟨g5, h⟩ := zq_some h
    refine zF_go (n := 9) (ps := [vp_in v2_2 4]) (s' := (4, [(2, .int (v2_2 + 1)), (1, .int (v1_1 * (M 92 v2_2.toNatClampNeg))), (0, .ref 86)], [], zh, M)) rfl ⟨g5, trivial⟩ ?_
    exact zF_as (hrec3 _ _ h) rfl
noncomputable def qM_lay_L10 (p_shop : Int32) (rec4 : (Int32 × Int32 × zM) → Option (zM)) (v : Int32 × Int32 × zM) : Option (zM) := match v with
  | (v3_1, v4_2, M3) =>
    if v4_2 < 0 then
      (some M3)
    else
      (zq (vp_in v4_2 4) <| zq (¬ (M3 92 v4_2.toNatClampNeg) = 0) <| zq (vp_in ((4 * p_shop) + v4_2) 8) <| zq (vp_in v4_2 4) <| zq (¬ (M3 92 v4_2.toNatClampNeg) = 0) <| rec4 ((v3_1 / (M3 92 v4_2.toNatClampNeg)), (v4_2 + (-1)), (zw M3 89 ((4 * p_shop) + v4_2).toNatClampNeg (v3_1 - v3_1 / (M3 92 v4_2.toNatClampNeg) * (M3 92 v4_2.toNatClampNeg)))))
noncomputable def qM_lay (M : zM) (p_shop : Int32) (p_row : Int32) : Option (zM) :=
  zlp (qM_lay_L10 p_shop) zfu (p_row, ((M 86 6) - 1), M)
set_option maxRecDepth 20000 in
set_option maxHeartbeats 4000000 in
theorem qM_lay_ok {S : zSc} {M : zM} {p_shop : Int32} {p_row : Int32} {r : zM} (h : qM_lay M p_shop p_row = some r) : zF S 176 (0, [(0, .ref 86), (1, .int p_shop), (2, .int p_row)], [], zh, M) (none) (r) := by
  unfold qM_lay at h
  refine zF_go (n := 7) (ps := []) (s' := (10, [(4, .int ((M 86 6) - 1)), (3, .int p_row), (0, .ref 86), (1, .int p_shop), (2, .int p_row)], [], zh, M)) rfl trivial ?_
  refine zF_same (s' := (10, [(0, .ref 86), (1, .int p_shop), (3, .int p_row), (4, .int ((M 86 6) - 1))], [], zh, M)) rfl ?_
  refine zlp_ind (P := fun (v : Int32 × Int32 × zM) r => zF S 176 (10, [(0, .ref 86), (1, .int p_shop), (3, .int v.1), (4, .int v.2.1)], [], zh, v.2.2) (none) (r)) ?_ _ _ _ h
  intro rec4 hrec4 v r h
  obtain ⟨v3_1, v4_2, M3⟩ := v
  unfold qM_lay_L10 at h
  dsimp only at h
  show zF S 176 (10, [(0, .ref 86), (1, .int p_shop), (3, .int v3_1), (4, .int v4_2)], [], zh, M3) _ _
  refine zF_go (n := 1) (ps := []) (s' := (12, [(0, .ref 86), (1, .int p_shop), (3, .int v3_1), (4, .int v4_2)], [.int v4_2], zh, M3)) rfl trivial ?_
  refine zF_lt (t := 51) (u := (15, [(0, .ref 86), (1, .int p_shop), (3, .int v3_1), (4, .int v4_2)], [], zh, M3)) rfl (fun c5 => ?_) (fun c5 => ?_)
  · rw [if_pos c5] at h
    cases h
    exact zF_ret rfl trivial
  · rw [if_neg c5] at h
    obtain ⟨g6, h⟩ := zq_some h
    obtain ⟨g7, h⟩ := zq_some h
    obtain ⟨g8, h⟩ := zq_some h
    obtain ⟨g9, h⟩ := zq_some h
    obtain ⟨g10, h⟩ := zq_some h
    refine zF_go (n := 23) (ps := [vp_in v4_2 4, ¬ (M3 92 v4_2.toNatClampNeg) = 0, vp_in ((4 * p_shop) + v4_2) 8, vp_in v4_2 4, ¬ (M3 92 v4_2.toNatClampNeg) = 0]) (s' := (10, [(4, .int (v4_2 + (-1))), (3, .int (v3_1 / (M3 92 v4_2.toNatClampNeg))), (0, .ref 86), (1, .int p_shop)], [], zh, (zw M3 89 ((4 * p_shop) + v4_2).toNatClampNeg (v3_1 - v3_1 / (M3 92 v4_2.toNatClampNeg) * (M3 92 v4_2.toNatClampNeg))))) rfl ⟨g6, g7, g8, g9, g10, trivial⟩ ?_
    exact zF_as (hrec4 _ _ h) rfl
noncomputable def qM_isBelow (M : zM) (p_shop : Int32) (p_t : Int32) : Option (Int32) :=
  zb (qM_priceOf M p_shop p_t) fun x1 =>
  zq (vp_in ((4 * p_shop) + p_t) 8) <| if x1 < (M 87 ((4 * p_shop) + p_t).toNatClampNeg) then
    (some 1)
  else
    (some 0)
set_option maxRecDepth 20000 in
set_option maxHeartbeats 4000000 in
theorem qM_isBelow_ok {S : zSc} {M : zM} {p_shop : Int32} {p_t : Int32} {r : Int32} (h : qM_isBelow M p_shop p_t = some r) : zF S 145 (0, [(0, .ref 86), (1, .int p_shop), (2, .int p_t)], [], zh, M) (some (.int r)) (M) := by
  unfold qM_isBelow at h
  refine zF_go (n := 3) (ps := []) (s' := (3, [(0, .ref 86), (1, .int p_shop), (2, .int p_t)], [.int p_t, .int p_shop, .ref 86], zh, M)) rfl trivial ?_
  obtain ⟨x1, e2, h⟩ := zb_some h
  refine zF_call (y' := 144) (as := [.ref 86, .int p_shop, .int p_t]) (u := (6, [(0, .ref 86), (1, .int p_shop), (2, .int p_t)], [], zh, M)) rfl ⟨rfl, rfl⟩ rfl (qM_priceOf_ok (S := S) (M := M) e2) ?_
  show zF S 145 (6, [(0, .ref 86), (1, .int p_shop), (2, .int p_t)], [.int x1], zh, M) _ _
  obtain ⟨g3, h⟩ := zq_some h
  refine zF_go (n := 8) (ps := [vp_in ((4 * p_shop) + p_t) 8]) (s' := (16, [(0, .ref 86), (1, .int p_shop), (2, .int p_t)], [.int (M 87 ((4 * p_shop) + p_t).toNatClampNeg), .int x1], zh, M)) rfl ⟨g3, trivial⟩ ?_
  refine zF_ge (t := 23) (u := (19, [(0, .ref 86), (1, .int p_shop), (2, .int p_t)], [], zh, M)) rfl (fun c4 => ?_) (fun c4 => ?_)
  · rw [if_neg c4] at h
    refine zF_go (n := 1) (ps := []) (s' := (24, [(0, .ref 86), (1, .int p_shop), (2, .int p_t)], [.int 0], zh, M)) rfl trivial ?_
    cases h
    exact zF_ret rfl ⟨(Or.inl rfl), trivial⟩
  · rw [if_pos c4] at h
    refine zF_go (n := 2) (ps := []) (s' := (24, [(0, .ref 86), (1, .int p_shop), (2, .int p_t)], [.int 1], zh, M)) rfl trivial ?_
    cases h
    exact zF_ret rfl ⟨(Or.inr rfl), trivial⟩
noncomputable def qM_isAllowed_L4 (M : zM) (p_shop : Int32) (rec3 : (Int32 × Int32) → Option (Int32)) (v : Int32 × Int32) : Option (Int32) := match v with
  | (v2_1, v3_2) =>
    if v3_2 < (M 86 6) then
      (if (M 86 18) = 1 then
        (if v2_1 = 0 then
          (rec3 (0, (v3_2 + 1)))
        else
          (zb (qM_isBelow M p_shop v3_2) fun x4 =>
          if x4 = 0 then
            (rec3 (1, (v3_2 + 1)))
          else
            (rec3 (0, (v3_2 + 1)))))
      else
        (zq (v2_1 = 0 ∨ v2_1 = 1) <| some v2_1))
    else
      (zq (v2_1 = 0 ∨ v2_1 = 1) <| some v2_1)
noncomputable def qM_isAllowed (M : zM) (p_shop : Int32) : Option (Int32) :=
  zlp (qM_isAllowed_L4 M p_shop) zfu (1, 0)
set_option maxRecDepth 20000 in
set_option maxHeartbeats 4000000 in
theorem qM_isAllowed_ok {S : zSc} {M : zM} {p_shop : Int32} {r : Int32} (h : qM_isAllowed M p_shop = some r) : zF S 178 (0, [(0, .ref 86), (1, .int p_shop)], [], zh, M) (some (.int r)) (M) := by
  unfold qM_isAllowed at h
  refine zF_go (n := 4) (ps := []) (s' := (4, [(3, .int 0), (2, .int 1), (0, .ref 86), (1, .int p_shop)], [], zh, M)) rfl trivial ?_
  refine zF_same (s' := (4, [(0, .ref 86), (1, .int p_shop), (2, .int 1), (3, .int 0)], [], zh, M)) rfl ?_
  refine zlp_ind (P := fun (v : Int32 × Int32) r => zF S 178 (4, [(0, .ref 86), (1, .int p_shop), (2, .int v.1), (3, .int v.2)], [], zh, M) (some (.int r)) (M)) ?_ _ _ _ h
  intro rec3 hrec3 v r h
  obtain ⟨v2_1, v3_2⟩ := v
  unfold qM_isAllowed_L4 at h
  dsimp only at h
  show zF S 178 (4, [(0, .ref 86), (1, .int p_shop), (2, .int v2_1), (3, .int v3_2)], [], zh, M) _ _
  refine zF_go (n := 3) (ps := []) (s' := (9, [(0, .ref 86), (1, .int p_shop), (2, .int v2_1), (3, .int v3_2)], [.int (M 86 6), .int v3_2], zh, M)) rfl trivial ?_
  refine zF_ge (t := 45) (u := (12, [(0, .ref 86), (1, .int p_shop), (2, .int v2_1), (3, .int v3_2)], [], zh, M)) rfl (fun c5 => ?_) (fun c5 => ?_)
  · rw [if_neg c5] at h
    refine zF_go (n := 1) (ps := []) (s' := (46, [(2, .int v2_1)], [.int v2_1], zh, M)) rfl trivial ?_
    obtain ⟨g6, h⟩ := zq_some h
    cases h
    exact zF_ret rfl ⟨g6, trivial⟩
  · rw [if_pos c5] at h
    refine zF_go (n := 3) (ps := []) (s' := (17, [(0, .ref 86), (1, .int p_shop), (2, .int v2_1), (3, .int v3_2)], [.int 1, .int (M 86 18)], zh, M)) rfl trivial ?_
    refine zF_ne (t := 45) (u := (20, [(0, .ref 86), (1, .int p_shop), (2, .int v2_1), (3, .int v3_2)], [], zh, M)) rfl (fun c7 => ?_) (fun c7 => ?_)
    · rw [if_neg c7] at h
      refine zF_go (n := 1) (ps := []) (s' := (46, [(2, .int v2_1)], [.int v2_1], zh, M)) rfl trivial ?_
      obtain ⟨g8, h⟩ := zq_some h
      cases h
      exact zF_ret rfl ⟨g8, trivial⟩
    · rw [if_pos c7] at h
      refine zF_go (n := 1) (ps := []) (s' := (21, [(0, .ref 86), (1, .int p_shop), (2, .int v2_1), (3, .int v3_2)], [.int v2_1], zh, M)) rfl trivial ?_
      refine zF_eq (t := 37) (u := (24, [(0, .ref 86), (1, .int p_shop), (2, .int v2_1), (3, .int v3_2)], [], zh, M)) rfl (fun c9 => ?_) (fun c9 => ?_)
      · rw [if_pos c9] at h
        refine zF_go (n := 1) (ps := []) (s' := (38, [(0, .ref 86), (1, .int p_shop), (3, .int v3_2)], [.int 0], zh, M)) rfl trivial ?_
        refine zF_go (n := 3) (ps := []) (s' := (4, [(3, .int (v3_2 + 1)), (2, .int 0), (0, .ref 86), (1, .int p_shop)], [], zh, M)) rfl trivial ?_
        exact zF_as (hrec3 _ _ h) rfl
      · rw [if_neg c9] at h
        refine zF_go (n := 3) (ps := []) (s' := (27, [(0, .ref 86), (1, .int p_shop), (2, .int v2_1), (3, .int v3_2)], [.int v3_2, .int p_shop, .ref 86], zh, M)) rfl trivial ?_
        obtain ⟨x4, e10, h⟩ := zb_some h
        refine zF_call (y' := 145) (as := [.ref 86, .int p_shop, .int v3_2]) (u := (30, [(0, .ref 86), (1, .int p_shop), (2, .int v2_1), (3, .int v3_2)], [], zh, M)) rfl ⟨rfl, rfl⟩ rfl (qM_isBelow_ok (S := S) (M := M) e10) ?_
        show zF S 178 (30, [(0, .ref 86), (1, .int p_shop), (2, .int v2_1), (3, .int v3_2)], [.int x4], zh, M) _ _
        refine zF_ne (t := 37) (u := (33, [(0, .ref 86), (1, .int p_shop), (2, .int v2_1), (3, .int v3_2)], [], zh, M)) rfl (fun c11 => ?_) (fun c11 => ?_)
        · rw [if_neg c11] at h
          refine zF_go (n := 1) (ps := []) (s' := (38, [(0, .ref 86), (1, .int p_shop), (3, .int v3_2)], [.int 0], zh, M)) rfl trivial ?_
          refine zF_go (n := 3) (ps := []) (s' := (4, [(3, .int (v3_2 + 1)), (2, .int 0), (0, .ref 86), (1, .int p_shop)], [], zh, M)) rfl trivial ?_
          exact zF_as (hrec3 _ _ h) rfl
        · rw [if_pos c11] at h
          refine zF_go (n := 2) (ps := []) (s' := (38, [(0, .ref 86), (1, .int p_shop), (2, .int v2_1), (3, .int v3_2)], [.int 1], zh, M)) rfl trivial ?_
          refine zF_go (n := 3) (ps := []) (s' := (4, [(3, .int (v3_2 + 1)), (2, .int 1), (0, .ref 86), (1, .int p_shop)], [], zh, M)) rfl trivial ?_
          exact zF_as (hrec3 _ _ h) rfl
noncomputable def qM_bestOf_L18 (x2 : Int32) (p_shop : Int32) (x1 : Int32) (rec6 : (Int32 × Int32 × zM) → Option (Int32 × zM)) (v : Int32 × Int32 × zM) : Option (Int32 × zM) := match v with
  | (v3_3, v5_4, M5) =>
    if v5_4 < x2 then
      (zb (qM_lay M5 p_shop v5_4) fun M8 =>
      zb (qM_isAllowed M8 p_shop) fun x9 =>
      if x9 = 0 then
        (rec6 (v3_3, (v5_4 + 1), M8))
      else
        (zb (qM_leftOf M8 p_shop) fun x10 =>
        if v3_3 < 0 then
          (rec6 (v5_4, (v5_4 + 1), (zw M8 86 19 x10)))
        else
          (if (M8 86 19) < x10 then
            (rec6 (v5_4, (v5_4 + 1), (zw M8 86 19 x10)))
          else
            (rec6 (v3_3, (v5_4 + 1), M8)))))
    else
      (zb (qM_lay M5 p_shop x1) fun M7 =>
      some (v3_3, M7))
noncomputable def qM_bestOf (M : zM) (p_shop : Int32) : Option (Int32 × zM) :=
  zb (qM_rowOf M p_shop) fun x1 =>
  zb (qM_rows M) fun x2 =>
  zlp (qM_bestOf_L18 x2 p_shop x1) zfu ((-6), 0, M)
set_option maxRecDepth 20000 in
set_option maxHeartbeats 4000000 in
theorem qM_bestOf_ok {S : zSc} {M : zM} {p_shop : Int32} {r : Int32 × zM} (h : qM_bestOf M p_shop = some r) : zF S 179 (0, [(0, .ref 86), (1, .int p_shop)], [], zh, M) (some (.int r.1)) (r.2) := by
  unfold qM_bestOf at h
  refine zF_go (n := 2) (ps := []) (s' := (2, [(0, .ref 86), (1, .int p_shop)], [.int p_shop, .ref 86], zh, M)) rfl trivial ?_
  obtain ⟨x1, e11, h⟩ := zb_some h
  refine zF_call (y' := 174) (as := [.ref 86, .int p_shop]) (u := (5, [(0, .ref 86), (1, .int p_shop)], [], zh, M)) rfl ⟨rfl, rfl⟩ rfl (qM_rowOf_ok (S := S) (M := M) e11) ?_
  show zF S 179 (5, [(0, .ref 86), (1, .int p_shop)], [.int x1], zh, M) _ _
  refine zF_go (n := 4) (ps := []) (s' := (10, [(3, .int (-6)), (2, .int x1), (0, .ref 86), (1, .int p_shop)], [.ref 86], zh, M)) rfl trivial ?_
  obtain ⟨x2, e12, h⟩ := zb_some h
  refine zF_call (y' := 175) (as := [.ref 86]) (u := (13, [(3, .int (-6)), (2, .int x1), (0, .ref 86), (1, .int p_shop)], [], zh, M)) rfl ⟨rfl, rfl⟩ rfl (qM_rows_ok (S := S) (M := M) e12) ?_
  show zF S 179 (13, [(3, .int (-6)), (2, .int x1), (0, .ref 86), (1, .int p_shop)], [.int x2], zh, M) _ _
  refine zF_go (n := 3) (ps := []) (s' := (18, [(5, .int 0), (4, .int x2), (3, .int (-6)), (2, .int x1), (0, .ref 86), (1, .int p_shop)], [], zh, M)) rfl trivial ?_
  refine zF_same (s' := (18, [(0, .ref 86), (1, .int p_shop), (2, .int x1), (3, .int (-6)), (4, .int x2), (5, .int 0)], [], zh, M)) rfl ?_
  refine zlp_ind (P := fun (v : Int32 × Int32 × zM) r => zF S 179 (18, [(0, .ref 86), (1, .int p_shop), (2, .int x1), (3, .int v.1), (4, .int x2), (5, .int v.2.1)], [], zh, v.2.2) (some (.int r.1)) (r.2)) ?_ _ _ _ h
  intro rec6 hrec6 v r h
  obtain ⟨v3_3, v5_4, M5⟩ := v
  unfold qM_bestOf_L18 at h
  dsimp only at h
  show zF S 179 (18, [(0, .ref 86), (1, .int p_shop), (2, .int x1), (3, .int v3_3), (4, .int x2), (5, .int v5_4)], [], zh, M5) _ _
  refine zF_go (n := 2) (ps := []) (s' := (22, [(0, .ref 86), (1, .int p_shop), (2, .int x1), (3, .int v3_3), (4, .int x2), (5, .int v5_4)], [.int x2, .int v5_4], zh, M5)) rfl trivial ?_
  refine zF_ge (t := 75) (u := (25, [(0, .ref 86), (1, .int p_shop), (2, .int x1), (3, .int v3_3), (4, .int x2), (5, .int v5_4)], [], zh, M5)) rfl (fun c13 => ?_) (fun c13 => ?_)
  · rw [if_neg c13] at h
    refine zF_go (n := 3) (ps := []) (s' := (78, [(0, .ref 86), (1, .int p_shop), (2, .int x1), (3, .int v3_3), (4, .int x2), (5, .int v5_4)], [.int x1, .int p_shop, .ref 86], zh, M5)) rfl trivial ?_
    obtain ⟨M7, e14, h⟩ := zb_some h
    refine zF_call (y' := 176) (as := [.ref 86, .int p_shop, .int x1]) (u := (81, [(0, .ref 86), (1, .int p_shop), (2, .int x1), (3, .int v3_3), (4, .int x2), (5, .int v5_4)], [], zh, M5)) rfl ⟨rfl, rfl⟩ rfl (qM_lay_ok (S := S) (M := M5) e14) ?_
    show zF S 179 (81, [(0, .ref 86), (1, .int p_shop), (2, .int x1), (3, .int v3_3), (4, .int x2), (5, .int v5_4)], [], zh, M7) _ _
    refine zF_go (n := 1) (ps := []) (s' := (82, [(0, .ref 86), (1, .int p_shop), (2, .int x1), (3, .int v3_3), (4, .int x2), (5, .int v5_4)], [.int v3_3], zh, M7)) rfl trivial ?_
    cases h
    exact zF_ret rfl trivial
  · rw [if_pos c13] at h
    refine zF_go (n := 3) (ps := []) (s' := (29, [(0, .ref 86), (1, .int p_shop), (2, .int x1), (3, .int v3_3), (4, .int x2), (5, .int v5_4)], [.int v5_4, .int p_shop, .ref 86], zh, M5)) rfl trivial ?_
    obtain ⟨M8, e15, h⟩ := zb_some h
    refine zF_call (y' := 176) (as := [.ref 86, .int p_shop, .int v5_4]) (u := (32, [(0, .ref 86), (1, .int p_shop), (2, .int x1), (3, .int v3_3), (4, .int x2), (5, .int v5_4)], [], zh, M5)) rfl ⟨rfl, rfl⟩ rfl (qM_lay_ok (S := S) (M := M5) e15) ?_
    show zF S 179 (32, [(0, .ref 86), (1, .int p_shop), (2, .int x1), (3, .int v3_3), (4, .int x2), (5, .int v5_4)], [], zh, M8) _ _
    refine zF_go (n := 2) (ps := []) (s' := (34, [(0, .ref 86), (1, .int p_shop), (2, .int x1), (3, .int v3_3), (4, .int x2), (5, .int v5_4)], [.int p_shop, .ref 86], zh, M8)) rfl trivial ?_
    obtain ⟨x9, e16, h⟩ := zb_some h
    refine zF_call (y' := 178) (as := [.ref 86, .int p_shop]) (u := (37, [(0, .ref 86), (1, .int p_shop), (2, .int x1), (3, .int v3_3), (4, .int x2), (5, .int v5_4)], [], zh, M8)) rfl ⟨rfl, rfl⟩ rfl (qM_isAllowed_ok (S := S) (M := M8) e16) ?_
    show zF S 179 (37, [(0, .ref 86), (1, .int p_shop), (2, .int x1), (3, .int v3_3), (4, .int x2), (5, .int v5_4)], [.int x9], zh, M8) _ _
    refine zF_eq (t := 69) (u := (40, [(0, .ref 86), (1, .int p_shop), (2, .int x1), (3, .int v3_3), (4, .int x2), (5, .int v5_4)], [], zh, M8)) rfl (fun c17 => ?_) (fun c17 => ?_)
    · rw [if_pos c17] at h
      refine zF_go (n := 2) (ps := []) (s' := (18, [(5, .int (v5_4 + 1)), (0, .ref 86), (1, .int p_shop), (2, .int x1), (3, .int v3_3), (4, .int x2)], [], zh, M8)) rfl trivial ?_
      exact zF_as (hrec6 _ _ h) rfl
    · rw [if_neg c17] at h
      refine zF_go (n := 2) (ps := []) (s' := (42, [(0, .ref 86), (1, .int p_shop), (2, .int x1), (3, .int v3_3), (4, .int x2), (5, .int v5_4)], [.int p_shop, .ref 86], zh, M8)) rfl trivial ?_
      obtain ⟨x10, e18, h⟩ := zb_some h
      refine zF_call (y' := 172) (as := [.ref 86, .int p_shop]) (u := (45, [(0, .ref 86), (1, .int p_shop), (2, .int x1), (3, .int v3_3), (4, .int x2), (5, .int v5_4)], [], zh, M8)) rfl ⟨rfl, rfl⟩ rfl (qM_leftOf_ok (S := S) (M := M8) e18) ?_
      show zF S 179 (45, [(0, .ref 86), (1, .int p_shop), (2, .int x1), (3, .int v3_3), (4, .int x2), (5, .int v5_4)], [.int x10], zh, M8) _ _
      refine zF_go (n := 2) (ps := []) (s' := (48, [(6, .int x10), (0, .ref 86), (1, .int p_shop), (2, .int x1), (3, .int v3_3), (4, .int x2), (5, .int v5_4)], [.int v3_3], zh, M8)) rfl trivial ?_
      refine zF_lt (t := 60) (u := (51, [(6, .int x10), (0, .ref 86), (1, .int p_shop), (2, .int x1), (3, .int v3_3), (4, .int x2), (5, .int v5_4)], [], zh, M8)) rfl (fun c19 => ?_) (fun c19 => ?_)
      · rw [if_pos c19] at h
        refine zF_go (n := 5) (ps := []) (s' := (69, [(3, .int v5_4), (0, .ref 86), (1, .int p_shop), (2, .int x1), (4, .int x2), (5, .int v5_4), (6, .int x10)], [], zh, (zw M8 86 19 x10))) rfl trivial ?_
        refine zF_go (n := 2) (ps := []) (s' := (18, [(5, .int (v5_4 + 1)), (0, .ref 86), (1, .int p_shop), (2, .int x1), (3, .int v5_4), (4, .int x2)], [], zh, (zw M8 86 19 x10))) rfl trivial ?_
        exact zF_as (hrec6 _ _ h) rfl
      · rw [if_neg c19] at h
        refine zF_go (n := 3) (ps := []) (s' := (57, [(6, .int x10), (0, .ref 86), (1, .int p_shop), (2, .int x1), (3, .int v3_3), (4, .int x2), (5, .int v5_4)], [.int (M8 86 19), .int x10], zh, M8)) rfl trivial ?_
        refine zF_le (t := 69) (u := (60, [(6, .int x10), (0, .ref 86), (1, .int p_shop), (2, .int x1), (3, .int v3_3), (4, .int x2), (5, .int v5_4)], [], zh, M8)) rfl (fun c20 => ?_) (fun c20 => ?_)
        · rw [if_neg c20] at h
          refine zF_go (n := 2) (ps := []) (s' := (18, [(5, .int (v5_4 + 1)), (0, .ref 86), (1, .int p_shop), (2, .int x1), (3, .int v3_3), (4, .int x2)], [], zh, M8)) rfl trivial ?_
          exact zF_as (hrec6 _ _ h) rfl
        · rw [if_pos c20] at h
          refine zF_go (n := 5) (ps := []) (s' := (69, [(3, .int v5_4), (0, .ref 86), (1, .int p_shop), (2, .int x1), (4, .int x2), (5, .int v5_4), (6, .int x10)], [], zh, (zw M8 86 19 x10))) rfl trivial ?_
          refine zF_go (n := 2) (ps := []) (s' := (18, [(5, .int (v5_4 + 1)), (0, .ref 86), (1, .int p_shop), (2, .int x1), (3, .int v5_4), (4, .int x2)], [], zh, (zw M8 86 19 x10))) rfl trivial ?_
          exact zF_as (hrec6 _ _ h) rfl
end ZT
