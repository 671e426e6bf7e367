section ZT
noncomputable def qM_ring (M : zM) (p_shop : Int32) (p_what : Int32) : Option (Int32 × zM) :=
  zb (qM_isShop p_shop) fun x1 =>
  if x1 = 0 then
    (some ((-1), M))
  else
    (zb (qM_in p_what.toInt64 0 3) fun x2 =>
    if x2 = 0 then
      (some ((-2), M))
    else
      (zb2 (qM_goRound M p_shop) fun x3 M4 =>
      if x3 = 0 then
        (some ((-5), M4))
      else
        (if p_what = 0 then
          (some ((M4 86 24), M4))
        else
          (if p_what = 1 then
            (some ((M4 86 25), M4))
          else
            (if p_what = 2 then
              (some ((M4 86 26), M4))
            else
              (some ((M4 86 27), M4)))))))
set_option maxRecDepth 20000 in
set_option maxHeartbeats 4000000 in
theorem qM_ring_ok {S : zSc} {M : zM} {p_shop : Int32} {p_what : Int32} {r : Int32 × zM} (h : qM_ring M p_shop p_what = some r) : zF S 193 (0, [(0, .ref 86), (1, .int p_shop), (2, .int p_what)], [], zh, M) (some (.int r.1)) (r.2) := by
  unfold qM_ring at h
  refine zF_go (n := 1) (ps := []) (s' := (1, [(0, .ref 86), (1, .int p_shop), (2, .int p_what)], [.int p_shop], zh, M)) rfl trivial ?_
  obtain ⟨x1, e5, h⟩ := zb_some h
  refine zF_call (y' := 136) (as := [.int p_shop]) (u := (4, [(0, .ref 86), (1, .int p_shop), (2, .int p_what)], [], zh, M)) rfl ⟨rfl, rfl⟩ rfl (qM_isShop_ok (S := S) (M := M) e5) ?_
  show zF S 193 (4, [(0, .ref 86), (1, .int p_shop), (2, .int p_what)], [.int x1], zh, M) _ _
  refine zF_ne (t := 9) (u := (7, [(0, .ref 86), (1, .int p_shop), (2, .int p_what)], [], zh, M)) rfl (fun c6 => ?_) (fun c6 => ?_)
  · rw [if_neg c6] at h
    refine zF_go (n := 4) (ps := []) (s' := (15, [(0, .ref 86), (1, .int p_shop), (2, .int p_what)], [.long 3, .long 0, .long p_what.toInt64], zh, M)) rfl trivial ?_
    obtain ⟨x2, e7, h⟩ := zb_some h
    refine zF_call (y' := 134) (as := [.long p_what.toInt64, .long 0, .long 3]) (u := (18, [(0, .ref 86), (1, .int p_shop), (2, .int p_what)], [], zh, M)) rfl ⟨rfl, rfl⟩ rfl (qM_in_ok (S := S) (M := M) e7) ?_
    show zF S 193 (18, [(0, .ref 86), (1, .int p_shop), (2, .int p_what)], [.int x2], zh, M) _ _
    refine zF_ne (t := 24) (u := (21, [(0, .ref 86), (1, .int p_shop), (2, .int p_what)], [], zh, M)) rfl (fun c8 => ?_) (fun c8 => ?_)
    · rw [if_neg c8] at h
      refine zF_go (n := 2) (ps := []) (s' := (26, [(0, .ref 86), (1, .int p_shop), (2, .int p_what)], [.int p_shop, .ref 86], zh, M)) rfl trivial ?_
      obtain ⟨x3, M4, e9, h⟩ := zb2_some h
      refine zF_call (y' := 192) (as := [.ref 86, .int p_shop]) (u := (29, [(0, .ref 86), (1, .int p_shop), (2, .int p_what)], [], zh, M)) rfl ⟨rfl, rfl⟩ rfl (qM_goRound_ok (S := S) (M := M) e9) ?_
      show zF S 193 (29, [(0, .ref 86), (1, .int p_shop), (2, .int p_what)], [.int x3], zh, M4) _ _
      refine zF_ne (t := 35) (u := (32, [(0, .ref 86), (1, .int p_shop), (2, .int p_what)], [], zh, M4)) rfl (fun c10 => ?_) (fun c10 => ?_)
      · rw [if_neg c10] at h
        refine zF_go (n := 1) (ps := []) (s' := (36, [(0, .ref 86), (1, .int p_shop), (2, .int p_what)], [.int p_what], zh, M4)) rfl trivial ?_
        refine zF_ne (t := 46) (u := (39, [(0, .ref 86), (1, .int p_shop), (2, .int p_what)], [], zh, M4)) rfl (fun c11 => ?_) (fun c11 => ?_)
        · rw [if_neg c11] at h
          refine zF_go (n := 2) (ps := []) (s' := (48, [(0, .ref 86), (1, .int p_shop), (2, .int p_what)], [.int 1, .int p_what], zh, M4)) rfl trivial ?_
          refine zF_ne (t := 58) (u := (51, [(0, .ref 86), (1, .int p_shop), (2, .int p_what)], [], zh, M4)) rfl (fun c12 => ?_) (fun c12 => ?_)
          · rw [if_neg c12] at h
            refine zF_go (n := 2) (ps := []) (s' := (60, [(0, .ref 86), (1, .int p_shop), (2, .int p_what)], [.int 2, .int p_what], zh, M4)) rfl trivial ?_
            refine zF_ne (t := 70) (u := (63, [(0, .ref 86), (1, .int p_shop), (2, .int p_what)], [], zh, M4)) rfl (fun c13 => ?_) (fun c13 => ?_)
            · rw [if_neg c13] at h
              refine zF_go (n := 2) (ps := []) (s' := (74, [(0, .ref 86), (1, .int p_shop), (2, .int p_what)], [.int (M4 86 27)], zh, M4)) rfl trivial ?_
              cases h
              exact zF_ret rfl trivial
            · rw [if_pos c13] at h
              refine zF_go (n := 3) (ps := []) (s' := (74, [(0, .ref 86), (1, .int p_shop), (2, .int p_what)], [.int (M4 86 26)], zh, M4)) rfl trivial ?_
              cases h
              exact zF_ret rfl trivial
          · rw [if_pos c12] at h
            refine zF_go (n := 3) (ps := []) (s' := (74, [(0, .ref 86), (1, .int p_shop), (2, .int p_what)], [.int (M4 86 25)], zh, M4)) rfl trivial ?_
            cases h
            exact zF_ret rfl trivial
        · rw [if_pos c11] at h
          refine zF_go (n := 3) (ps := []) (s' := (74, [(0, .ref 86), (1, .int p_shop), (2, .int p_what)], [.int (M4 86 24)], zh, M4)) rfl trivial ?_
          cases h
          exact zF_ret rfl trivial
      · rw [if_pos c10] at h
        refine zF_go (n := 1) (ps := []) (s' := (34, [(0, .ref 86), (1, .int p_shop), (2, .int p_what)], [.int (-5)], zh, M4)) rfl trivial ?_
        cases h
        exact zF_ret rfl trivial
    · rw [if_pos c8] at h
      refine zF_go (n := 1) (ps := []) (s' := (23, [(0, .ref 86), (1, .int p_shop), (2, .int p_what)], [.int (-2)], zh, M)) rfl trivial ?_
      cases h
      exact zF_ret rfl trivial
  · rw [if_pos c6] at h
    refine zF_go (n := 1) (ps := []) (s' := (8, [(0, .ref 86), (1, .int p_shop), (2, .int p_what)], [.int (-1)], zh, M)) rfl trivial ?_
    cases h
    exact zF_ret rfl trivial
noncomputable def qP_leftWithHead (M : zM) (p_shop : Int32) (p_thing : Int32) (p_head : Int32) : Option (Int32 × zM) :=
  zq (vp_in ((p_shop * 4) + p_thing) 8) <| zb (qW_learnThing (zw M 67 ((p_shop * 4) + p_thing).toNatClampNeg p_head) p_shop p_thing) fun M1 =>
  zb2 (qW_leftOf M1 p_shop) fun x2 M3 =>
  some (x2, M3)
set_option maxRecDepth 20000 in
set_option maxHeartbeats 4000000 in
theorem qP_leftWithHead_ok {S : zSc} {M : zM} {p_shop : Int32} {p_thing : Int32} {p_head : Int32} {r : Int32 × zM} (h : qP_leftWithHead M p_shop p_thing p_head = some r) : zF S 48 (0, [(0, .ref 76), (1, .int p_shop), (2, .int p_thing), (3, .int p_head)], [], zh, M) (some (.int r.1)) (r.2) := by
  unfold qP_leftWithHead at h
  obtain ⟨g4, h⟩ := zq_some h
  refine zF_go (n := 14) (ps := [vp_in ((p_shop * 4) + p_thing) 8]) (s' := (20, [(0, .ref 76), (1, .int p_shop), (2, .int p_thing), (3, .int p_head)], [.int p_thing, .int p_shop, .ref 70], zh, (zw M 67 ((p_shop * 4) + p_thing).toNatClampNeg p_head))) rfl ⟨g4, trivial⟩ ?_
  obtain ⟨M1, e5, h⟩ := zb_some h
  refine zF_call (y' := 65) (as := [.ref 70, .int p_shop, .int p_thing]) (u := (23, [(0, .ref 76), (1, .int p_shop), (2, .int p_thing), (3, .int p_head)], [], zh, (zw M 67 ((p_shop * 4) + p_thing).toNatClampNeg p_head))) rfl ⟨rfl, rfl⟩ rfl (qW_learnThing_ok (S := S) (M := (zw M 67 ((p_shop * 4) + p_thing).toNatClampNeg p_head)) e5) ?_
  show zF S 48 (23, [(0, .ref 76), (1, .int p_shop), (2, .int p_thing), (3, .int p_head)], [], zh, M1) _ _
  refine zF_go (n := 3) (ps := []) (s' := (28, [(0, .ref 76), (1, .int p_shop), (2, .int p_thing), (3, .int p_head)], [.int p_shop, .ref 70], zh, M1)) rfl trivial ?_
  obtain ⟨x2, M3, e6, h⟩ := zb2_some h
  refine zF_call (y' := 78) (as := [.ref 70, .int p_shop]) (u := (31, [(0, .ref 76), (1, .int p_shop), (2, .int p_thing), (3, .int p_head)], [], zh, M1)) rfl ⟨rfl, rfl⟩ rfl (qW_leftOf_ok (S := S) (M := M1) e6) ?_
  show zF S 48 (31, [(0, .ref 76), (1, .int p_shop), (2, .int p_thing), (3, .int p_head)], [.int x2], zh, M3) _ _
  cases h
  exact zF_ret rfl trivial
noncomputable def qP_headFor_L14 (p_shop : Int32) (p_thing : Int32) (rec7 : (Int32 × Int32 × Int32 × zM) → Option (Int32 × zM)) (v : Int32 × Int32 × Int32 × zM) : Option (Int32 × zM) := match v with
  | (v3_3, v4_4, v5_5, M6) =>
    if v5_5 < 0 then
      (some (v3_3, M6))
    else
      (zb2 (qP_leftWithHead M6 p_shop p_thing v5_5) fun x8 M9 =>
      if v4_4 < x8 then
        (rec7 (v5_5, x8, (v5_5 + (-1)), M9))
      else
        (rec7 (v3_3, v4_4, (v5_5 + (-1)), M9)))
noncomputable def qP_headFor (M : zM) (p_shop : Int32) (p_thing : Int32) : Option (Int32 × zM) :=
  zb2 (qP_leftWithHead M p_shop p_thing 3) fun x1 M2 =>
  zlp (qP_headFor_L14 p_shop p_thing) zfu (3, x1, 2, M2)
set_option maxRecDepth 20000 in
set_option maxHeartbeats 4000000 in
theorem qP_headFor_ok {S : zSc} {M : zM} {p_shop : Int32} {p_thing : Int32} {r : Int32 × zM} (h : qP_headFor M p_shop p_thing = some r) : zF S 47 (0, [(0, .ref 76), (1, .int p_shop), (2, .int p_thing)], [], zh, M) (some (.int r.1)) (r.2) := by
  unfold qP_headFor at h
  refine zF_go (n := 6) (ps := []) (s' := (6, [(3, .int 3), (0, .ref 76), (1, .int p_shop), (2, .int p_thing)], [.int 3, .int p_thing, .int p_shop, .ref 76], zh, M)) rfl trivial ?_
  obtain ⟨x1, M2, e10, h⟩ := zb2_some h
  refine zF_call (y' := 48) (as := [.ref 76, .int p_shop, .int p_thing, .int 3]) (u := (9, [(3, .int 3), (0, .ref 76), (1, .int p_shop), (2, .int p_thing)], [], zh, M)) rfl ⟨rfl, rfl⟩ rfl (qP_leftWithHead_ok (S := S) (M := M) e10) ?_
  show zF S 47 (9, [(3, .int 3), (0, .ref 76), (1, .int p_shop), (2, .int p_thing)], [.int x1], zh, M2) _ _
  refine zF_go (n := 3) (ps := []) (s' := (14, [(5, .int 2), (4, .int x1), (3, .int 3), (0, .ref 76), (1, .int p_shop), (2, .int p_thing)], [], zh, M2)) rfl trivial ?_
  refine zF_same (s' := (14, [(0, .ref 76), (1, .int p_shop), (2, .int p_thing), (3, .int 3), (4, .int x1), (5, .int 2)], [], zh, M2)) rfl ?_
  refine zlp_ind (P := fun (v : Int32 × Int32 × Int32 × zM) r => zF S 47 (14, [(0, .ref 76), (1, .int p_shop), (2, .int p_thing), (3, .int v.1), (4, .int v.2.1), (5, .int v.2.2.1)], [], zh, v.2.2.2) (some (.int r.1)) (r.2)) ?_ _ _ _ h
  intro rec7 hrec7 v r h
  obtain ⟨v3_3, v4_4, v5_5, M6⟩ := v
  unfold qP_headFor_L14 at h
  dsimp only at h
  show zF S 47 (14, [(0, .ref 76), (1, .int p_shop), (2, .int p_thing), (3, .int v3_3), (4, .int v4_4), (5, .int v5_5)], [], zh, M6) _ _
  refine zF_go (n := 1) (ps := []) (s' := (16, [(0, .ref 76), (1, .int p_shop), (2, .int p_thing), (3, .int v3_3), (4, .int v4_4), (5, .int v5_5)], [.int v5_5], zh, M6)) rfl trivial ?_
  refine zF_lt (t := 49) (u := (19, [(0, .ref 76), (1, .int p_shop), (2, .int p_thing), (3, .int v3_3), (4, .int v4_4), (5, .int v5_5)], [], zh, M6)) rfl (fun c11 => ?_) (fun c11 => ?_)
  · rw [if_pos c11] at h
    refine zF_go (n := 1) (ps := []) (s' := (50, [(0, .ref 76), (1, .int p_shop), (2, .int p_thing), (3, .int v3_3), (4, .int v4_4), (5, .int v5_5)], [.int v3_3], zh, M6)) rfl trivial ?_
    cases h
    exact zF_ret rfl trivial
  · rw [if_neg c11] at h
    refine zF_go (n := 4) (ps := []) (s' := (24, [(0, .ref 76), (1, .int p_shop), (2, .int p_thing), (3, .int v3_3), (4, .int v4_4), (5, .int v5_5)], [.int v5_5, .int p_thing, .int p_shop, .ref 76], zh, M6)) rfl trivial ?_
    obtain ⟨x8, M9, e12, h⟩ := zb2_some h
    refine zF_call (y' := 48) (as := [.ref 76, .int p_shop, .int p_thing, .int v5_5]) (u := (27, [(0, .ref 76), (1, .int p_shop), (2, .int p_thing), (3, .int v3_3), (4, .int v4_4), (5, .int v5_5)], [], zh, M6)) rfl ⟨rfl, rfl⟩ rfl (qP_leftWithHead_ok (S := S) (M := M6) e12) ?_
    show zF S 47 (27, [(0, .ref 76), (1, .int p_shop), (2, .int p_thing), (3, .int v3_3), (4, .int v4_4), (5, .int v5_5)], [.int x8], zh, M9) _ _
    refine zF_go (n := 3) (ps := []) (s' := (33, [(6, .int x8), (0, .ref 76), (1, .int p_shop), (2, .int p_thing), (3, .int v3_3), (4, .int v4_4), (5, .int v5_5)], [.int v4_4, .int x8], zh, M9)) rfl trivial ?_
    refine zF_le (t := 43) (u := (36, [(6, .int x8), (0, .ref 76), (1, .int p_shop), (2, .int p_thing), (3, .int v3_3), (4, .int v4_4), (5, .int v5_5)], [], zh, M9)) rfl (fun c13 => ?_) (fun c13 => ?_)
    · rw [if_neg c13] at h
      refine zF_go (n := 2) (ps := []) (s' := (14, [(5, .int (v5_5 + (-1))), (0, .ref 76), (1, .int p_shop), (2, .int p_thing), (3, .int v3_3), (4, .int v4_4)], [], zh, M9)) rfl trivial ?_
      exact zF_as (hrec7 _ _ h) rfl
    · rw [if_pos c13] at h
      refine zF_go (n := 4) (ps := []) (s' := (43, [(4, .int x8), (3, .int v5_5), (6, .int x8), (0, .ref 76), (1, .int p_shop), (2, .int p_thing), (5, .int v5_5)], [], zh, M9)) rfl trivial ?_
      refine zF_go (n := 2) (ps := []) (s' := (14, [(5, .int (v5_5 + (-1))), (0, .ref 76), (1, .int p_shop), (2, .int p_thing), (3, .int v5_5), (4, .int x8)], [], zh, M9)) rfl trivial ?_
      exact zF_as (hrec7 _ _ h) rfl
noncomputable def qS_heads (M : zM) (p_shop : Int32) (p_thing : Int32) : Option (Int32 × zM) :=
  zb (qS_noShop p_shop) fun x1 =>
  if x1 = 0 then
    (zb (qS_noThing M p_thing) fun x2 =>
    if x2 = 0 then
      (zb (qS_lookAsItIs M) fun M3 =>
      zb2 (qP_headFor M3 p_shop p_thing) fun x4 M5 =>
      some (x4, M5))
    else
      (some ((-1), M)))
  else
    (some ((-1), M))
set_option maxRecDepth 20000 in
set_option maxHeartbeats 4000000 in
theorem qS_heads_ok {S : zSc} {M : zM} {p_shop : Int32} {p_thing : Int32} {r : Int32 × zM} (h : qS_heads M p_shop p_thing = some r) : zF S 113 (0, [(0, .ref 1), (1, .int p_shop), (2, .int p_thing)], [], zh, M) (some (.int r.1)) (r.2) := by
  unfold qS_heads at h
  refine zF_go (n := 1) (ps := []) (s' := (1, [(0, .ref 1), (1, .int p_shop), (2, .int p_thing)], [.int p_shop], zh, M)) rfl trivial ?_
  obtain ⟨x1, e6, h⟩ := zb_some h
  refine zF_call (y' := 126) (as := [.int p_shop]) (u := (4, [(0, .ref 1), (1, .int p_shop), (2, .int p_thing)], [], zh, M)) rfl ⟨rfl, rfl⟩ rfl (qS_noShop_ok (S := S) (M := M) e6) ?_
  show zF S 113 (4, [(0, .ref 1), (1, .int p_shop), (2, .int p_thing)], [.int x1], zh, M) _ _
  refine zF_ne (t := 15) (u := (7, [(0, .ref 1), (1, .int p_shop), (2, .int p_thing)], [], zh, M)) rfl (fun c7 => ?_) (fun c7 => ?_)
  · rw [if_neg c7] at h
    refine zF_go (n := 1) (ps := []) (s' := (16, [], [.int (-1)], zh, M)) rfl trivial ?_
    cases h
    exact zF_ret rfl trivial
  · rw [if_pos c7] at h
    refine zF_go (n := 2) (ps := []) (s' := (9, [(0, .ref 1), (1, .int p_shop), (2, .int p_thing)], [.int p_thing, .ref 1], zh, M)) rfl trivial ?_
    obtain ⟨x2, e8, h⟩ := zb_some h
    refine zF_call (y' := 128) (as := [.ref 1, .int p_thing]) (u := (12, [(0, .ref 1), (1, .int p_shop), (2, .int p_thing)], [], zh, M)) rfl ⟨rfl, rfl⟩ rfl (qS_noThing_ok (S := S) (M := M) e8) ?_
    show zF S 113 (12, [(0, .ref 1), (1, .int p_shop), (2, .int p_thing)], [.int x2], zh, M) _ _
    refine zF_eq (t := 17) (u := (15, [(0, .ref 1), (1, .int p_shop), (2, .int p_thing)], [], zh, M)) rfl (fun c9 => ?_) (fun c9 => ?_)
    · rw [if_pos c9] at h
      refine zF_go (n := 1) (ps := []) (s' := (18, [(0, .ref 1), (1, .int p_shop), (2, .int p_thing)], [.ref 1], zh, M)) rfl trivial ?_
      obtain ⟨M3, e10, h⟩ := zb_some h
      refine zF_call (y' := 132) (as := [.ref 1]) (u := (21, [(0, .ref 1), (1, .int p_shop), (2, .int p_thing)], [], zh, M)) rfl ⟨rfl, rfl⟩ rfl (qS_lookAsItIs_ok (S := S) (M := M) e10) ?_
      show zF S 113 (21, [(0, .ref 1), (1, .int p_shop), (2, .int p_thing)], [], zh, M3) _ _
      refine zF_go (n := 4) (ps := []) (s' := (27, [(0, .ref 1), (1, .int p_shop), (2, .int p_thing)], [.int p_thing, .int p_shop, .ref 76], zh, M3)) rfl trivial ?_
      obtain ⟨x4, M5, e11, h⟩ := zb2_some h
      refine zF_call (y' := 47) (as := [.ref 76, .int p_shop, .int p_thing]) (u := (30, [(0, .ref 1), (1, .int p_shop), (2, .int p_thing)], [], zh, M3)) rfl ⟨rfl, rfl⟩ rfl (qP_headFor_ok (S := S) (M := M3) e11) ?_
      show zF S 113 (30, [(0, .ref 1), (1, .int p_shop), (2, .int p_thing)], [.int x4], zh, M5) _ _
      cases h
      exact zF_ret rfl trivial
    · rw [if_neg c9] at h
      refine zF_go (n := 1) (ps := []) (s' := (16, [], [.int (-1)], zh, M)) rfl trivial ?_
      cases h
      exact zF_ret rfl trivial
noncomputable def qM_heads_L40 (p_shop : Int32) (p_thing : Int32) (M : zM) (rec7 : (Int32 × Int32 × Int32 × zM) → Option (Int32 × zM)) (v : Int32 × Int32 × Int32 × zM) : Option (Int32 × zM) := match v with
  | (v5_3, v6_4, v7_5, M6) =>
    if (3 : Int32) < v7_5 then
      (zq (vp_in ((4 * p_shop) + p_thing) 8) <| some (v5_3, (zw M6 88 ((4 * p_shop) + p_thing).toNatClampNeg (M 88 ((4 * p_shop) + p_thing).toNatClampNeg))))
    else
      (zq (vp_in ((4 * p_shop) + p_thing) 8) <| zb (qM_leftOf (zw M6 88 ((4 * p_shop) + p_thing).toNatClampNeg v7_5) p_shop) fun x8 =>
      if v7_5 = 0 then
        (rec7 (v7_5, x8, (v7_5 + 1), (zw M6 88 ((4 * p_shop) + p_thing).toNatClampNeg v7_5)))
      else
        (if x8 < v6_4 then
          (rec7 (v5_3, v6_4, (v7_5 + 1), (zw M6 88 ((4 * p_shop) + p_thing).toNatClampNeg v7_5)))
        else
          (rec7 (v7_5, x8, (v7_5 + 1), (zw M6 88 ((4 * p_shop) + p_thing).toNatClampNeg v7_5)))))
noncomputable def qM_heads (M : zM) (p_shop : Int32) (p_thing : Int32) : Option (Int32 × zM) :=
  zb (qM_isShop p_shop) fun x1 =>
  if x1 = 0 then
    (some ((-1), M))
  else
    (zb (qM_isThing M p_thing) fun x2 =>
    if x2 = 0 then
      (some ((-1), M))
    else
      (zq (vp_in ((4 * p_shop) + p_thing) 8) <| zlp (qM_heads_L40 p_shop p_thing M) zfu (0, 0, 0, M)))
set_option maxRecDepth 20000 in
set_option maxHeartbeats 4000000 in
theorem qM_heads_ok {S : zSc} {M : zM} {p_shop : Int32} {p_thing : Int32} {r : Int32 × zM} (h : qM_heads M p_shop p_thing = some r) : zF S 194 (0, [(0, .ref 86), (1, .int p_shop), (2, .int p_thing)], [], zh, M) (some (.int r.1)) (r.2) := by
  unfold qM_heads at h
  refine zF_go (n := 1) (ps := []) (s' := (1, [(0, .ref 86), (1, .int p_shop), (2, .int p_thing)], [.int p_shop], zh, M)) rfl trivial ?_
  obtain ⟨x1, e9, h⟩ := zb_some h
  refine zF_call (y' := 136) (as := [.int p_shop]) (u := (4, [(0, .ref 86), (1, .int p_shop), (2, .int p_thing)], [], zh, M)) rfl ⟨rfl, rfl⟩ rfl (qM_isShop_ok (S := S) (M := M) e9) ?_
  show zF S 194 (4, [(0, .ref 86), (1, .int p_shop), (2, .int p_thing)], [.int x1], zh, M) _ _
  refine zF_eq (t := 15) (u := (7, [(0, .ref 86), (1, .int p_shop), (2, .int p_thing)], [], zh, M)) rfl (fun c10 => ?_) (fun c10 => ?_)
  · rw [if_pos c10] at h
    refine zF_go (n := 1) (ps := []) (s' := (16, [], [.int (-1)], zh, M)) rfl trivial ?_
    cases h
    exact zF_ret rfl trivial
  · rw [if_neg c10] at h
    refine zF_go (n := 2) (ps := []) (s' := (9, [(0, .ref 86), (1, .int p_shop), (2, .int p_thing)], [.int p_thing, .ref 86], zh, M)) rfl trivial ?_
    obtain ⟨x2, e11, h⟩ := zb_some h
    refine zF_call (y' := 137) (as := [.ref 86, .int p_thing]) (u := (12, [(0, .ref 86), (1, .int p_shop), (2, .int p_thing)], [], zh, M)) rfl ⟨rfl, rfl⟩ rfl (qM_isThing_ok (S := S) (M := M) e11) ?_
    show zF S 194 (12, [(0, .ref 86), (1, .int p_shop), (2, .int p_thing)], [.int x2], zh, M) _ _
    refine zF_ne (t := 17) (u := (15, [(0, .ref 86), (1, .int p_shop), (2, .int p_thing)], [], zh, M)) rfl (fun c12 => ?_) (fun c12 => ?_)
    · rw [if_neg c12] at h
      obtain ⟨g13, h⟩ := zq_some h
      refine zF_go (n := 17) (ps := [vp_in ((4 * p_shop) + p_thing) 8]) (s' := (40, [(7, .int 0), (6, .int 0), (5, .int 0), (4, .int (M 88 ((4 * p_shop) + p_thing).toNatClampNeg)), (3, .int ((4 * p_shop) + p_thing)), (0, .ref 86), (1, .int p_shop), (2, .int p_thing)], [], zh, M)) rfl ⟨g13, trivial⟩ ?_
      refine zF_same (s' := (40, [(0, .ref 86), (1, .int p_shop), (3, .int ((4 * p_shop) + p_thing)), (4, .int (M 88 ((4 * p_shop) + p_thing).toNatClampNeg)), (5, .int 0), (6, .int 0), (7, .int 0)], [], zh, M)) rfl ?_
      refine zlp_ind (P := fun (v : Int32 × Int32 × Int32 × zM) r => zF S 194 (40, [(0, .ref 86), (1, .int p_shop), (3, .int ((4 * p_shop) + p_thing)), (4, .int (M 88 ((4 * p_shop) + p_thing).toNatClampNeg)), (5, .int v.1), (6, .int v.2.1), (7, .int v.2.2.1)], [], zh, v.2.2.2) (some (.int r.1)) (r.2)) ?_ _ _ _ h
      intro rec7 hrec7 v r h
      obtain ⟨v5_3, v6_4, v7_5, M6⟩ := v
      unfold qM_heads_L40 at h
      dsimp only at h
      show zF S 194 (40, [(0, .ref 86), (1, .int p_shop), (3, .int ((4 * p_shop) + p_thing)), (4, .int (M 88 ((4 * p_shop) + p_thing).toNatClampNeg)), (5, .int v5_3), (6, .int v6_4), (7, .int v7_5)], [], zh, M6) _ _
      refine zF_go (n := 2) (ps := []) (s' := (43, [(0, .ref 86), (1, .int p_shop), (3, .int ((4 * p_shop) + p_thing)), (4, .int (M 88 ((4 * p_shop) + p_thing).toNatClampNeg)), (5, .int v5_3), (6, .int v6_4), (7, .int v7_5)], [.int 3, .int v7_5], zh, M6)) rfl trivial ?_
      refine zF_gt (t := 87) (u := (46, [(0, .ref 86), (1, .int p_shop), (3, .int ((4 * p_shop) + p_thing)), (4, .int (M 88 ((4 * p_shop) + p_thing).toNatClampNeg)), (5, .int v5_3), (6, .int v6_4), (7, .int v7_5)], [], zh, M6)) rfl (fun c14 => ?_) (fun c14 => ?_)
      · rw [if_pos c14] at h
        obtain ⟨g15, h⟩ := zq_some h
        refine zF_go (n := 6) (ps := [vp_in ((4 * p_shop) + p_thing) 8]) (s' := (97, [(0, .ref 86), (1, .int p_shop), (3, .int ((4 * p_shop) + p_thing)), (4, .int (M 88 ((4 * p_shop) + p_thing).toNatClampNeg)), (5, .int v5_3), (6, .int v6_4), (7, .int v7_5)], [.int v5_3], zh, (zw M6 88 ((4 * p_shop) + p_thing).toNatClampNeg (M 88 ((4 * p_shop) + p_thing).toNatClampNeg)))) rfl ⟨g15, trivial⟩ ?_
        cases h
        exact zF_ret rfl trivial
      · rw [if_neg c14] at h
        obtain ⟨g16, h⟩ := zq_some h
        refine zF_go (n := 7) (ps := [vp_in ((4 * p_shop) + p_thing) 8]) (s' := (56, [(0, .ref 86), (1, .int p_shop), (3, .int ((4 * p_shop) + p_thing)), (4, .int (M 88 ((4 * p_shop) + p_thing).toNatClampNeg)), (5, .int v5_3), (6, .int v6_4), (7, .int v7_5)], [.int p_shop, .ref 86], zh, (zw M6 88 ((4 * p_shop) + p_thing).toNatClampNeg v7_5))) rfl ⟨g16, trivial⟩ ?_
        obtain ⟨x8, e17, h⟩ := zb_some h
        refine zF_call (y' := 172) (as := [.ref 86, .int p_shop]) (u := (59, [(0, .ref 86), (1, .int p_shop), (3, .int ((4 * p_shop) + p_thing)), (4, .int (M 88 ((4 * p_shop) + p_thing).toNatClampNeg)), (5, .int v5_3), (6, .int v6_4), (7, .int v7_5)], [], zh, (zw M6 88 ((4 * p_shop) + p_thing).toNatClampNeg v7_5))) rfl ⟨rfl, rfl⟩ rfl (qM_leftOf_ok (S := S) (M := (zw M6 88 ((4 * p_shop) + p_thing).toNatClampNeg v7_5)) e17) ?_
        show zF S 194 (59, [(0, .ref 86), (1, .int p_shop), (3, .int ((4 * p_shop) + p_thing)), (4, .int (M 88 ((4 * p_shop) + p_thing).toNatClampNeg)), (5, .int v5_3), (6, .int v6_4), (7, .int v7_5)], [.int x8], zh, (zw M6 88 ((4 * p_shop) + p_thing).toNatClampNeg v7_5)) _ _
        refine zF_go (n := 2) (ps := []) (s' := (63, [(8, .int x8), (0, .ref 86), (1, .int p_shop), (3, .int ((4 * p_shop) + p_thing)), (4, .int (M 88 ((4 * p_shop) + p_thing).toNatClampNeg)), (5, .int v5_3), (6, .int v6_4), (7, .int v7_5)], [.int v7_5], zh, (zw M6 88 ((4 * p_shop) + p_thing).toNatClampNeg v7_5))) rfl trivial ?_
        refine zF_eq (t := 73) (u := (66, [(8, .int x8), (0, .ref 86), (1, .int p_shop), (3, .int ((4 * p_shop) + p_thing)), (4, .int (M 88 ((4 * p_shop) + p_thing).toNatClampNeg)), (5, .int v5_3), (6, .int v6_4), (7, .int v7_5)], [], zh, (zw M6 88 ((4 * p_shop) + p_thing).toNatClampNeg v7_5))) rfl (fun c18 => ?_) (fun c18 => ?_)
        · rw [if_pos c18] at h
          refine zF_go (n := 4) (ps := []) (s' := (81, [(6, .int x8), (5, .int v7_5), (0, .ref 86), (1, .int p_shop), (3, .int ((4 * p_shop) + p_thing)), (4, .int (M 88 ((4 * p_shop) + p_thing).toNatClampNeg)), (7, .int v7_5), (8, .int x8)], [], zh, (zw M6 88 ((4 * p_shop) + p_thing).toNatClampNeg v7_5))) rfl trivial ?_
          refine zF_go (n := 2) (ps := []) (s' := (40, [(7, .int (v7_5 + 1)), (0, .ref 86), (1, .int p_shop), (3, .int ((4 * p_shop) + p_thing)), (4, .int (M 88 ((4 * p_shop) + p_thing).toNatClampNeg)), (5, .int v7_5), (6, .int x8)], [], zh, (zw M6 88 ((4 * p_shop) + p_thing).toNatClampNeg v7_5))) rfl trivial ?_
          exact zF_as (hrec7 _ _ h) rfl
        · rw [if_neg c18] at h
          refine zF_go (n := 2) (ps := []) (s' := (70, [(8, .int x8), (0, .ref 86), (1, .int p_shop), (3, .int ((4 * p_shop) + p_thing)), (4, .int (M 88 ((4 * p_shop) + p_thing).toNatClampNeg)), (5, .int v5_3), (6, .int v6_4), (7, .int v7_5)], [.int v6_4, .int x8], zh, (zw M6 88 ((4 * p_shop) + p_thing).toNatClampNeg v7_5))) rfl trivial ?_
          refine zF_lt (t := 81) (u := (73, [(8, .int x8), (0, .ref 86), (1, .int p_shop), (3, .int ((4 * p_shop) + p_thing)), (4, .int (M 88 ((4 * p_shop) + p_thing).toNatClampNeg)), (5, .int v5_3), (6, .int v6_4), (7, .int v7_5)], [], zh, (zw M6 88 ((4 * p_shop) + p_thing).toNatClampNeg v7_5))) rfl (fun c19 => ?_) (fun c19 => ?_)
          · rw [if_pos c19] at h
            refine zF_go (n := 2) (ps := []) (s' := (40, [(7, .int (v7_5 + 1)), (0, .ref 86), (1, .int p_shop), (3, .int ((4 * p_shop) + p_thing)), (4, .int (M 88 ((4 * p_shop) + p_thing).toNatClampNeg)), (5, .int v5_3), (6, .int v6_4)], [], zh, (zw M6 88 ((4 * p_shop) + p_thing).toNatClampNeg v7_5))) rfl trivial ?_
            exact zF_as (hrec7 _ _ h) rfl
          · rw [if_neg c19] at h
            refine zF_go (n := 4) (ps := []) (s' := (81, [(6, .int x8), (5, .int v7_5), (0, .ref 86), (1, .int p_shop), (3, .int ((4 * p_shop) + p_thing)), (4, .int (M 88 ((4 * p_shop) + p_thing).toNatClampNeg)), (7, .int v7_5), (8, .int x8)], [], zh, (zw M6 88 ((4 * p_shop) + p_thing).toNatClampNeg v7_5))) rfl trivial ?_
            refine zF_go (n := 2) (ps := []) (s' := (40, [(7, .int (v7_5 + 1)), (0, .ref 86), (1, .int p_shop), (3, .int ((4 * p_shop) + p_thing)), (4, .int (M 88 ((4 * p_shop) + p_thing).toNatClampNeg)), (5, .int v7_5), (6, .int x8)], [], zh, (zw M6 88 ((4 * p_shop) + p_thing).toNatClampNeg v7_5))) rfl trivial ?_
            exact zF_as (hrec7 _ _ h) rfl
    · rw [if_pos c12] at h
      refine zF_go (n := 1) (ps := []) (s' := (16, [], [.int (-1)], zh, M)) rfl trivial ?_
      cases h
      exact zF_ret rfl trivial
noncomputable def qP_leftWithWindow (M : zM) (p_shop : Int32) (p_bits : Int32) : Option (Int32 × zM) :=
  zq (vp_in p_shop 2) <| zb (qW_learn (zw M 69 p_shop.toNatClampNeg p_bits)) fun M1 =>
  zb2 (qW_leftOf M1 p_shop) fun x2 M3 =>
  some (x2, M3)
set_option maxRecDepth 20000 in
set_option maxHeartbeats 4000000 in
theorem qP_leftWithWindow_ok {S : zSc} {M : zM} {p_shop : Int32} {p_bits : Int32} {r : Int32 × zM} (h : qP_leftWithWindow M p_shop p_bits = some r) : zF S 50 (0, [(0, .ref 76), (1, .int p_shop), (2, .int p_bits)], [], zh, M) (some (.int r.1)) (r.2) := by
  unfold qP_leftWithWindow at h
  obtain ⟨g4, h⟩ := zq_some h
  refine zF_go (n := 8) (ps := [vp_in p_shop 2]) (s' := (14, [(0, .ref 76), (1, .int p_shop), (2, .int p_bits)], [.ref 70], zh, (zw M 69 p_shop.toNatClampNeg p_bits))) rfl ⟨g4, trivial⟩ ?_
  obtain ⟨M1, e5, h⟩ := zb_some h
  refine zF_call (y' := 64) (as := [.ref 70]) (u := (17, [(0, .ref 76), (1, .int p_shop), (2, .int p_bits)], [], zh, (zw M 69 p_shop.toNatClampNeg p_bits))) rfl ⟨rfl, rfl⟩ rfl (qW_learn_ok (S := S) (M := (zw M 69 p_shop.toNatClampNeg p_bits)) e5) ?_
  show zF S 50 (17, [(0, .ref 76), (1, .int p_shop), (2, .int p_bits)], [], zh, M1) _ _
  refine zF_go (n := 3) (ps := []) (s' := (22, [(0, .ref 76), (1, .int p_shop), (2, .int p_bits)], [.int p_shop, .ref 70], zh, M1)) rfl trivial ?_
  obtain ⟨x2, M3, e6, h⟩ := zb2_some h
  refine zF_call (y' := 78) (as := [.ref 70, .int p_shop]) (u := (25, [(0, .ref 76), (1, .int p_shop), (2, .int p_bits)], [], zh, M1)) rfl ⟨rfl, rfl⟩ rfl (qW_leftOf_ok (S := S) (M := M1) e6) ?_
  show zF S 50 (25, [(0, .ref 76), (1, .int p_shop), (2, .int p_bits)], [.int x2], zh, M3) _ _
  cases h
  exact zF_ret rfl trivial
noncomputable def qJ_bitCount (p_a0 : Int32) : Option (Int32) :=
  some ((((((((p_a0 - (((p_a0.toUInt32 >>> ((1 : Int32).toUInt32 &&& Int32.toUInt32 31)).toInt32) &&& 1431655765)) &&& 858993459) + ((((p_a0 - (((p_a0.toUInt32 >>> ((1 : Int32).toUInt32 &&& Int32.toUInt32 31)).toInt32) &&& 1431655765)).toUInt32 >>> ((2 : Int32).toUInt32 &&& Int32.toUInt32 31)).toInt32) &&& 858993459)) + (((((p_a0 - (((p_a0.toUInt32 >>> ((1 : Int32).toUInt32 &&& Int32.toUInt32 31)).toInt32) &&& 1431655765)) &&& 858993459) + ((((p_a0 - (((p_a0.toUInt32 >>> ((1 : Int32).toUInt32 &&& Int32.toUInt32 31)).toInt32) &&& 1431655765)).toUInt32 >>> ((2 : Int32).toUInt32 &&& Int32.toUInt32 31)).toInt32) &&& 858993459)).toUInt32 >>> ((4 : Int32).toUInt32 &&& Int32.toUInt32 31)).toInt32)) &&& 252645135) + (((((((p_a0 - (((p_a0.toUInt32 >>> ((1 : Int32).toUInt32 &&& Int32.toUInt32 31)).toInt32) &&& 1431655765)) &&& 858993459) + ((((p_a0 - (((p_a0.toUInt32 >>> ((1 : Int32).toUInt32 &&& Int32.toUInt32 31)).toInt32) &&& 1431655765)).toUInt32 >>> ((2 : Int32).toUInt32 &&& Int32.toUInt32 31)).toInt32) &&& 858993459)) + (((((p_a0 - (((p_a0.toUInt32 >>> ((1 : Int32).toUInt32 &&& Int32.toUInt32 31)).toInt32) &&& 1431655765)) &&& 858993459) + ((((p_a0 - (((p_a0.toUInt32 >>> ((1 : Int32).toUInt32 &&& Int32.toUInt32 31)).toInt32) &&& 1431655765)).toUInt32 >>> ((2 : Int32).toUInt32 &&& Int32.toUInt32 31)).toInt32) &&& 858993459)).toUInt32 >>> ((4 : Int32).toUInt32 &&& Int32.toUInt32 31)).toInt32)) &&& 252645135).toUInt32 >>> ((8 : Int32).toUInt32 &&& Int32.toUInt32 31)).toInt32)) + ((((((((p_a0 - (((p_a0.toUInt32 >>> ((1 : Int32).toUInt32 &&& Int32.toUInt32 31)).toInt32) &&& 1431655765)) &&& 858993459) + ((((p_a0 - (((p_a0.toUInt32 >>> ((1 : Int32).toUInt32 &&& Int32.toUInt32 31)).toInt32) &&& 1431655765)).toUInt32 >>> ((2 : Int32).toUInt32 &&& Int32.toUInt32 31)).toInt32) &&& 858993459)) + (((((p_a0 - (((p_a0.toUInt32 >>> ((1 : Int32).toUInt32 &&& Int32.toUInt32 31)).toInt32) &&& 1431655765)) &&& 858993459) + ((((p_a0 - (((p_a0.toUInt32 >>> ((1 : Int32).toUInt32 &&& Int32.toUInt32 31)).toInt32) &&& 1431655765)).toUInt32 >>> ((2 : Int32).toUInt32 &&& Int32.toUInt32 31)).toInt32) &&& 858993459)).toUInt32 >>> ((4 : Int32).toUInt32 &&& Int32.toUInt32 31)).toInt32)) &&& 252645135) + (((((((p_a0 - (((p_a0.toUInt32 >>> ((1 : Int32).toUInt32 &&& Int32.toUInt32 31)).toInt32) &&& 1431655765)) &&& 858993459) + ((((p_a0 - (((p_a0.toUInt32 >>> ((1 : Int32).toUInt32 &&& Int32.toUInt32 31)).toInt32) &&& 1431655765)).toUInt32 >>> ((2 : Int32).toUInt32 &&& Int32.toUInt32 31)).toInt32) &&& 858993459)) + (((((p_a0 - (((p_a0.toUInt32 >>> ((1 : Int32).toUInt32 &&& Int32.toUInt32 31)).toInt32) &&& 1431655765)) &&& 858993459) + ((((p_a0 - (((p_a0.toUInt32 >>> ((1 : Int32).toUInt32 &&& Int32.toUInt32 31)).toInt32) &&& 1431655765)).toUInt32 >>> ((2 : Int32).toUInt32 &&& Int32.toUInt32 31)).toInt32) &&& 858993459)).toUInt32 >>> ((4 : Int32).toUInt32 &&& Int32.toUInt32 31)).toInt32)) &&& 252645135).toUInt32 >>> ((8 : Int32).toUInt32 &&& Int32.toUInt32 31)).toInt32)).toUInt32 >>> ((16 : Int32).toUInt32 &&& Int32.toUInt32 31)).toInt32)) &&& 63)
set_option maxRecDepth 20000 in
set_option maxHeartbeats 4000000 in
theorem qJ_bitCount_ok {S : zSc} {M : zM} {p_a0 : Int32} {r : Int32} (h : qJ_bitCount p_a0 = some r) : zF S 210 (0, [(0, .int p_a0)], [], zh, M) (some (.int r)) (M) := by
  unfold qJ_bitCount at h
  refine zF_go (n := 41) (ps := []) (s' := (52, [(0, .int (((((((p_a0 - (((p_a0.toUInt32 >>> ((1 : Int32).toUInt32 &&& Int32.toUInt32 31)).toInt32) &&& 1431655765)) &&& 858993459) + ((((p_a0 - (((p_a0.toUInt32 >>> ((1 : Int32).toUInt32 &&& Int32.toUInt32 31)).toInt32) &&& 1431655765)).toUInt32 >>> ((2 : Int32).toUInt32 &&& Int32.toUInt32 31)).toInt32) &&& 858993459)) + (((((p_a0 - (((p_a0.toUInt32 >>> ((1 : Int32).toUInt32 &&& Int32.toUInt32 31)).toInt32) &&& 1431655765)) &&& 858993459) + ((((p_a0 - (((p_a0.toUInt32 >>> ((1 : Int32).toUInt32 &&& Int32.toUInt32 31)).toInt32) &&& 1431655765)).toUInt32 >>> ((2 : Int32).toUInt32 &&& Int32.toUInt32 31)).toInt32) &&& 858993459)).toUInt32 >>> ((4 : Int32).toUInt32 &&& Int32.toUInt32 31)).toInt32)) &&& 252645135) + (((((((p_a0 - (((p_a0.toUInt32 >>> ((1 : Int32).toUInt32 &&& Int32.toUInt32 31)).toInt32) &&& 1431655765)) &&& 858993459) + ((((p_a0 - (((p_a0.toUInt32 >>> ((1 : Int32).toUInt32 &&& Int32.toUInt32 31)).toInt32) &&& 1431655765)).toUInt32 >>> ((2 : Int32).toUInt32 &&& Int32.toUInt32 31)).toInt32) &&& 858993459)) + (((((p_a0 - (((p_a0.toUInt32 >>> ((1 : Int32).toUInt32 &&& Int32.toUInt32 31)).toInt32) &&& 1431655765)) &&& 858993459) + ((((p_a0 - (((p_a0.toUInt32 >>> ((1 : Int32).toUInt32 &&& Int32.toUInt32 31)).toInt32) &&& 1431655765)).toUInt32 >>> ((2 : Int32).toUInt32 &&& Int32.toUInt32 31)).toInt32) &&& 858993459)).toUInt32 >>> ((4 : Int32).toUInt32 &&& Int32.toUInt32 31)).toInt32)) &&& 252645135).toUInt32 >>> ((8 : Int32).toUInt32 &&& Int32.toUInt32 31)).toInt32)) + ((((((((p_a0 - (((p_a0.toUInt32 >>> ((1 : Int32).toUInt32 &&& Int32.toUInt32 31)).toInt32) &&& 1431655765)) &&& 858993459) + ((((p_a0 - (((p_a0.toUInt32 >>> ((1 : Int32).toUInt32 &&& Int32.toUInt32 31)).toInt32) &&& 1431655765)).toUInt32 >>> ((2 : Int32).toUInt32 &&& Int32.toUInt32 31)).toInt32) &&& 858993459)) + (((((p_a0 - (((p_a0.toUInt32 >>> ((1 : Int32).toUInt32 &&& Int32.toUInt32 31)).toInt32) &&& 1431655765)) &&& 858993459) + ((((p_a0 - (((p_a0.toUInt32 >>> ((1 : Int32).toUInt32 &&& Int32.toUInt32 31)).toInt32) &&& 1431655765)).toUInt32 >>> ((2 : Int32).toUInt32 &&& Int32.toUInt32 31)).toInt32) &&& 858993459)).toUInt32 >>> ((4 : Int32).toUInt32 &&& Int32.toUInt32 31)).toInt32)) &&& 252645135) + (((((((p_a0 - (((p_a0.toUInt32 >>> ((1 : Int32).toUInt32 &&& Int32.toUInt32 31)).toInt32) &&& 1431655765)) &&& 858993459) + ((((p_a0 - (((p_a0.toUInt32 >>> ((1 : Int32).toUInt32 &&& Int32.toUInt32 31)).toInt32) &&& 1431655765)).toUInt32 >>> ((2 : Int32).toUInt32 &&& Int32.toUInt32 31)).toInt32) &&& 858993459)) + (((((p_a0 - (((p_a0.toUInt32 >>> ((1 : Int32).toUInt32 &&& Int32.toUInt32 31)).toInt32) &&& 1431655765)) &&& 858993459) + ((((p_a0 - (((p_a0.toUInt32 >>> ((1 : Int32).toUInt32 &&& Int32.toUInt32 31)).toInt32) &&& 1431655765)).toUInt32 >>> ((2 : Int32).toUInt32 &&& Int32.toUInt32 31)).toInt32) &&& 858993459)).toUInt32 >>> ((4 : Int32).toUInt32 &&& Int32.toUInt32 31)).toInt32)) &&& 252645135).toUInt32 >>> ((8 : Int32).toUInt32 &&& Int32.toUInt32 31)).toInt32)).toUInt32 >>> ((16 : Int32).toUInt32 &&& Int32.toUInt32 31)).toInt32)))], [.int ((((((((p_a0 - (((p_a0.toUInt32 >>> ((1 : Int32).toUInt32 &&& Int32.toUInt32 31)).toInt32) &&& 1431655765)) &&& 858993459) + ((((p_a0 - (((p_a0.toUInt32 >>> ((1 : Int32).toUInt32 &&& Int32.toUInt32 31)).toInt32) &&& 1431655765)).toUInt32 >>> ((2 : Int32).toUInt32 &&& Int32.toUInt32 31)).toInt32) &&& 858993459)) + (((((p_a0 - (((p_a0.toUInt32 >>> ((1 : Int32).toUInt32 &&& Int32.toUInt32 31)).toInt32) &&& 1431655765)) &&& 858993459) + ((((p_a0 - (((p_a0.toUInt32 >>> ((1 : Int32).toUInt32 &&& Int32.toUInt32 31)).toInt32) &&& 1431655765)).toUInt32 >>> ((2 : Int32).toUInt32 &&& Int32.toUInt32 31)).toInt32) &&& 858993459)).toUInt32 >>> ((4 : Int32).toUInt32 &&& Int32.toUInt32 31)).toInt32)) &&& 252645135) + (((((((p_a0 - (((p_a0.toUInt32 >>> ((1 : Int32).toUInt32 &&& Int32.toUInt32 31)).toInt32) &&& 1431655765)) &&& 858993459) + ((((p_a0 - (((p_a0.toUInt32 >>> ((1 : Int32).toUInt32 &&& Int32.toUInt32 31)).toInt32) &&& 1431655765)).toUInt32 >>> ((2 : Int32).toUInt32 &&& Int32.toUInt32 31)).toInt32) &&& 858993459)) + (((((p_a0 - (((p_a0.toUInt32 >>> ((1 : Int32).toUInt32 &&& Int32.toUInt32 31)).toInt32) &&& 1431655765)) &&& 858993459) + ((((p_a0 - (((p_a0.toUInt32 >>> ((1 : Int32).toUInt32 &&& Int32.toUInt32 31)).toInt32) &&& 1431655765)).toUInt32 >>> ((2 : Int32).toUInt32 &&& Int32.toUInt32 31)).toInt32) &&& 858993459)).toUInt32 >>> ((4 : Int32).toUInt32 &&& Int32.toUInt32 31)).toInt32)) &&& 252645135).toUInt32 >>> ((8 : Int32).toUInt32 &&& Int32.toUInt32 31)).toInt32)) + ((((((((p_a0 - (((p_a0.toUInt32 >>> ((1 : Int32).toUInt32 &&& Int32.toUInt32 31)).toInt32) &&& 1431655765)) &&& 858993459) + ((((p_a0 - (((p_a0.toUInt32 >>> ((1 : Int32).toUInt32 &&& Int32.toUInt32 31)).toInt32) &&& 1431655765)).toUInt32 >>> ((2 : Int32).toUInt32 &&& Int32.toUInt32 31)).toInt32) &&& 858993459)) + (((((p_a0 - (((p_a0.toUInt32 >>> ((1 : Int32).toUInt32 &&& Int32.toUInt32 31)).toInt32) &&& 1431655765)) &&& 858993459) + ((((p_a0 - (((p_a0.toUInt32 >>> ((1 : Int32).toUInt32 &&& Int32.toUInt32 31)).toInt32) &&& 1431655765)).toUInt32 >>> ((2 : Int32).toUInt32 &&& Int32.toUInt32 31)).toInt32) &&& 858993459)).toUInt32 >>> ((4 : Int32).toUInt32 &&& Int32.toUInt32 31)).toInt32)) &&& 252645135) + (((((((p_a0 - (((p_a0.toUInt32 >>> ((1 : Int32).toUInt32 &&& Int32.toUInt32 31)).toInt32) &&& 1431655765)) &&& 858993459) + ((((p_a0 - (((p_a0.toUInt32 >>> ((1 : Int32).toUInt32 &&& Int32.toUInt32 31)).toInt32) &&& 1431655765)).toUInt32 >>> ((2 : Int32).toUInt32 &&& Int32.toUInt32 31)).toInt32) &&& 858993459)) + (((((p_a0 - (((p_a0.toUInt32 >>> ((1 : Int32).toUInt32 &&& Int32.toUInt32 31)).toInt32) &&& 1431655765)) &&& 858993459) + ((((p_a0 - (((p_a0.toUInt32 >>> ((1 : Int32).toUInt32 &&& Int32.toUInt32 31)).toInt32) &&& 1431655765)).toUInt32 >>> ((2 : Int32).toUInt32 &&& Int32.toUInt32 31)).toInt32) &&& 858993459)).toUInt32 >>> ((4 : Int32).toUInt32 &&& Int32.toUInt32 31)).toInt32)) &&& 252645135).toUInt32 >>> ((8 : Int32).toUInt32 &&& Int32.toUInt32 31)).toInt32)).toUInt32 >>> ((16 : Int32).toUInt32 &&& Int32.toUInt32 31)).toInt32)) &&& 63)], zh, M)) rfl trivial ?_
  cases h
  exact zF_ret rfl trivial
noncomputable def qP_windowFor_L22 (v5_5 : Int32) (p_shop : Int32) (rec7 : (Int32 × Int32 × Int32 × zM) → Option (Int32 × zM)) (rec12 : (Int32 × Int32 × Int32 × zM) → Option (Int32 × zM)) (v : Int32 × Int32 × Int32 × zM) : Option (Int32 × zM) := match v with
  | (v3_8, v4_9, v6_10, M11) =>
    if v6_10 < (1 <<< ((M11 63 0) &&& 31)) then
      (zb (qJ_bitCount v6_10) fun x13 =>
      zb2 (if x13 = v5_5 then
          (zb2 (qP_leftWithWindow M11 p_shop v6_10) fun x18 M19 =>
          some (x18, M19))
        else
          (some (v4_9, M11))) fun (w16 : Int32) (M17 : zM) =>
      if v4_9 < w16 then
        (rec12 (v6_10, w16, (v6_10 + 1), M17))
      else
        (rec12 (v3_8, v4_9, (v6_10 + 1), M17)))
    else
      (rec7 (v3_8, v4_9, (v5_5 + 1), M11))
noncomputable def qP_windowFor_L13 (p_limit : Int32) (p_shop : Int32) (rec7 : (Int32 × Int32 × Int32 × zM) → Option (Int32 × zM)) (v : Int32 × Int32 × Int32 × zM) : Option (Int32 × zM) := match v with
  | (v3_3, v4_4, v5_5, M6) =>
    if p_limit < v5_5 then
      (some (v3_3, M6))
    else
      (zlp (qP_windowFor_L22 v5_5 p_shop rec7) zfu (v3_3, v4_4, 1, M6))
noncomputable def qP_windowFor (M : zM) (p_shop : Int32) (p_limit : Int32) : Option (Int32 × zM) :=
  zb2 (qP_leftWithWindow M p_shop 0) fun x1 M2 =>
  zlp (qP_windowFor_L13 p_limit p_shop) zfu (0, x1, 1, M2)
set_option maxRecDepth 20000 in
set_option maxHeartbeats 4000000 in
theorem qP_windowFor_ok {S : zSc} {M : zM} {p_shop : Int32} {p_limit : Int32} {r : Int32 × zM} (h : qP_windowFor M p_shop p_limit = some r) : zF S 49 (0, [(0, .ref 76), (1, .int p_shop), (2, .int p_limit)], [], zh, M) (some (.int r.1)) (r.2) := by
  unfold qP_windowFor at h
  refine zF_go (n := 5) (ps := []) (s' := (5, [(3, .int 0), (0, .ref 76), (1, .int p_shop), (2, .int p_limit)], [.int 0, .int p_shop, .ref 76], zh, M)) rfl trivial ?_
  obtain ⟨x1, M2, e20, h⟩ := zb2_some h
  refine zF_call (y' := 50) (as := [.ref 76, .int p_shop, .int 0]) (u := (8, [(3, .int 0), (0, .ref 76), (1, .int p_shop), (2, .int p_limit)], [], zh, M)) rfl ⟨rfl, rfl⟩ rfl (qP_leftWithWindow_ok (S := S) (M := M) e20) ?_
  show zF S 49 (8, [(3, .int 0), (0, .ref 76), (1, .int p_shop), (2, .int p_limit)], [.int x1], zh, M2) _ _
  refine zF_go (n := 3) (ps := []) (s' := (13, [(5, .int 1), (4, .int x1), (3, .int 0), (0, .ref 76), (1, .int p_shop), (2, .int p_limit)], [], zh, M2)) rfl trivial ?_
  refine zF_same (s' := (13, [(0, .ref 76), (1, .int p_shop), (2, .int p_limit), (3, .int 0), (4, .int x1), (5, .int 1)], [], zh, M2)) rfl ?_
  refine zlp_ind (P := fun (v : Int32 × Int32 × Int32 × zM) r => zF S 49 (13, [(0, .ref 76), (1, .int p_shop), (2, .int p_limit), (3, .int v.1), (4, .int v.2.1), (5, .int v.2.2.1)], [], zh, v.2.2.2) (some (.int r.1)) (r.2)) ?_ _ _ _ h
  intro rec7 hrec7 v r h
  obtain ⟨v3_3, v4_4, v5_5, M6⟩ := v
  unfold qP_windowFor_L13 at h
  dsimp only at h
  show zF S 49 (13, [(0, .ref 76), (1, .int p_shop), (2, .int p_limit), (3, .int v3_3), (4, .int v4_4), (5, .int v5_5)], [], zh, M6) _ _
  refine zF_go (n := 2) (ps := []) (s' := (16, [(0, .ref 76), (1, .int p_shop), (2, .int p_limit), (3, .int v3_3), (4, .int v4_4), (5, .int v5_5)], [.int p_limit, .int v5_5], zh, M6)) rfl trivial ?_
  refine zF_gt (t := 86) (u := (19, [(0, .ref 76), (1, .int p_shop), (2, .int p_limit), (3, .int v3_3), (4, .int v4_4), (5, .int v5_5)], [], zh, M6)) rfl (fun c21 => ?_) (fun c21 => ?_)
  · rw [if_pos c21] at h
    refine zF_go (n := 1) (ps := []) (s' := (87, [(0, .ref 76), (1, .int p_shop), (2, .int p_limit), (3, .int v3_3), (4, .int v4_4), (5, .int v5_5)], [.int v3_3], zh, M6)) rfl trivial ?_
    cases h
    exact zF_ret rfl trivial
  · rw [if_neg c21] at h
    refine zF_go (n := 2) (ps := []) (s' := (22, [(6, .int 1), (0, .ref 76), (1, .int p_shop), (2, .int p_limit), (3, .int v3_3), (4, .int v4_4), (5, .int v5_5)], [], zh, M6)) rfl trivial ?_
    refine zF_same (s' := (22, [(0, .ref 76), (1, .int p_shop), (2, .int p_limit), (3, .int v3_3), (4, .int v4_4), (5, .int v5_5), (6, .int 1)], [], zh, M6)) rfl ?_
    refine zlp_ind (P := fun (v : Int32 × Int32 × Int32 × zM) r => zF S 49 (22, [(0, .ref 76), (1, .int p_shop), (2, .int p_limit), (3, .int v.1), (4, .int v.2.1), (5, .int v5_5), (6, .int v.2.2.1)], [], zh, v.2.2.2) (some (.int r.1)) (r.2)) ?_ _ _ _ h
    intro rec12 hrec12 v r h
    obtain ⟨v3_8, v4_9, v6_10, M11⟩ := v
    unfold qP_windowFor_L22 at h
    dsimp only at h
    show zF S 49 (22, [(0, .ref 76), (1, .int p_shop), (2, .int p_limit), (3, .int v3_8), (4, .int v4_9), (5, .int v5_5), (6, .int v6_10)], [], zh, M11) _ _
    refine zF_go (n := 6) (ps := []) (s' := (33, [(0, .ref 76), (1, .int p_shop), (2, .int p_limit), (3, .int v3_8), (4, .int v4_9), (5, .int v5_5), (6, .int v6_10)], [.int (1 <<< ((M11 63 0) &&& 31)), .int v6_10], zh, M11)) rfl trivial ?_
    refine zF_ge (t := 80) (u := (36, [(0, .ref 76), (1, .int p_shop), (2, .int p_limit), (3, .int v3_8), (4, .int v4_9), (5, .int v5_5), (6, .int v6_10)], [], zh, M11)) rfl (fun c22 => ?_) (fun c22 => ?_)
    · rw [if_neg c22] at h
      refine zF_go (n := 2) (ps := []) (s' := (13, [(5, .int (v5_5 + 1)), (0, .ref 76), (1, .int p_shop), (2, .int p_limit), (3, .int v3_8), (4, .int v4_9), (6, .int v6_10)], [], zh, M11)) rfl trivial ?_
      exact zF_as (hrec7 _ _ h) rfl
    · rw [if_pos c22] at h
      refine zF_go (n := 1) (ps := []) (s' := (38, [(0, .ref 76), (1, .int p_shop), (2, .int p_limit), (3, .int v3_8), (4, .int v4_9), (5, .int v5_5), (6, .int v6_10)], [.int v6_10], zh, M11)) rfl trivial ?_
      obtain ⟨x13, e23, h⟩ := zb_some h
      refine zF_call (y' := 210) (as := [.int v6_10]) (u := (41, [(0, .ref 76), (1, .int p_shop), (2, .int p_limit), (3, .int v3_8), (4, .int v4_9), (5, .int v5_5), (6, .int v6_10)], [], zh, M11)) rfl ⟨rfl, rfl⟩ rfl (qJ_bitCount_ok (S := S) (M := M11) e23) ?_
      show zF S 49 (41, [(0, .ref 76), (1, .int p_shop), (2, .int p_limit), (3, .int v3_8), (4, .int v4_9), (5, .int v5_5), (6, .int v6_10)], [.int x13], zh, M11) _ _
      refine zF_go (n := 1) (ps := []) (s' := (43, [(0, .ref 76), (1, .int p_shop), (2, .int p_limit), (3, .int v3_8), (4, .int v4_9), (5, .int v5_5), (6, .int v6_10)], [.int v5_5, .int x13], zh, M11)) rfl trivial ?_
      obtain ⟨w16, M17, g24, h⟩ := zb2_some h
      have hk25 : zF S 49 (58, [(0, .ref 76), (1, .int p_shop), (2, .int p_limit), (3, .int v3_8), (4, .int v4_9), (5, .int v5_5), (6, .int v6_10)], [.int w16], zh, M17) (some (.int r.1)) (r.2) := by
        refine zF_go (n := 3) (ps := []) (s' := (64, [(7, .int w16), (0, .ref 76), (1, .int p_shop), (2, .int p_limit), (3, .int v3_8), (4, .int v4_9), (5, .int v5_5), (6, .int v6_10)], [.int v4_9, .int w16], zh, M17)) rfl trivial ?_
        refine zF_le (t := 74) (u := (67, [(7, .int w16), (0, .ref 76), (1, .int p_shop), (2, .int p_limit), (3, .int v3_8), (4, .int v4_9), (5, .int v5_5), (6, .int v6_10)], [], zh, M17)) rfl (fun c26 => ?_) (fun c26 => ?_)
        · rw [if_neg c26] at h
          refine zF_go (n := 2) (ps := []) (s' := (22, [(6, .int (v6_10 + 1)), (0, .ref 76), (1, .int p_shop), (2, .int p_limit), (3, .int v3_8), (4, .int v4_9), (5, .int v5_5)], [], zh, M17)) rfl trivial ?_
          exact zF_as (hrec12 _ _ h) rfl
        · rw [if_pos c26] at h
          refine zF_go (n := 4) (ps := []) (s' := (74, [(4, .int w16), (3, .int v6_10), (7, .int w16), (0, .ref 76), (1, .int p_shop), (2, .int p_limit), (5, .int v5_5), (6, .int v6_10)], [], zh, M17)) rfl trivial ?_
          refine zF_go (n := 2) (ps := []) (s' := (22, [(6, .int (v6_10 + 1)), (0, .ref 76), (1, .int p_shop), (2, .int p_limit), (3, .int v6_10), (4, .int w16), (5, .int v5_5)], [], zh, M17)) rfl trivial ?_
          exact zF_as (hrec12 _ _ h) rfl
      refine zF_ne (t := 56) (u := (46, [(0, .ref 76), (1, .int p_shop), (2, .int p_limit), (3, .int v3_8), (4, .int v4_9), (5, .int v5_5), (6, .int v6_10)], [], zh, M11)) rfl (fun c27 => ?_) (fun c27 => ?_)
      · rw [if_neg c27] at g24
        refine zF_go (n := 1) (ps := []) (s' := (58, [(0, .ref 76), (1, .int p_shop), (2, .int p_limit), (3, .int v3_8), (4, .int v4_9), (5, .int v5_5), (6, .int v6_10)], [.int v4_9], zh, M11)) rfl trivial ?_
        cases g24
        exact zF_as hk25 rfl
      · rw [if_pos c27] at g24
        refine zF_go (n := 3) (ps := []) (s' := (50, [(0, .ref 76), (1, .int p_shop), (2, .int p_limit), (3, .int v3_8), (4, .int v4_9), (5, .int v5_5), (6, .int v6_10)], [.int v6_10, .int p_shop, .ref 76], zh, M11)) rfl trivial ?_
        obtain ⟨x18, M19, e28, g24⟩ := zb2_some g24
        refine zF_call (y' := 50) (as := [.ref 76, .int p_shop, .int v6_10]) (u := (53, [(0, .ref 76), (1, .int p_shop), (2, .int p_limit), (3, .int v3_8), (4, .int v4_9), (5, .int v5_5), (6, .int v6_10)], [], zh, M11)) rfl ⟨rfl, rfl⟩ rfl (qP_leftWithWindow_ok (S := S) (M := M11) e28) ?_
        show zF S 49 (53, [(0, .ref 76), (1, .int p_shop), (2, .int p_limit), (3, .int v3_8), (4, .int v4_9), (5, .int v5_5), (6, .int v6_10)], [.int x18], zh, M19) _ _
        refine zF_go (n := 1) (ps := []) (s' := (58, [(0, .ref 76), (1, .int p_shop), (2, .int p_limit), (3, .int v3_8), (4, .int v4_9), (5, .int v5_5), (6, .int v6_10)], [.int x18], zh, M19)) rfl trivial ?_
        cases g24
        exact zF_as hk25 rfl
noncomputable def qS_shown (M : zM) (p_shop : Int32) (p_k : Int32) : Option (Int32 × zM) :=
  zb (qS_noShop p_shop) fun x1 =>
  if x1 = 0 then
    (zb (qS_isOut p_k 0 4) fun x2 =>
    if x2 = 0 then
      (zb (qS_lookAsItIs M) fun M3 =>
      zb2 (qP_windowFor M3 p_shop p_k) fun x4 M5 =>
      some (x4, M5))
    else
      (some ((-2), M)))
  else
    (some ((-1), M))
set_option maxRecDepth 20000 in
set_option maxHeartbeats 4000000 in
theorem qS_shown_ok {S : zSc} {M : zM} {p_shop : Int32} {p_k : Int32} {r : Int32 × zM} (h : qS_shown M p_shop p_k = some r) : zF S 114 (0, [(0, .ref 1), (1, .int p_shop), (2, .int p_k)], [], zh, M) (some (.int r.1)) (r.2) := by
  unfold qS_shown at h
  refine zF_go (n := 1) (ps := []) (s' := (1, [(0, .ref 1), (1, .int p_shop), (2, .int p_k)], [.int p_shop], zh, M)) rfl trivial ?_
  obtain ⟨x1, e6, h⟩ := zb_some h
  refine zF_call (y' := 126) (as := [.int p_shop]) (u := (4, [(0, .ref 1), (1, .int p_shop), (2, .int p_k)], [], zh, M)) rfl ⟨rfl, rfl⟩ rfl (qS_noShop_ok (S := S) (M := M) e6) ?_
  show zF S 114 (4, [(0, .ref 1), (1, .int p_shop), (2, .int p_k)], [.int x1], zh, M) _ _
  refine zF_eq (t := 9) (u := (7, [(0, .ref 1), (1, .int p_shop), (2, .int p_k)], [], zh, M)) rfl (fun c7 => ?_) (fun c7 => ?_)
  · rw [if_pos c7] at h
    refine zF_go (n := 3) (ps := []) (s' := (12, [(0, .ref 1), (1, .int p_shop), (2, .int p_k)], [.int 4, .int 0, .int p_k], zh, M)) rfl trivial ?_
    obtain ⟨x2, e8, h⟩ := zb_some h
    refine zF_call (y' := 125) (as := [.int p_k, .int 0, .int 4]) (u := (15, [(0, .ref 1), (1, .int p_shop), (2, .int p_k)], [], zh, M)) rfl ⟨rfl, rfl⟩ rfl (qS_isOut_ok (S := S) (M := M) e8) ?_
    show zF S 114 (15, [(0, .ref 1), (1, .int p_shop), (2, .int p_k)], [.int x2], zh, M) _ _
    refine zF_eq (t := 21) (u := (18, [(0, .ref 1), (1, .int p_shop), (2, .int p_k)], [], zh, M)) rfl (fun c9 => ?_) (fun c9 => ?_)
    · rw [if_pos c9] at h
      refine zF_go (n := 1) (ps := []) (s' := (22, [(0, .ref 1), (1, .int p_shop), (2, .int p_k)], [.ref 1], zh, M)) rfl trivial ?_
      obtain ⟨M3, e10, h⟩ := zb_some h
      refine zF_call (y' := 132) (as := [.ref 1]) (u := (25, [(0, .ref 1), (1, .int p_shop), (2, .int p_k)], [], zh, M)) rfl ⟨rfl, rfl⟩ rfl (qS_lookAsItIs_ok (S := S) (M := M) e10) ?_
      show zF S 114 (25, [(0, .ref 1), (1, .int p_shop), (2, .int p_k)], [], zh, M3) _ _
      refine zF_go (n := 4) (ps := []) (s' := (31, [(0, .ref 1), (1, .int p_shop), (2, .int p_k)], [.int p_k, .int p_shop, .ref 76], zh, M3)) rfl trivial ?_
      obtain ⟨x4, M5, e11, h⟩ := zb2_some h
      refine zF_call (y' := 49) (as := [.ref 76, .int p_shop, .int p_k]) (u := (34, [(0, .ref 1), (1, .int p_shop), (2, .int p_k)], [], zh, M3)) rfl ⟨rfl, rfl⟩ rfl (qP_windowFor_ok (S := S) (M := M3) e11) ?_
      show zF S 114 (34, [(0, .ref 1), (1, .int p_shop), (2, .int p_k)], [.int x4], zh, M5) _ _
      cases h
      exact zF_ret rfl trivial
    · rw [if_neg c9] at h
      refine zF_go (n := 1) (ps := []) (s' := (20, [(0, .ref 1), (1, .int p_shop), (2, .int p_k)], [.int (-2)], zh, M)) rfl trivial ?_
      cases h
      exact zF_ret rfl trivial
  · rw [if_neg c7] at h
    refine zF_go (n := 1) (ps := []) (s' := (8, [(0, .ref 1), (1, .int p_shop), (2, .int p_k)], [.int (-1)], zh, M)) rfl trivial ?_
    cases h
    exact zF_ret rfl trivial
noncomputable def qM_ones_L4 (p_bits : Int32) (rec3 : (Int32 × Int32) → Option (Int32)) (v : Int32 × Int32) : Option (Int32) := match v with
  | (v1_1, v2_2) =>
    if v2_2 < 4 then
      (rec3 ((v1_1 + ((p_bits >>> (v2_2 &&& 31)) &&& 1)), (v2_2 + 1)))
    else
      (some v1_1)
noncomputable def qM_ones (p_bits : Int32) : Option (Int32) :=
  zlp (qM_ones_L4 p_bits) zfu (0, 0)
set_option maxRecDepth 20000 in
set_option maxHeartbeats 4000000 in
theorem qM_ones_ok {S : zSc} {M : zM} {p_bits : Int32} {r : Int32} (h : qM_ones p_bits = some r) : zF S 135 (0, [(0, .int p_bits)], [], zh, M) (some (.int r)) (M) := by
  unfold qM_ones at h
  refine zF_go (n := 4) (ps := []) (s' := (4, [(2, .int 0), (1, .int 0), (0, .int p_bits)], [], zh, M)) rfl trivial ?_
  refine zF_same (s' := (4, [(0, .int p_bits), (1, .int 0), (2, .int 0)], [], zh, M)) rfl ?_
  refine zlp_ind (P := fun (v : Int32 × Int32) r => zF S 135 (4, [(0, .int p_bits), (1, .int v.1), (2, .int v.2)], [], zh, M) (some (.int r)) (M)) ?_ _ _ _ h
  intro rec3 hrec3 v r h
  obtain ⟨v1_1, v2_2⟩ := v
  unfold qM_ones_L4 at h
  dsimp only at h
  show zF S 135 (4, [(0, .int p_bits), (1, .int v1_1), (2, .int v2_2)], [], zh, M) _ _
  refine zF_go (n := 2) (ps := []) (s' := (6, [(0, .int p_bits), (1, .int v1_1), (2, .int v2_2)], [.int 4, .int v2_2], zh, M)) rfl trivial ?_
  refine zF_ge (t := 23) (u := (9, [(0, .int p_bits), (1, .int v1_1), (2, .int v2_2)], [], zh, M)) rfl (fun c4 => ?_) (fun c4 => ?_)
  · rw [if_neg c4] at h
    refine zF_go (n := 1) (ps := []) (s' := (24, [(0, .int p_bits), (1, .int v1_1), (2, .int v2_2)], [.int v1_1], zh, M)) rfl trivial ?_
    cases h
    exact zF_ret rfl trivial
  · rw [if_pos c4] at h
    refine zF_go (n := 10) (ps := []) (s' := (4, [(2, .int (v2_2 + 1)), (1, .int (v1_1 + ((p_bits >>> (v2_2 &&& 31)) &&& 1))), (0, .int p_bits)], [], zh, M)) rfl trivial ?_
    exact zF_as (hrec3 _ _ h) rfl
noncomputable def qM_shown_L41 (p_k : Int32) (p_shop : Int32) (M : zM) (rec7 : (Int32 × Int32 × Int32 × zM) → Option (Int32 × zM)) (v : Int32 × Int32 × Int32 × zM) : Option (Int32 × zM) := match v with
  | (v4_3, v5_4, v6_5, M6) =>
    if v6_5 < (1 <<< ((M6 86 6) &&& 31)) then
      (zb (qM_ones v6_5) fun x8 =>
      if p_k < x8 then
        (rec7 (v4_3, v5_4, (v6_5 + 1), M6))
      else
        (zq (vp_in p_shop 2) <| zb (qM_leftOf (zw M6 90 p_shop.toNatClampNeg v6_5) p_shop) fun x9 =>
        if v4_3 < 0 then
          (rec7 (v6_5, x9, (v6_5 + 1), (zw M6 90 p_shop.toNatClampNeg v6_5)))
        else
          (if v5_4 < x9 then
            (rec7 (v6_5, x9, (v6_5 + 1), (zw M6 90 p_shop.toNatClampNeg v6_5)))
          else
            (if x9 = v5_4 then
              (zb (qM_ones v6_5) fun x10 =>
              zb (qM_ones v4_3) fun x11 =>
              if x10 < x11 then
                (rec7 (v6_5, x9, (v6_5 + 1), (zw M6 90 p_shop.toNatClampNeg v6_5)))
              else
                (rec7 (v4_3, v5_4, (v6_5 + 1), (zw M6 90 p_shop.toNatClampNeg v6_5))))
            else
              (rec7 (v4_3, v5_4, (v6_5 + 1), (zw M6 90 p_shop.toNatClampNeg v6_5)))))))
    else
      (zq (vp_in p_shop 2) <| some (v4_3, (zw M6 90 p_shop.toNatClampNeg (M 90 p_shop.toNatClampNeg))))
noncomputable def qM_shown (M : zM) (p_shop : Int32) (p_k : Int32) : Option (Int32 × zM) :=
  zb (qM_isShop p_shop) fun x1 =>
  if x1 = 0 then
    (some ((-1), M))
  else
    (zb (qM_in p_k.toInt64 0 4) fun x2 =>
    if x2 = 0 then
      (some ((-2), M))
    else
      (zq (vp_in p_shop 2) <| zlp (qM_shown_L41 p_k p_shop M) zfu ((-6), 0, 0, M)))
set_option maxRecDepth 20000 in
set_option maxHeartbeats 4000000 in
theorem qM_shown_ok {S : zSc} {M : zM} {p_shop : Int32} {p_k : Int32} {r : Int32 × zM} (h : qM_shown M p_shop p_k = some r) : zF S 195 (0, [(0, .ref 86), (1, .int p_shop), (2, .int p_k)], [], zh, M) (some (.int r.1)) (r.2) := by
  unfold qM_shown at h
  refine zF_go (n := 1) (ps := []) (s' := (1, [(0, .ref 86), (1, .int p_shop), (2, .int p_k)], [.int p_shop], zh, M)) rfl trivial ?_
  obtain ⟨x1, e12, h⟩ := zb_some h
  refine zF_call (y' := 136) (as := [.int p_shop]) (u := (4, [(0, .ref 86), (1, .int p_shop), (2, .int p_k)], [], zh, M)) rfl ⟨rfl, rfl⟩ rfl (qM_isShop_ok (S := S) (M := M) e12) ?_
  show zF S 195 (4, [(0, .ref 86), (1, .int p_shop), (2, .int p_k)], [.int x1], zh, M) _ _
  refine zF_ne (t := 9) (u := (7, [(0, .ref 86), (1, .int p_shop), (2, .int p_k)], [], zh, M)) rfl (fun c13 => ?_) (fun c13 => ?_)
  · rw [if_neg c13] at h
    refine zF_go (n := 4) (ps := []) (s' := (15, [(0, .ref 86), (1, .int p_shop), (2, .int p_k)], [.long 4, .long 0, .long p_k.toInt64], zh, M)) rfl trivial ?_
    obtain ⟨x2, e14, h⟩ := zb_some h
    refine zF_call (y' := 134) (as := [.long p_k.toInt64, .long 0, .long 4]) (u := (18, [(0, .ref 86), (1, .int p_shop), (2, .int p_k)], [], zh, M)) rfl ⟨rfl, rfl⟩ rfl (qM_in_ok (S := S) (M := M) e14) ?_
    show zF S 195 (18, [(0, .ref 86), (1, .int p_shop), (2, .int p_k)], [.int x2], zh, M) _ _
    refine zF_ne (t := 24) (u := (21, [(0, .ref 86), (1, .int p_shop), (2, .int p_k)], [], zh, M)) rfl (fun c15 => ?_) (fun c15 => ?_)
    · rw [if_neg c15] at h
      obtain ⟨g16, h⟩ := zq_some h
      refine zF_go (n := 11) (ps := [vp_in p_shop 2]) (s' := (41, [(6, .int 0), (5, .int 0), (4, .int (-6)), (3, .int (M 90 p_shop.toNatClampNeg)), (0, .ref 86), (1, .int p_shop), (2, .int p_k)], [], zh, M)) rfl ⟨g16, trivial⟩ ?_
      refine zF_same (s' := (41, [(0, .ref 86), (1, .int p_shop), (2, .int p_k), (3, .int (M 90 p_shop.toNatClampNeg)), (4, .int (-6)), (5, .int 0), (6, .int 0)], [], zh, M)) rfl ?_
      refine zlp_ind (P := fun (v : Int32 × Int32 × Int32 × zM) r => zF S 195 (41, [(0, .ref 86), (1, .int p_shop), (2, .int p_k), (3, .int (M 90 p_shop.toNatClampNeg)), (4, .int v.1), (5, .int v.2.1), (6, .int v.2.2.1)], [], zh, v.2.2.2) (some (.int r.1)) (r.2)) ?_ _ _ _ h
      intro rec7 hrec7 v r h
      obtain ⟨v4_3, v5_4, v6_5, M6⟩ := v
      unfold qM_shown_L41 at h
      dsimp only at h
      show zF S 195 (41, [(0, .ref 86), (1, .int p_shop), (2, .int p_k), (3, .int (M 90 p_shop.toNatClampNeg)), (4, .int v4_3), (5, .int v5_4), (6, .int v6_5)], [], zh, M6) _ _
      refine zF_go (n := 5) (ps := []) (s' := (49, [(0, .ref 86), (1, .int p_shop), (2, .int p_k), (3, .int (M 90 p_shop.toNatClampNeg)), (4, .int v4_3), (5, .int v5_4), (6, .int v6_5)], [.int (1 <<< ((M6 86 6) &&& 31)), .int v6_5], zh, M6)) rfl trivial ?_
      refine zF_ge (t := 122) (u := (52, [(0, .ref 86), (1, .int p_shop), (2, .int p_k), (3, .int (M 90 p_shop.toNatClampNeg)), (4, .int v4_3), (5, .int v5_4), (6, .int v6_5)], [], zh, M6)) rfl (fun c17 => ?_) (fun c17 => ?_)
      · rw [if_neg c17] at h
        obtain ⟨g18, h⟩ := zq_some h
        refine zF_go (n := 6) (ps := [vp_in p_shop 2]) (s' := (131, [(0, .ref 86), (1, .int p_shop), (2, .int p_k), (3, .int (M 90 p_shop.toNatClampNeg)), (4, .int v4_3), (5, .int v5_4), (6, .int v6_5)], [.int v4_3], zh, (zw M6 90 p_shop.toNatClampNeg (M 90 p_shop.toNatClampNeg)))) rfl ⟨g18, trivial⟩ ?_
        cases h
        exact zF_ret rfl trivial
      · rw [if_pos c17] at h
        refine zF_go (n := 1) (ps := []) (s' := (54, [(0, .ref 86), (1, .int p_shop), (2, .int p_k), (3, .int (M 90 p_shop.toNatClampNeg)), (4, .int v4_3), (5, .int v5_4), (6, .int v6_5)], [.int v6_5], zh, M6)) rfl trivial ?_
        obtain ⟨x8, e19, h⟩ := zb_some h
        refine zF_call (y' := 135) (as := [.int v6_5]) (u := (57, [(0, .ref 86), (1, .int p_shop), (2, .int p_k), (3, .int (M 90 p_shop.toNatClampNeg)), (4, .int v4_3), (5, .int v5_4), (6, .int v6_5)], [], zh, M6)) rfl ⟨rfl, rfl⟩ rfl (qM_ones_ok (S := S) (M := M6) e19) ?_
        show zF S 195 (57, [(0, .ref 86), (1, .int p_shop), (2, .int p_k), (3, .int (M 90 p_shop.toNatClampNeg)), (4, .int v4_3), (5, .int v5_4), (6, .int v6_5)], [.int x8], zh, M6) _ _
        refine zF_go (n := 1) (ps := []) (s' := (58, [(0, .ref 86), (1, .int p_shop), (2, .int p_k), (3, .int (M 90 p_shop.toNatClampNeg)), (4, .int v4_3), (5, .int v5_4), (6, .int v6_5)], [.int p_k, .int x8], zh, M6)) rfl trivial ?_
        refine zF_gt (t := 116) (u := (61, [(0, .ref 86), (1, .int p_shop), (2, .int p_k), (3, .int (M 90 p_shop.toNatClampNeg)), (4, .int v4_3), (5, .int v5_4), (6, .int v6_5)], [], zh, M6)) rfl (fun c20 => ?_) (fun c20 => ?_)
        · rw [if_pos c20] at h
          refine zF_go (n := 2) (ps := []) (s' := (41, [(6, .int (v6_5 + 1)), (0, .ref 86), (1, .int p_shop), (2, .int p_k), (3, .int (M 90 p_shop.toNatClampNeg)), (4, .int v4_3), (5, .int v5_4)], [], zh, M6)) rfl trivial ?_
          exact zF_as (hrec7 _ _ h) rfl
        · rw [if_neg c20] at h
          obtain ⟨g21, h⟩ := zq_some h
          refine zF_go (n := 7) (ps := [vp_in p_shop 2]) (s' := (71, [(0, .ref 86), (1, .int p_shop), (2, .int p_k), (3, .int (M 90 p_shop.toNatClampNeg)), (4, .int v4_3), (5, .int v5_4), (6, .int v6_5)], [.int p_shop, .ref 86], zh, (zw M6 90 p_shop.toNatClampNeg v6_5))) rfl ⟨g21, trivial⟩ ?_
          obtain ⟨x9, e22, h⟩ := zb_some h
          refine zF_call (y' := 172) (as := [.ref 86, .int p_shop]) (u := (74, [(0, .ref 86), (1, .int p_shop), (2, .int p_k), (3, .int (M 90 p_shop.toNatClampNeg)), (4, .int v4_3), (5, .int v5_4), (6, .int v6_5)], [], zh, (zw M6 90 p_shop.toNatClampNeg v6_5))) rfl ⟨rfl, rfl⟩ rfl (qM_leftOf_ok (S := S) (M := (zw M6 90 p_shop.toNatClampNeg v6_5)) e22) ?_
          show zF S 195 (74, [(0, .ref 86), (1, .int p_shop), (2, .int p_k), (3, .int (M 90 p_shop.toNatClampNeg)), (4, .int v4_3), (5, .int v5_4), (6, .int v6_5)], [.int x9], zh, (zw M6 90 p_shop.toNatClampNeg v6_5)) _ _
          refine zF_go (n := 2) (ps := []) (s' := (78, [(7, .int x9), (0, .ref 86), (1, .int p_shop), (2, .int p_k), (3, .int (M 90 p_shop.toNatClampNeg)), (4, .int v4_3), (5, .int v5_4), (6, .int v6_5)], [.int v4_3], zh, (zw M6 90 p_shop.toNatClampNeg v6_5))) rfl trivial ?_
          refine zF_lt (t := 108) (u := (81, [(7, .int x9), (0, .ref 86), (1, .int p_shop), (2, .int p_k), (3, .int (M 90 p_shop.toNatClampNeg)), (4, .int v4_3), (5, .int v5_4), (6, .int v6_5)], [], zh, (zw M6 90 p_shop.toNatClampNeg v6_5))) rfl (fun c23 => ?_) (fun c23 => ?_)
          · rw [if_pos c23] at h
            refine zF_go (n := 4) (ps := []) (s' := (116, [(5, .int x9), (4, .int v6_5), (0, .ref 86), (1, .int p_shop), (2, .int p_k), (3, .int (M 90 p_shop.toNatClampNeg)), (6, .int v6_5), (7, .int x9)], [], zh, (zw M6 90 p_shop.toNatClampNeg v6_5))) rfl trivial ?_
            refine zF_go (n := 2) (ps := []) (s' := (41, [(6, .int (v6_5 + 1)), (0, .ref 86), (1, .int p_shop), (2, .int p_k), (3, .int (M 90 p_shop.toNatClampNeg)), (4, .int v6_5), (5, .int x9)], [], zh, (zw M6 90 p_shop.toNatClampNeg v6_5))) rfl trivial ?_
            exact zF_as (hrec7 _ _ h) rfl
          · rw [if_neg c23] at h
            refine zF_go (n := 2) (ps := []) (s' := (85, [(7, .int x9), (0, .ref 86), (1, .int p_shop), (2, .int p_k), (3, .int (M 90 p_shop.toNatClampNeg)), (4, .int v4_3), (5, .int v5_4), (6, .int v6_5)], [.int v5_4, .int x9], zh, (zw M6 90 p_shop.toNatClampNeg v6_5))) rfl trivial ?_
            refine zF_gt (t := 108) (u := (88, [(7, .int x9), (0, .ref 86), (1, .int p_shop), (2, .int p_k), (3, .int (M 90 p_shop.toNatClampNeg)), (4, .int v4_3), (5, .int v5_4), (6, .int v6_5)], [], zh, (zw M6 90 p_shop.toNatClampNeg v6_5))) rfl (fun c24 => ?_) (fun c24 => ?_)
            · rw [if_pos c24] at h
              refine zF_go (n := 4) (ps := []) (s' := (116, [(5, .int x9), (4, .int v6_5), (0, .ref 86), (1, .int p_shop), (2, .int p_k), (3, .int (M 90 p_shop.toNatClampNeg)), (6, .int v6_5), (7, .int x9)], [], zh, (zw M6 90 p_shop.toNatClampNeg v6_5))) rfl trivial ?_
              refine zF_go (n := 2) (ps := []) (s' := (41, [(6, .int (v6_5 + 1)), (0, .ref 86), (1, .int p_shop), (2, .int p_k), (3, .int (M 90 p_shop.toNatClampNeg)), (4, .int v6_5), (5, .int x9)], [], zh, (zw M6 90 p_shop.toNatClampNeg v6_5))) rfl trivial ?_
              exact zF_as (hrec7 _ _ h) rfl
            · rw [if_neg c24] at h
              refine zF_go (n := 2) (ps := []) (s' := (92, [(7, .int x9), (0, .ref 86), (1, .int p_shop), (2, .int p_k), (3, .int (M 90 p_shop.toNatClampNeg)), (4, .int v4_3), (5, .int v5_4), (6, .int v6_5)], [.int v5_4, .int x9], zh, (zw M6 90 p_shop.toNatClampNeg v6_5))) rfl trivial ?_
              refine zF_ne (t := 116) (u := (95, [(7, .int x9), (0, .ref 86), (1, .int p_shop), (2, .int p_k), (3, .int (M 90 p_shop.toNatClampNeg)), (4, .int v4_3), (5, .int v5_4), (6, .int v6_5)], [], zh, (zw M6 90 p_shop.toNatClampNeg v6_5))) rfl (fun c25 => ?_) (fun c25 => ?_)
              · rw [if_neg c25] at h
                refine zF_go (n := 2) (ps := []) (s' := (41, [(6, .int (v6_5 + 1)), (0, .ref 86), (1, .int p_shop), (2, .int p_k), (3, .int (M 90 p_shop.toNatClampNeg)), (4, .int v4_3), (5, .int v5_4)], [], zh, (zw M6 90 p_shop.toNatClampNeg v6_5))) rfl trivial ?_
                exact zF_as (hrec7 _ _ h) rfl
              · rw [if_pos c25] at h
                refine zF_go (n := 1) (ps := []) (s' := (97, [(7, .int x9), (0, .ref 86), (1, .int p_shop), (2, .int p_k), (3, .int (M 90 p_shop.toNatClampNeg)), (4, .int v4_3), (5, .int v5_4), (6, .int v6_5)], [.int v6_5], zh, (zw M6 90 p_shop.toNatClampNeg v6_5))) rfl trivial ?_
                obtain ⟨x10, e26, h⟩ := zb_some h
                refine zF_call (y' := 135) (as := [.int v6_5]) (u := (100, [(7, .int x9), (0, .ref 86), (1, .int p_shop), (2, .int p_k), (3, .int (M 90 p_shop.toNatClampNeg)), (4, .int v4_3), (5, .int v5_4), (6, .int v6_5)], [], zh, (zw M6 90 p_shop.toNatClampNeg v6_5))) rfl ⟨rfl, rfl⟩ rfl (qM_ones_ok (S := S) (M := (zw M6 90 p_shop.toNatClampNeg v6_5)) e26) ?_
                show zF S 195 (100, [(7, .int x9), (0, .ref 86), (1, .int p_shop), (2, .int p_k), (3, .int (M 90 p_shop.toNatClampNeg)), (4, .int v4_3), (5, .int v5_4), (6, .int v6_5)], [.int x10], zh, (zw M6 90 p_shop.toNatClampNeg v6_5)) _ _
                refine zF_go (n := 1) (ps := []) (s' := (102, [(7, .int x9), (0, .ref 86), (1, .int p_shop), (2, .int p_k), (3, .int (M 90 p_shop.toNatClampNeg)), (4, .int v4_3), (5, .int v5_4), (6, .int v6_5)], [.int v4_3, .int x10], zh, (zw M6 90 p_shop.toNatClampNeg v6_5))) rfl trivial ?_
                obtain ⟨x11, e27, h⟩ := zb_some h
                refine zF_call (y' := 135) (as := [.int v4_3]) (u := (105, [(7, .int x9), (0, .ref 86), (1, .int p_shop), (2, .int p_k), (3, .int (M 90 p_shop.toNatClampNeg)), (4, .int v4_3), (5, .int v5_4), (6, .int v6_5)], [.int x10], zh, (zw M6 90 p_shop.toNatClampNeg v6_5))) rfl ⟨rfl, rfl⟩ rfl (qM_ones_ok (S := S) (M := (zw M6 90 p_shop.toNatClampNeg v6_5)) e27) ?_
                show zF S 195 (105, [(7, .int x9), (0, .ref 86), (1, .int p_shop), (2, .int p_k), (3, .int (M 90 p_shop.toNatClampNeg)), (4, .int v4_3), (5, .int v5_4), (6, .int v6_5)], [.int x11, .int x10], zh, (zw M6 90 p_shop.toNatClampNeg v6_5)) _ _
                refine zF_ge (t := 116) (u := (108, [(7, .int x9), (0, .ref 86), (1, .int p_shop), (2, .int p_k), (3, .int (M 90 p_shop.toNatClampNeg)), (4, .int v4_3), (5, .int v5_4), (6, .int v6_5)], [], zh, (zw M6 90 p_shop.toNatClampNeg v6_5))) rfl (fun c28 => ?_) (fun c28 => ?_)
                · rw [if_neg c28] at h
                  refine zF_go (n := 2) (ps := []) (s' := (41, [(6, .int (v6_5 + 1)), (0, .ref 86), (1, .int p_shop), (2, .int p_k), (3, .int (M 90 p_shop.toNatClampNeg)), (4, .int v4_3), (5, .int v5_4)], [], zh, (zw M6 90 p_shop.toNatClampNeg v6_5))) rfl trivial ?_
                  exact zF_as (hrec7 _ _ h) rfl
                · rw [if_pos c28] at h
                  refine zF_go (n := 4) (ps := []) (s' := (116, [(5, .int x9), (4, .int v6_5), (0, .ref 86), (1, .int p_shop), (2, .int p_k), (3, .int (M 90 p_shop.toNatClampNeg)), (6, .int v6_5), (7, .int x9)], [], zh, (zw M6 90 p_shop.toNatClampNeg v6_5))) rfl trivial ?_
                  refine zF_go (n := 2) (ps := []) (s' := (41, [(6, .int (v6_5 + 1)), (0, .ref 86), (1, .int p_shop), (2, .int p_k), (3, .int (M 90 p_shop.toNatClampNeg)), (4, .int v6_5), (5, .int x9)], [], zh, (zw M6 90 p_shop.toNatClampNeg v6_5))) rfl trivial ?_
                  exact zF_as (hrec7 _ _ h) rfl
    · rw [if_pos c15] at h
      refine zF_go (n := 1) (ps := []) (s' := (23, [(0, .ref 86), (1, .int p_shop), (2, .int p_k)], [.int (-2)], zh, M)) rfl trivial ?_
      cases h
      exact zF_ret rfl trivial
  · rw [if_pos c13] at h
    refine zF_go (n := 1) (ps := []) (s' := (8, [(0, .ref 86), (1, .int p_shop), (2, .int p_k)], [.int (-1)], zh, M)) rfl trivial ?_
    cases h
    exact zF_ret rfl trivial
noncomputable def qS_hurt_L41 (x3 : Int32) (x5 : Int32) (rec10 : (Int32 × Int32 × zM) → Option (Int32 × zM)) (v : Int32 × Int32 × zM) : Option (Int32 × zM) := match v with
  | (v3_7, v4_8, M9) =>
    if v4_8 < (M9 10 0) then
      (zb (qG_putRow M9 0 x3) fun M11 =>
      zb2 (qW_savedBy M11 v4_8) fun x12 M13 =>
      zb (qG_putRow M13 0 x5) fun M14 =>
      zb2 (qW_savedBy M14 v4_8) fun x15 M16 =>
      if x12 < x15 then
        (rec10 ((v3_7 ||| (1 <<< (v4_8 &&& 31))), (v4_8 + 1), M16))
      else
        (rec10 (v3_7, (v4_8 + 1), M16)))
    else
      (some (v3_7, M9))
noncomputable def qS_hurt (M : zM) : Option (Int32 × zM) :=
  zb (qS_forbidsAll M 0 1) fun x1 =>
  if x1 = 0 then
    (zb (qS_lookAsItIs M) fun M2 =>
    zb2 (qP_bestRow M2 0 1) fun x3 M4 =>
    zb2 (qP_bestRow M4 0 0) fun x5 M6 =>
    zlp (qS_hurt_L41 x3 x5) zfu (0, 0, M6))
  else
    (some ((-5), M))
set_option maxRecDepth 20000 in
set_option maxHeartbeats 4000000 in
theorem qS_hurt_ok {S : zSc} {M : zM} {r : Int32 × zM} (h : qS_hurt M = some r) : zF S 115 (0, [(0, .ref 1)], [], zh, M) (some (.int r.1)) (r.2) := by
  unfold qS_hurt at h
  refine zF_go (n := 3) (ps := []) (s' := (3, [(0, .ref 1)], [.int 1, .int 0, .ref 1], zh, M)) rfl trivial ?_
  obtain ⟨x1, e17, h⟩ := zb_some h
  refine zF_call (y' := 130) (as := [.ref 1, .int 0, .int 1]) (u := (6, [(0, .ref 1)], [], zh, M)) rfl ⟨rfl, rfl⟩ rfl (qS_forbidsAll_ok (S := S) (M := M) e17) ?_
  show zF S 115 (6, [(0, .ref 1)], [.int x1], zh, M) _ _
  refine zF_eq (t := 12) (u := (9, [(0, .ref 1)], [], zh, M)) rfl (fun c18 => ?_) (fun c18 => ?_)
  · rw [if_pos c18] at h
    refine zF_go (n := 1) (ps := []) (s' := (13, [(0, .ref 1)], [.ref 1], zh, M)) rfl trivial ?_
    obtain ⟨M2, e19, h⟩ := zb_some h
    refine zF_call (y' := 132) (as := [.ref 1]) (u := (16, [(0, .ref 1)], [], zh, M)) rfl ⟨rfl, rfl⟩ rfl (qS_lookAsItIs_ok (S := S) (M := M) e19) ?_
    show zF S 115 (16, [(0, .ref 1)], [], zh, M2) _ _
    refine zF_go (n := 4) (ps := []) (s' := (22, [(0, .ref 1)], [.int 1, .int 0, .ref 76], zh, M2)) rfl trivial ?_
    obtain ⟨x3, M4, e20, h⟩ := zb2_some h
    refine zF_call (y' := 42) (as := [.ref 76, .int 0, .int 1]) (u := (25, [(0, .ref 1)], [], zh, M2)) rfl ⟨rfl, rfl⟩ rfl (qP_bestRow_ok (S := S) (M := M2) e20) ?_
    show zF S 115 (25, [(0, .ref 1)], [.int x3], zh, M4) _ _
    refine zF_go (n := 5) (ps := []) (s' := (32, [(1, .int x3), (0, .ref 1)], [.int 0, .int 0, .ref 76], zh, M4)) rfl trivial ?_
    obtain ⟨x5, M6, e21, h⟩ := zb2_some h
    refine zF_call (y' := 42) (as := [.ref 76, .int 0, .int 0]) (u := (35, [(1, .int x3), (0, .ref 1)], [], zh, M4)) rfl ⟨rfl, rfl⟩ rfl (qP_bestRow_ok (S := S) (M := M4) e21) ?_
    show zF S 115 (35, [(1, .int x3), (0, .ref 1)], [.int x5], zh, M6) _ _
    refine zF_go (n := 5) (ps := []) (s' := (41, [(4, .int 0), (3, .int 0), (2, .int x5), (1, .int x3), (0, .ref 1)], [], zh, M6)) rfl trivial ?_
    refine zF_same (s' := (41, [(0, .ref 1), (1, .int x3), (2, .int x5), (3, .int 0), (4, .int 0)], [], zh, M6)) rfl ?_
    refine zlp_ind (P := fun (v : Int32 × Int32 × zM) r => zF S 115 (41, [(0, .ref 1), (1, .int x3), (2, .int x5), (3, .int v.1), (4, .int v.2.1)], [], zh, v.2.2) (some (.int r.1)) (r.2)) ?_ _ _ _ h
    intro rec10 hrec10 v r h
    obtain ⟨v3_7, v4_8, M9⟩ := v
    unfold qS_hurt_L41 at h
    dsimp only at h
    show zF S 115 (41, [(0, .ref 1), (1, .int x3), (2, .int x5), (3, .int v3_7), (4, .int v4_8)], [], zh, M9) _ _
    refine zF_go (n := 5) (ps := []) (s' := (53, [(0, .ref 1), (1, .int x3), (2, .int x5), (3, .int v3_7), (4, .int v4_8)], [.int (M9 10 0), .int v4_8], zh, M9)) rfl trivial ?_
    refine zF_ge (t := 112) (u := (56, [(0, .ref 1), (1, .int x3), (2, .int x5), (3, .int v3_7), (4, .int v4_8)], [], zh, M9)) rfl (fun c22 => ?_) (fun c22 => ?_)
    · rw [if_neg c22] at h
      refine zF_go (n := 1) (ps := []) (s' := (113, [(0, .ref 1), (1, .int x3), (2, .int x5), (3, .int v3_7), (4, .int v4_8)], [.int v3_7], zh, M9)) rfl trivial ?_
      cases h
      exact zF_ret rfl trivial
    · rw [if_pos c22] at h
      refine zF_go (n := 4) (ps := []) (s' := (62, [(0, .ref 1), (1, .int x3), (2, .int x5), (3, .int v3_7), (4, .int v4_8)], [.int x3, .int 0, .ref 63], zh, M9)) rfl trivial ?_
      obtain ⟨M11, e23, h⟩ := zb_some h
      refine zF_call (y' := 21) (as := [.ref 63, .int 0, .int x3]) (u := (65, [(0, .ref 1), (1, .int x3), (2, .int x5), (3, .int v3_7), (4, .int v4_8)], [], zh, M9)) rfl ⟨rfl, rfl⟩ rfl (qG_putRow_ok (S := S) (M := M9) e23) ?_
      show zF S 115 (65, [(0, .ref 1), (1, .int x3), (2, .int x5), (3, .int v3_7), (4, .int v4_8)], [], zh, M11) _ _
      refine zF_go (n := 3) (ps := []) (s' := (71, [(0, .ref 1), (1, .int x3), (2, .int x5), (3, .int v3_7), (4, .int v4_8)], [.int v4_8, .ref 70], zh, M11)) rfl trivial ?_
      obtain ⟨x12, M13, e24, h⟩ := zb2_some h
      refine zF_call (y' := 79) (as := [.ref 70, .int v4_8]) (u := (74, [(0, .ref 1), (1, .int x3), (2, .int x5), (3, .int v3_7), (4, .int v4_8)], [], zh, M11)) rfl ⟨rfl, rfl⟩ rfl (qW_savedBy_ok (S := S) (M := M11) e24) ?_
      show zF S 115 (74, [(0, .ref 1), (1, .int x3), (2, .int x5), (3, .int v3_7), (4, .int v4_8)], [.int x12], zh, M13) _ _
      refine zF_go (n := 5) (ps := []) (s' := (82, [(5, .int x12), (0, .ref 1), (1, .int x3), (2, .int x5), (3, .int v3_7), (4, .int v4_8)], [.int x5, .int 0, .ref 63], zh, M13)) rfl trivial ?_
      obtain ⟨M14, e25, h⟩ := zb_some h
      refine zF_call (y' := 21) (as := [.ref 63, .int 0, .int x5]) (u := (85, [(5, .int x12), (0, .ref 1), (1, .int x3), (2, .int x5), (3, .int v3_7), (4, .int v4_8)], [], zh, M13)) rfl ⟨rfl, rfl⟩ rfl (qG_putRow_ok (S := S) (M := M13) e25) ?_
      show zF S 115 (85, [(5, .int x12), (0, .ref 1), (1, .int x3), (2, .int x5), (3, .int v3_7), (4, .int v4_8)], [], zh, M14) _ _
      refine zF_go (n := 4) (ps := []) (s' := (93, [(5, .int x12), (0, .ref 1), (1, .int x3), (2, .int x5), (3, .int v3_7), (4, .int v4_8)], [.int v4_8, .ref 70, .int x12], zh, M14)) rfl trivial ?_
      obtain ⟨x15, M16, e26, h⟩ := zb2_some h
      refine zF_call (y' := 79) (as := [.ref 70, .int v4_8]) (u := (96, [(5, .int x12), (0, .ref 1), (1, .int x3), (2, .int x5), (3, .int v3_7), (4, .int v4_8)], [.int x12], zh, M14)) rfl ⟨rfl, rfl⟩ rfl (qW_savedBy_ok (S := S) (M := M14) e26) ?_
      show zF S 115 (96, [(5, .int x12), (0, .ref 1), (1, .int x3), (2, .int x5), (3, .int v3_7), (4, .int v4_8)], [.int x15, .int x12], zh, M16) _ _
      refine zF_ge (t := 106) (u := (99, [(5, .int x12), (0, .ref 1), (1, .int x3), (2, .int x5), (3, .int v3_7), (4, .int v4_8)], [], zh, M16)) rfl (fun c27 => ?_) (fun c27 => ?_)
      · rw [if_neg c27] at h
        refine zF_go (n := 2) (ps := []) (s' := (41, [(4, .int (v4_8 + 1)), (0, .ref 1), (1, .int x3), (2, .int x5), (3, .int v3_7)], [], zh, M16)) rfl trivial ?_
        exact zF_as (hrec10 _ _ h) rfl
      · rw [if_pos c27] at h
        refine zF_go (n := 6) (ps := []) (s' := (106, [(3, .int (v3_7 ||| (1 <<< (v4_8 &&& 31)))), (5, .int x12), (0, .ref 1), (1, .int x3), (2, .int x5), (4, .int v4_8)], [], zh, M16)) rfl trivial ?_
        refine zF_go (n := 2) (ps := []) (s' := (41, [(4, .int (v4_8 + 1)), (0, .ref 1), (1, .int x3), (2, .int x5), (3, .int (v3_7 ||| (1 <<< (v4_8 &&& 31))))], [], zh, M16)) rfl trivial ?_
        exact zF_as (hrec10 _ _ h) rfl
  · rw [if_neg c18] at h
    refine zF_go (n := 1) (ps := []) (s' := (11, [(0, .ref 1)], [.int (-5)], zh, M)) rfl trivial ?_
    cases h
    exact zF_ret rfl trivial
noncomputable def qM_hurt_L52 (x4 : Int32) (x2 : Int32) (x1 : Int32) (rec9 : (Int32 × Int32 × zM) → Option (Int32 × zM)) (v : Int32 × Int32 × zM) : Option (Int32 × zM) := match v with
  | (v5_6, v6_7, M8) =>
    if v6_7 < (M8 86 14) then
      (zb (qM_lay M8 0 x4) fun M11 =>
      zb (qM_savesOf M11 v6_7) fun x12 =>
      zb (qM_lay M11 0 x2) fun M13 =>
      zb (qM_savesOf M13 v6_7) fun x14 =>
      if x14 < x12 then
        (rec9 ((v5_6 ||| (1 <<< (v6_7 &&& 31))), (v6_7 + 1), M13))
      else
        (rec9 ((v5_6 ||| 0), (v6_7 + 1), M13)))
    else
      (zb (qM_lay M8 0 x1) fun M10 =>
      some (v5_6, M10))
noncomputable def qM_hurt (M : zM) : Option (Int32 × zM) :=
  zb (qM_rowOf M 0) fun x1 =>
  zb2 (qM_bestOf (zw M 86 18 1) 0) fun x2 M3 =>
  zb2 (qM_bestOf (zw M3 86 18 0) 0) fun x4 M5 =>
  if x2 < 0 then
    (some ((-5), (zw M5 86 18 (M 86 18))))
  else
    (zlp (qM_hurt_L52 x4 x2 x1) zfu (0, 0, (zw M5 86 18 (M 86 18))))
set_option maxRecDepth 20000 in
set_option maxHeartbeats 4000000 in
theorem qM_hurt_ok {S : zSc} {M : zM} {r : Int32 × zM} (h : qM_hurt M = some r) : zF S 196 (0, [(0, .ref 86)], [], zh, M) (some (.int r.1)) (r.2) := by
  unfold qM_hurt at h
  refine zF_go (n := 5) (ps := []) (s' := (7, [(1, .int (M 86 18)), (0, .ref 86)], [.int 0, .ref 86], zh, M)) rfl trivial ?_
  obtain ⟨x1, e15, h⟩ := zb_some h
  refine zF_call (y' := 174) (as := [.ref 86, .int 0]) (u := (10, [(1, .int (M 86 18)), (0, .ref 86)], [], zh, M)) rfl ⟨rfl, rfl⟩ rfl (qM_rowOf_ok (S := S) (M := M) e15) ?_
  show zF S 196 (10, [(1, .int (M 86 18)), (0, .ref 86)], [.int x1], zh, M) _ _
  refine zF_go (n := 6) (ps := []) (s' := (18, [(2, .int x1), (1, .int (M 86 18)), (0, .ref 86)], [.int 0, .ref 86], zh, (zw M 86 18 1))) rfl trivial ?_
  obtain ⟨x2, M3, e16, h⟩ := zb2_some h
  refine zF_call (y' := 179) (as := [.ref 86, .int 0]) (u := (21, [(2, .int x1), (1, .int (M 86 18)), (0, .ref 86)], [], zh, (zw M 86 18 1))) rfl ⟨rfl, rfl⟩ rfl (qM_bestOf_ok (S := S) (M := (zw M 86 18 1)) e16) ?_
  show zF S 196 (21, [(2, .int x1), (1, .int (M 86 18)), (0, .ref 86)], [.int x2], zh, M3) _ _
  refine zF_go (n := 6) (ps := []) (s' := (29, [(3, .int x2), (2, .int x1), (1, .int (M 86 18)), (0, .ref 86)], [.int 0, .ref 86], zh, (zw M3 86 18 0))) rfl trivial ?_
  obtain ⟨x4, M5, e17, h⟩ := zb2_some h
  refine zF_call (y' := 179) (as := [.ref 86, .int 0]) (u := (32, [(3, .int x2), (2, .int x1), (1, .int (M 86 18)), (0, .ref 86)], [], zh, (zw M3 86 18 0))) rfl ⟨rfl, rfl⟩ rfl (qM_bestOf_ok (S := S) (M := (zw M3 86 18 0)) e17) ?_
  show zF S 196 (32, [(3, .int x2), (2, .int x1), (1, .int (M 86 18)), (0, .ref 86)], [.int x4], zh, M5) _ _
  refine zF_go (n := 5) (ps := []) (s' := (40, [(4, .int x4), (3, .int x2), (2, .int x1), (1, .int (M 86 18)), (0, .ref 86)], [.int x2], zh, (zw M5 86 18 (M 86 18)))) rfl trivial ?_
  refine zF_ge (t := 46) (u := (43, [(4, .int x4), (3, .int x2), (2, .int x1), (1, .int (M 86 18)), (0, .ref 86)], [], zh, (zw M5 86 18 (M 86 18)))) rfl (fun c18 => ?_) (fun c18 => ?_)
  · rw [if_neg c18] at h
    refine zF_go (n := 4) (ps := []) (s' := (52, [(6, .int 0), (5, .int 0), (4, .int x4), (3, .int x2), (2, .int x1), (1, .int (M 86 18)), (0, .ref 86)], [], zh, (zw M5 86 18 (M 86 18)))) rfl trivial ?_
    refine zF_same (s' := (52, [(0, .ref 86), (2, .int x1), (3, .int x2), (4, .int x4), (5, .int 0), (6, .int 0)], [], zh, (zw M5 86 18 (M 86 18)))) rfl ?_
    refine zlp_ind (P := fun (v : Int32 × Int32 × zM) r => zF S 196 (52, [(0, .ref 86), (2, .int x1), (3, .int x2), (4, .int x4), (5, .int v.1), (6, .int v.2.1)], [], zh, v.2.2) (some (.int r.1)) (r.2)) ?_ _ _ _ h
    intro rec9 hrec9 v r h
    obtain ⟨v5_6, v6_7, M8⟩ := v
    unfold qM_hurt_L52 at h
    dsimp only at h
    show zF S 196 (52, [(0, .ref 86), (2, .int x1), (3, .int x2), (4, .int x4), (5, .int v5_6), (6, .int v6_7)], [], zh, M8) _ _
    refine zF_go (n := 3) (ps := []) (s' := (58, [(0, .ref 86), (2, .int x1), (3, .int x2), (4, .int x4), (5, .int v5_6), (6, .int v6_7)], [.int (M8 86 14), .int v6_7], zh, M8)) rfl trivial ?_
    refine zF_ge (t := 112) (u := (61, [(0, .ref 86), (2, .int x1), (3, .int x2), (4, .int x4), (5, .int v5_6), (6, .int v6_7)], [], zh, M8)) rfl (fun c19 => ?_) (fun c19 => ?_)
    · rw [if_neg c19] at h
      refine zF_go (n := 3) (ps := []) (s' := (115, [(0, .ref 86), (2, .int x1), (3, .int x2), (4, .int x4), (5, .int v5_6), (6, .int v6_7)], [.int x1, .int 0, .ref 86], zh, M8)) rfl trivial ?_
      obtain ⟨M10, e20, h⟩ := zb_some h
      refine zF_call (y' := 176) (as := [.ref 86, .int 0, .int x1]) (u := (118, [(0, .ref 86), (2, .int x1), (3, .int x2), (4, .int x4), (5, .int v5_6), (6, .int v6_7)], [], zh, M8)) rfl ⟨rfl, rfl⟩ rfl (qM_lay_ok (S := S) (M := M8) e20) ?_
      show zF S 196 (118, [(0, .ref 86), (2, .int x1), (3, .int x2), (4, .int x4), (5, .int v5_6), (6, .int v6_7)], [], zh, M10) _ _
      refine zF_go (n := 1) (ps := []) (s' := (120, [(0, .ref 86), (2, .int x1), (3, .int x2), (4, .int x4), (5, .int v5_6), (6, .int v6_7)], [.int v5_6], zh, M10)) rfl trivial ?_
      cases h
      exact zF_ret rfl trivial
    · rw [if_pos c19] at h
      refine zF_go (n := 3) (ps := []) (s' := (65, [(0, .ref 86), (2, .int x1), (3, .int x2), (4, .int x4), (5, .int v5_6), (6, .int v6_7)], [.int x4, .int 0, .ref 86], zh, M8)) rfl trivial ?_
      obtain ⟨M11, e21, h⟩ := zb_some h
      refine zF_call (y' := 176) (as := [.ref 86, .int 0, .int x4]) (u := (68, [(0, .ref 86), (2, .int x1), (3, .int x2), (4, .int x4), (5, .int v5_6), (6, .int v6_7)], [], zh, M8)) rfl ⟨rfl, rfl⟩ rfl (qM_lay_ok (S := S) (M := M8) e21) ?_
      show zF S 196 (68, [(0, .ref 86), (2, .int x1), (3, .int x2), (4, .int x4), (5, .int v5_6), (6, .int v6_7)], [], zh, M11) _ _
      refine zF_go (n := 2) (ps := []) (s' := (71, [(0, .ref 86), (2, .int x1), (3, .int x2), (4, .int x4), (5, .int v5_6), (6, .int v6_7)], [.int v6_7, .ref 86], zh, M11)) rfl trivial ?_
      obtain ⟨x12, e22, h⟩ := zb_some h
      refine zF_call (y' := 169) (as := [.ref 86, .int v6_7]) (u := (74, [(0, .ref 86), (2, .int x1), (3, .int x2), (4, .int x4), (5, .int v5_6), (6, .int v6_7)], [], zh, M11)) rfl ⟨rfl, rfl⟩ rfl (qM_savesOf_ok (S := S) (M := M11) e22) ?_
      show zF S 196 (74, [(0, .ref 86), (2, .int x1), (3, .int x2), (4, .int x4), (5, .int v5_6), (6, .int v6_7)], [.int x12], zh, M11) _ _
      refine zF_go (n := 4) (ps := []) (s' := (79, [(7, .int x12), (0, .ref 86), (2, .int x1), (3, .int x2), (4, .int x4), (5, .int v5_6), (6, .int v6_7)], [.int x2, .int 0, .ref 86], zh, M11)) rfl trivial ?_
      obtain ⟨M13, e23, h⟩ := zb_some h
      refine zF_call (y' := 176) (as := [.ref 86, .int 0, .int x2]) (u := (82, [(7, .int x12), (0, .ref 86), (2, .int x1), (3, .int x2), (4, .int x4), (5, .int v5_6), (6, .int v6_7)], [], zh, M11)) rfl ⟨rfl, rfl⟩ rfl (qM_lay_ok (S := S) (M := M11) e23) ?_
      show zF S 196 (82, [(7, .int x12), (0, .ref 86), (2, .int x1), (3, .int x2), (4, .int x4), (5, .int v5_6), (6, .int v6_7)], [], zh, M13) _ _
      refine zF_go (n := 3) (ps := []) (s' := (87, [(7, .int x12), (0, .ref 86), (2, .int x1), (3, .int x2), (4, .int x4), (5, .int v5_6), (6, .int v6_7)], [.int v6_7, .ref 86, .int v5_6], zh, M13)) rfl trivial ?_
      obtain ⟨x14, e24, h⟩ := zb_some h
      refine zF_call (y' := 169) (as := [.ref 86, .int v6_7]) (u := (90, [(7, .int x12), (0, .ref 86), (2, .int x1), (3, .int x2), (4, .int x4), (5, .int v5_6), (6, .int v6_7)], [.int v5_6], zh, M13)) rfl ⟨rfl, rfl⟩ rfl (qM_savesOf_ok (S := S) (M := M13) e24) ?_
      show zF S 196 (90, [(7, .int x12), (0, .ref 86), (2, .int x1), (3, .int x2), (4, .int x4), (5, .int v5_6), (6, .int v6_7)], [.int x14, .int v5_6], zh, M13) _ _
      refine zF_go (n := 1) (ps := []) (s' := (92, [(7, .int x12), (0, .ref 86), (2, .int x1), (3, .int x2), (4, .int x4), (5, .int v5_6), (6, .int v6_7)], [.int x12, .int x14, .int v5_6], zh, M13)) rfl trivial ?_
      refine zF_ge (t := 102) (u := (95, [(7, .int x12), (0, .ref 86), (2, .int x1), (3, .int x2), (4, .int x4), (5, .int v5_6), (6, .int v6_7)], [.int v5_6], zh, M13)) rfl (fun c25 => ?_) (fun c25 => ?_)
      · rw [if_neg c25] at h
        refine zF_go (n := 1) (ps := []) (s' := (103, [(7, .int x12), (0, .ref 86), (2, .int x1), (3, .int x2), (4, .int x4), (5, .int v5_6), (6, .int v6_7)], [.int 0, .int v5_6], zh, M13)) rfl trivial ?_
        refine zF_go (n := 4) (ps := []) (s' := (52, [(6, .int (v6_7 + 1)), (5, .int (v5_6 ||| 0)), (0, .ref 86), (2, .int x1), (3, .int x2), (4, .int x4)], [], zh, M13)) rfl trivial ?_
        exact zF_as (hrec9 _ _ h) rfl
      · rw [if_pos c25] at h
        refine zF_go (n := 4) (ps := []) (s' := (103, [(7, .int x12), (0, .ref 86), (2, .int x1), (3, .int x2), (4, .int x4), (5, .int v5_6), (6, .int v6_7)], [.int (1 <<< (v6_7 &&& 31)), .int v5_6], zh, M13)) rfl trivial ?_
        refine zF_go (n := 4) (ps := []) (s' := (52, [(6, .int (v6_7 + 1)), (5, .int (v5_6 ||| (1 <<< (v6_7 &&& 31)))), (0, .ref 86), (2, .int x1), (3, .int x2), (4, .int x4)], [], zh, M13)) rfl trivial ?_
        exact zF_as (hrec9 _ _ h) rfl
  · rw [if_pos c18] at h
    refine zF_go (n := 1) (ps := []) (s' := (45, [(4, .int x4), (3, .int x2), (2, .int x1), (1, .int (M 86 18)), (0, .ref 86)], [.int (-5)], zh, (zw M5 86 18 (M 86 18)))) rfl trivial ?_
    cases h
    exact zF_ret rfl trivial
noncomputable def qK_needDearly (M : zM) (p_want : Int32) : Option (Int32 × zM) :=
  some ((p_want - (if p_want < (M 85 2) then p_want else (M 85 2))), (zw M 85 2 ((M 85 2) - (if p_want < (M 85 2) then p_want else (M 85 2)))))
set_option maxRecDepth 20000 in
set_option maxHeartbeats 4000000 in
theorem qK_needDearly_ok {S : zSc} {M : zM} {p_want : Int32} {r : Int32 × zM} (h : qK_needDearly M p_want = some r) : zF S 85 (0, [(0, .ref 85), (1, .int p_want)], [], zh, M) (some (.int r.1)) (r.2) := by
  unfold qK_needDearly at h
  refine zF_go (n := 14) (ps := []) (s' := (22, [(2, .int (if p_want < (M 85 2) then p_want else (M 85 2))), (0, .ref 85), (1, .int p_want)], [.int (p_want - (if p_want < (M 85 2) then p_want else (M 85 2)))], zh, (zw M 85 2 ((M 85 2) - (if p_want < (M 85 2) then p_want else (M 85 2)))))) rfl trivial ?_
  cases h
  exact zF_ret rfl trivial
noncomputable def qK_needCheaply (M : zM) (p_want : Int32) (p_shelf : Int32) (p_bought : Int32) : Option (Int32 × zM) :=
  if p_bought = 0 then
    (some (((p_want + p_shelf) - (M 85 2)), M))
  else
    (some (((p_want + p_shelf) - (M 85 2)), (zw M 85 2 p_shelf)))
set_option maxRecDepth 20000 in
set_option maxHeartbeats 4000000 in
theorem qK_needCheaply_ok {S : zSc} {M : zM} {p_want : Int32} {p_shelf : Int32} {p_bought : Int32} {r : Int32 × zM} (h : qK_needCheaply M p_want p_shelf p_bought = some r) : zF S 84 (0, [(0, .ref 85), (1, .int p_want), (2, .int p_shelf), (3, .int p_bought)], [], zh, M) (some (.int r.1)) (r.2) := by
  unfold qK_needCheaply at h
  refine zF_go (n := 8) (ps := []) (s' := (11, [(4, .int ((p_want + p_shelf) - (M 85 2))), (0, .ref 85), (1, .int p_want), (2, .int p_shelf), (3, .int p_bought)], [.int p_bought], zh, M)) rfl trivial ?_
  refine zF_eq (t := 19) (u := (14, [(4, .int ((p_want + p_shelf) - (M 85 2))), (0, .ref 85), (1, .int p_want), (2, .int p_shelf), (3, .int p_bought)], [], zh, M)) rfl (fun c1 => ?_) (fun c1 => ?_)
  · rw [if_pos c1] at h
    refine zF_go (n := 1) (ps := []) (s' := (21, [(4, .int ((p_want + p_shelf) - (M 85 2)))], [.int ((p_want + p_shelf) - (M 85 2))], zh, M)) rfl trivial ?_
    cases h
    exact zF_ret rfl trivial
  · rw [if_neg c1] at h
    refine zF_go (n := 3) (ps := []) (s' := (19, [(4, .int ((p_want + p_shelf) - (M 85 2))), (0, .ref 85), (1, .int p_want), (2, .int p_shelf), (3, .int p_bought)], [], zh, (zw M 85 2 p_shelf))) rfl trivial ?_
    refine zF_go (n := 1) (ps := []) (s' := (21, [(4, .int ((p_want + p_shelf) - (M 85 2)))], [.int ((p_want + p_shelf) - (M 85 2))], zh, (zw M 85 2 p_shelf))) rfl trivial ?_
    cases h
    exact zF_ret rfl trivial
end ZT
