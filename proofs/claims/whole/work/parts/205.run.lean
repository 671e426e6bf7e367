section ZT
noncomputable def qM_best (M : zM) (p_shop : Int32) : Option (Int32 × zM) :=
  zb (qM_isShop p_shop) fun x1 =>
  if x1 = 0 then
    (some ((-1), M))
  else
    (zb2 (qM_bestOf M p_shop) fun x2 M3 =>
    if x2 < 0 then
      (some ((-5), M3))
    else
      (some (x2, M3)))
set_option maxRecDepth 20000 in
set_option maxHeartbeats 4000000 in
theorem qM_best_ok {S : zSc} {M : zM} {p_shop : Int32} {r : Int32 × zM} (h : qM_best M p_shop = some r) : zF S 180 (0, [(0, .ref 86), (1, .int p_shop)], [], zh, M) (some (.int r.1)) (r.2) := by
  unfold qM_best at h
  refine zF_go (n := 1) (ps := []) (s' := (1, [(0, .ref 86), (1, .int p_shop)], [.int p_shop], zh, M)) rfl trivial ?_
  obtain ⟨x1, e4, h⟩ := zb_some h
  refine zF_call (y' := 136) (as := [.int p_shop]) (u := (4, [(0, .ref 86), (1, .int p_shop)], [], zh, M)) rfl ⟨rfl, rfl⟩ rfl (qM_isShop_ok (S := S) (M := M) e4) ?_
  show zF S 180 (4, [(0, .ref 86), (1, .int p_shop)], [.int x1], zh, M) _ _
  refine zF_ne (t := 9) (u := (7, [(0, .ref 86), (1, .int p_shop)], [], zh, M)) rfl (fun c5 => ?_) (fun c5 => ?_)
  · rw [if_neg c5] at h
    refine zF_go (n := 2) (ps := []) (s' := (11, [(0, .ref 86), (1, .int p_shop)], [.int p_shop, .ref 86], zh, M)) rfl trivial ?_
    obtain ⟨x2, M3, e6, h⟩ := zb2_some h
    refine zF_call (y' := 179) (as := [.ref 86, .int p_shop]) (u := (14, [(0, .ref 86), (1, .int p_shop)], [], zh, M)) rfl ⟨rfl, rfl⟩ rfl (qM_bestOf_ok (S := S) (M := M) e6) ?_
    show zF S 180 (14, [(0, .ref 86), (1, .int p_shop)], [.int x2], zh, M3) _ _
    refine zF_go (n := 2) (ps := []) (s' := (16, [(2, .int x2), (0, .ref 86), (1, .int p_shop)], [.int x2], zh, M3)) rfl trivial ?_
    refine zF_ge (t := 24) (u := (19, [(2, .int x2), (0, .ref 86), (1, .int p_shop)], [], zh, M3)) rfl (fun c7 => ?_) (fun c7 => ?_)
    · rw [if_neg c7] at h
      refine zF_go (n := 1) (ps := []) (s' := (25, [(2, .int x2), (0, .ref 86), (1, .int p_shop)], [.int x2], zh, M3)) rfl trivial ?_
      cases h
      exact zF_ret rfl trivial
    · rw [if_pos c7] at h
      refine zF_go (n := 2) (ps := []) (s' := (25, [(2, .int x2), (0, .ref 86), (1, .int p_shop)], [.int (-5)], zh, M3)) rfl trivial ?_
      cases h
      exact zF_ret rfl trivial
  · rw [if_pos c5] at h
    refine zF_go (n := 1) (ps := []) (s' := (8, [(0, .ref 86), (1, .int p_shop)], [.int (-1)], zh, M)) rfl trivial ?_
    cases h
    exact zF_ret rfl trivial
noncomputable def qP_moveThing_L36 (p_thing : Int32) (p_shop : Int32) (p_law : Int32) (M : zM) (rec7 : (Int32 × Int32 × Int32 × zM) → Option (Int32 × zM)) (v : Int32 × Int32 × Int32 × zM) : Option (Int32 × zM) := match v with
  | (v6_3, v7_4, v8_5, M6) =>
    zq (vp_in p_thing 4) <| if v8_5 < (M6 64 p_thing.toNatClampNeg) then
      (zq (vp_in ((p_shop * 4) + p_thing) 8) <| zlj (fun (_ : Unit) =>
        zb2 (qW_leftOf (zw M6 68 ((p_shop * 4) + p_thing).toNatClampNeg v8_5) p_shop) fun x10 M11 =>
        if v7_4 < x10 then
          (rec7 (v8_5, x10, (v8_5 + 1), M11))
        else
          (rec7 (v6_3, v7_4, (v8_5 + 1), M11))) fun k9 =>
      if p_law = 0 then
        (k9 ())
      else
        (zb (qG_isBelow (zw M6 68 ((p_shop * 4) + p_thing).toNatClampNeg v8_5) p_shop p_thing) fun x12 =>
        if x12 = 0 then
          (k9 ())
        else
          (rec7 (v6_3, v7_4, (v8_5 + 1), (zw M6 68 ((p_shop * 4) + p_thing).toNatClampNeg v8_5)))))
    else
      (zq (vp_in ((p_shop * 4) + p_thing) 8) <| if v6_3 = (M 68 ((p_shop * 4) + p_thing).toNatClampNeg) then
        (some (0, (zw M6 68 ((p_shop * 4) + p_thing).toNatClampNeg v6_3)))
      else
        (some (1, (zw M6 68 ((p_shop * 4) + p_thing).toNatClampNeg v6_3))))
noncomputable def qP_moveThing (M : zM) (p_shop : Int32) (p_thing : Int32) (p_law : Int32) : Option (Int32 × zM) :=
  zq (vp_in ((p_shop * 4) + p_thing) 8) <| zb2 (qW_leftOf M p_shop) fun x1 M2 =>
  zlp (qP_moveThing_L36 p_thing p_shop p_law M) zfu ((M 68 ((p_shop * 4) + p_thing).toNatClampNeg), x1, 0, M2)
set_option maxRecDepth 20000 in
set_option maxHeartbeats 4000000 in
theorem qP_moveThing_ok {S : zSc} {M : zM} {p_shop : Int32} {p_thing : Int32} {p_law : Int32} {r : Int32 × zM} (h : qP_moveThing M p_shop p_thing p_law = some r) : zF S 44 (0, [(0, .ref 76), (1, .int p_shop), (2, .int p_thing), (3, .int p_law)], [], zh, M) (some (.int r.1)) (r.2) := by
  unfold qP_moveThing at h
  obtain ⟨g13, h⟩ := zq_some h
  refine zF_go (n := 17) (ps := [vp_in ((p_shop * 4) + p_thing) 8]) (s' := (28, [(6, .int (M 68 ((p_shop * 4) + p_thing).toNatClampNeg)), (5, .int (M 68 ((p_shop * 4) + p_thing).toNatClampNeg)), (4, .int ((p_shop * 4) + p_thing)), (0, .ref 76), (1, .int p_shop), (2, .int p_thing), (3, .int p_law)], [.int p_shop, .ref 70], zh, M)) rfl ⟨g13, trivial⟩ ?_
  obtain ⟨x1, M2, e14, h⟩ := zb2_some h
  refine zF_call (y' := 78) (as := [.ref 70, .int p_shop]) (u := (31, [(6, .int (M 68 ((p_shop * 4) + p_thing).toNatClampNeg)), (5, .int (M 68 ((p_shop * 4) + p_thing).toNatClampNeg)), (4, .int ((p_shop * 4) + p_thing)), (0, .ref 76), (1, .int p_shop), (2, .int p_thing), (3, .int p_law)], [], zh, M)) rfl ⟨rfl, rfl⟩ rfl (qW_leftOf_ok (S := S) (M := M) e14) ?_
  show zF S 44 (31, [(6, .int (M 68 ((p_shop * 4) + p_thing).toNatClampNeg)), (5, .int (M 68 ((p_shop * 4) + p_thing).toNatClampNeg)), (4, .int ((p_shop * 4) + p_thing)), (0, .ref 76), (1, .int p_shop), (2, .int p_thing), (3, .int p_law)], [.int x1], zh, M2) _ _
  refine zF_go (n := 3) (ps := []) (s' := (36, [(8, .int 0), (7, .int x1), (6, .int (M 68 ((p_shop * 4) + p_thing).toNatClampNeg)), (5, .int (M 68 ((p_shop * 4) + p_thing).toNatClampNeg)), (4, .int ((p_shop * 4) + p_thing)), (0, .ref 76), (1, .int p_shop), (2, .int p_thing), (3, .int p_law)], [], zh, M2)) rfl trivial ?_
  refine zF_same (s' := (36, [(0, .ref 76), (1, .int p_shop), (2, .int p_thing), (3, .int p_law), (4, .int ((p_shop * 4) + p_thing)), (5, .int (M 68 ((p_shop * 4) + p_thing).toNatClampNeg)), (6, .int (M 68 ((p_shop * 4) + p_thing).toNatClampNeg)), (7, .int x1), (8, .int 0)], [], zh, M2)) rfl ?_
  refine zlp_ind (P := fun (v : Int32 × Int32 × Int32 × zM) r => zF S 44 (36, [(0, .ref 76), (1, .int p_shop), (2, .int p_thing), (3, .int p_law), (4, .int ((p_shop * 4) + p_thing)), (5, .int (M 68 ((p_shop * 4) + p_thing).toNatClampNeg)), (6, .int v.1), (7, .int v.2.1), (8, .int v.2.2.1)], [], zh, v.2.2.2) (some (.int r.1)) (r.2)) ?_ _ _ _ h
  intro rec7 hrec7 v r h
  obtain ⟨v6_3, v7_4, v8_5, M6⟩ := v
  unfold qP_moveThing_L36 at h
  dsimp only at h
  show zF S 44 (36, [(0, .ref 76), (1, .int p_shop), (2, .int p_thing), (3, .int p_law), (4, .int ((p_shop * 4) + p_thing)), (5, .int (M 68 ((p_shop * 4) + p_thing).toNatClampNeg)), (6, .int v6_3), (7, .int v7_4), (8, .int v8_5)], [], zh, M6) _ _
  obtain ⟨g15, h⟩ := zq_some h
  refine zF_go (n := 6) (ps := [vp_in p_thing 4]) (s' := (47, [(0, .ref 76), (1, .int p_shop), (2, .int p_thing), (3, .int p_law), (4, .int ((p_shop * 4) + p_thing)), (5, .int (M 68 ((p_shop * 4) + p_thing).toNatClampNeg)), (6, .int v6_3), (7, .int v7_4), (8, .int v8_5)], [.int (M6 64 p_thing.toNatClampNeg), .int v8_5], zh, M6)) rfl ⟨g15, trivial⟩ ?_
  refine zF_ge (t := 109) (u := (50, [(0, .ref 76), (1, .int p_shop), (2, .int p_thing), (3, .int p_law), (4, .int ((p_shop * 4) + p_thing)), (5, .int (M 68 ((p_shop * 4) + p_thing).toNatClampNeg)), (6, .int v6_3), (7, .int v7_4), (8, .int v8_5)], [], zh, M6)) rfl (fun c16 => ?_) (fun c16 => ?_)
  · rw [if_neg c16] at h
    obtain ⟨g17, h⟩ := zq_some h
    refine zF_go (n := 8) (ps := [vp_in ((p_shop * 4) + p_thing) 8]) (s' := (125, [(0, .ref 76), (1, .int p_shop), (2, .int p_thing), (3, .int p_law), (4, .int ((p_shop * 4) + p_thing)), (5, .int (M 68 ((p_shop * 4) + p_thing).toNatClampNeg)), (6, .int v6_3), (7, .int v7_4), (8, .int v8_5)], [.int (M 68 ((p_shop * 4) + p_thing).toNatClampNeg), .int v6_3], zh, (zw M6 68 ((p_shop * 4) + p_thing).toNatClampNeg v6_3))) rfl ⟨g17, trivial⟩ ?_
    refine zF_eq (t := 132) (u := (128, [(0, .ref 76), (1, .int p_shop), (2, .int p_thing), (3, .int p_law), (4, .int ((p_shop * 4) + p_thing)), (5, .int (M 68 ((p_shop * 4) + p_thing).toNatClampNeg)), (6, .int v6_3), (7, .int v7_4), (8, .int v8_5)], [], zh, (zw M6 68 ((p_shop * 4) + p_thing).toNatClampNeg v6_3))) rfl (fun c18 => ?_) (fun c18 => ?_)
    · rw [if_pos c18] at h
      refine zF_go (n := 1) (ps := []) (s' := (133, [(0, .ref 76), (1, .int p_shop), (2, .int p_thing), (3, .int p_law), (4, .int ((p_shop * 4) + p_thing)), (5, .int (M 68 ((p_shop * 4) + p_thing).toNatClampNeg)), (6, .int v6_3), (7, .int v7_4), (8, .int v8_5)], [.int 0], zh, (zw M6 68 ((p_shop * 4) + p_thing).toNatClampNeg v6_3))) rfl trivial ?_
      cases h
      exact zF_ret rfl ⟨(Or.inl rfl), trivial⟩
    · rw [if_neg c18] at h
      refine zF_go (n := 2) (ps := []) (s' := (133, [(0, .ref 76), (1, .int p_shop), (2, .int p_thing), (3, .int p_law), (4, .int ((p_shop * 4) + p_thing)), (5, .int (M 68 ((p_shop * 4) + p_thing).toNatClampNeg)), (6, .int v6_3), (7, .int v7_4), (8, .int v8_5)], [.int 1], zh, (zw M6 68 ((p_shop * 4) + p_thing).toNatClampNeg v6_3))) rfl trivial ?_
      cases h
      exact zF_ret rfl ⟨(Or.inr rfl), trivial⟩
  · rw [if_pos c16] at h
    obtain ⟨g19, h⟩ := zq_some h
    refine zF_go (n := 7) (ps := [vp_in ((p_shop * 4) + p_thing) 8]) (s' := (63, [(0, .ref 76), (1, .int p_shop), (2, .int p_thing), (3, .int p_law), (4, .int ((p_shop * 4) + p_thing)), (5, .int (M 68 ((p_shop * 4) + p_thing).toNatClampNeg)), (6, .int v6_3), (7, .int v7_4), (8, .int v8_5)], [.int p_law], zh, (zw M6 68 ((p_shop * 4) + p_thing).toNatClampNeg v8_5))) rfl ⟨g19, trivial⟩ ?_
    refine zlj_e h (fun k => ∀ (_ : Unit) r, k () = some r → zF S 44 (78, [(0, .ref 76), (1, .int p_shop), (2, .int p_thing), (3, .int p_law), (4, .int ((p_shop * 4) + p_thing)), (5, .int (M 68 ((p_shop * 4) + p_thing).toNatClampNeg)), (6, .int v6_3), (7, .int v7_4), (8, .int v8_5)], [], zh, (zw M6 68 ((p_shop * 4) + p_thing).toNatClampNeg v8_5)) (some (.int r.1)) (r.2)) ?_ ?_
    · intro _ r h
      try dsimp only at h
      refine zF_go (n := 3) (ps := []) (s' := (83, [(0, .ref 76), (1, .int p_shop), (2, .int p_thing), (3, .int p_law), (4, .int ((p_shop * 4) + p_thing)), (5, .int (M 68 ((p_shop * 4) + p_thing).toNatClampNeg)), (6, .int v6_3), (7, .int v7_4), (8, .int v8_5)], [.int p_shop, .ref 70], zh, (zw M6 68 ((p_shop * 4) + p_thing).toNatClampNeg v8_5))) rfl trivial ?_
      obtain ⟨x10, M11, e20, h⟩ := zb2_some h
      refine zF_call (y' := 78) (as := [.ref 70, .int p_shop]) (u := (86, [(0, .ref 76), (1, .int p_shop), (2, .int p_thing), (3, .int p_law), (4, .int ((p_shop * 4) + p_thing)), (5, .int (M 68 ((p_shop * 4) + p_thing).toNatClampNeg)), (6, .int v6_3), (7, .int v7_4), (8, .int v8_5)], [], zh, (zw M6 68 ((p_shop * 4) + p_thing).toNatClampNeg v8_5))) rfl ⟨rfl, rfl⟩ rfl (qW_leftOf_ok (S := S) (M := (zw M6 68 ((p_shop * 4) + p_thing).toNatClampNeg v8_5)) e20) ?_
      show zF S 44 (86, [(0, .ref 76), (1, .int p_shop), (2, .int p_thing), (3, .int p_law), (4, .int ((p_shop * 4) + p_thing)), (5, .int (M 68 ((p_shop * 4) + p_thing).toNatClampNeg)), (6, .int v6_3), (7, .int v7_4), (8, .int v8_5)], [.int x10], zh, M11) _ _
      refine zF_go (n := 3) (ps := []) (s' := (92, [(9, .int x10), (0, .ref 76), (1, .int p_shop), (2, .int p_thing), (3, .int p_law), (4, .int ((p_shop * 4) + p_thing)), (5, .int (M 68 ((p_shop * 4) + p_thing).toNatClampNeg)), (6, .int v6_3), (7, .int v7_4), (8, .int v8_5)], [.int v7_4, .int x10], zh, M11)) rfl trivial ?_
      refine zF_le (t := 103) (u := (95, [(9, .int x10), (0, .ref 76), (1, .int p_shop), (2, .int p_thing), (3, .int p_law), (4, .int ((p_shop * 4) + p_thing)), (5, .int (M 68 ((p_shop * 4) + p_thing).toNatClampNeg)), (6, .int v6_3), (7, .int v7_4), (8, .int v8_5)], [], zh, M11)) rfl (fun c21 => ?_) (fun c21 => ?_)
      · rw [if_neg c21] at h
        refine zF_go (n := 2) (ps := []) (s' := (36, [(8, .int (v8_5 + 1)), (0, .ref 76), (1, .int p_shop), (2, .int p_thing), (3, .int p_law), (4, .int ((p_shop * 4) + p_thing)), (5, .int (M 68 ((p_shop * 4) + p_thing).toNatClampNeg)), (6, .int v6_3), (7, .int v7_4)], [], zh, M11)) rfl trivial ?_
        exact zF_as (hrec7 _ _ h) rfl
      · rw [if_pos c21] at h
        refine zF_go (n := 4) (ps := []) (s' := (103, [(7, .int x10), (6, .int v8_5), (9, .int x10), (0, .ref 76), (1, .int p_shop), (2, .int p_thing), (3, .int p_law), (4, .int ((p_shop * 4) + p_thing)), (5, .int (M 68 ((p_shop * 4) + p_thing).toNatClampNeg)), (8, .int v8_5)], [], zh, M11)) rfl trivial ?_
        refine zF_go (n := 2) (ps := []) (s' := (36, [(8, .int (v8_5 + 1)), (0, .ref 76), (1, .int p_shop), (2, .int p_thing), (3, .int p_law), (4, .int ((p_shop * 4) + p_thing)), (5, .int (M 68 ((p_shop * 4) + p_thing).toNatClampNeg)), (6, .int v8_5), (7, .int x10)], [], zh, M11)) rfl trivial ?_
        exact zF_as (hrec7 _ _ h) rfl
    · intro k9 hk9 h
      try dsimp only at h
      refine zF_eq (t := 78) (u := (66, [(0, .ref 76), (1, .int p_shop), (2, .int p_thing), (3, .int p_law), (4, .int ((p_shop * 4) + p_thing)), (5, .int (M 68 ((p_shop * 4) + p_thing).toNatClampNeg)), (6, .int v6_3), (7, .int v7_4), (8, .int v8_5)], [], zh, (zw M6 68 ((p_shop * 4) + p_thing).toNatClampNeg v8_5))) rfl (fun c22 => ?_) (fun c22 => ?_)
      · rw [if_pos c22] at h
        exact zF_as (hk9 () _ h) rfl
      · rw [if_neg c22] at h
        refine zF_go (n := 4) (ps := []) (s' := (72, [(0, .ref 76), (1, .int p_shop), (2, .int p_thing), (3, .int p_law), (4, .int ((p_shop * 4) + p_thing)), (5, .int (M 68 ((p_shop * 4) + p_thing).toNatClampNeg)), (6, .int v6_3), (7, .int v7_4), (8, .int v8_5)], [.int p_thing, .int p_shop, .ref 63], zh, (zw M6 68 ((p_shop * 4) + p_thing).toNatClampNeg v8_5))) rfl trivial ?_
        obtain ⟨x12, e23, h⟩ := zb_some h
        refine zF_call (y' := 22) (as := [.ref 63, .int p_shop, .int p_thing]) (u := (75, [(0, .ref 76), (1, .int p_shop), (2, .int p_thing), (3, .int p_law), (4, .int ((p_shop * 4) + p_thing)), (5, .int (M 68 ((p_shop * 4) + p_thing).toNatClampNeg)), (6, .int v6_3), (7, .int v7_4), (8, .int v8_5)], [], zh, (zw M6 68 ((p_shop * 4) + p_thing).toNatClampNeg v8_5))) rfl ⟨rfl, rfl⟩ rfl (qG_isBelow_ok (S := S) (M := (zw M6 68 ((p_shop * 4) + p_thing).toNatClampNeg v8_5)) e23) ?_
        show zF S 44 (75, [(0, .ref 76), (1, .int p_shop), (2, .int p_thing), (3, .int p_law), (4, .int ((p_shop * 4) + p_thing)), (5, .int (M 68 ((p_shop * 4) + p_thing).toNatClampNeg)), (6, .int v6_3), (7, .int v7_4), (8, .int v8_5)], [.int x12], zh, (zw M6 68 ((p_shop * 4) + p_thing).toNatClampNeg v8_5)) _ _
        refine zF_ne (t := 103) (u := (78, [(0, .ref 76), (1, .int p_shop), (2, .int p_thing), (3, .int p_law), (4, .int ((p_shop * 4) + p_thing)), (5, .int (M 68 ((p_shop * 4) + p_thing).toNatClampNeg)), (6, .int v6_3), (7, .int v7_4), (8, .int v8_5)], [], zh, (zw M6 68 ((p_shop * 4) + p_thing).toNatClampNeg v8_5))) rfl (fun c24 => ?_) (fun c24 => ?_)
        · rw [if_neg c24] at h
          refine zF_go (n := 2) (ps := []) (s' := (36, [(8, .int (v8_5 + 1)), (0, .ref 76), (1, .int p_shop), (2, .int p_thing), (3, .int p_law), (4, .int ((p_shop * 4) + p_thing)), (5, .int (M 68 ((p_shop * 4) + p_thing).toNatClampNeg)), (6, .int v6_3), (7, .int v7_4)], [], zh, (zw M6 68 ((p_shop * 4) + p_thing).toNatClampNeg v8_5))) rfl trivial ?_
          exact zF_as (hrec7 _ _ h) rfl
        · rw [if_pos c24] at h
          exact zF_as (hk9 () _ h) rfl
noncomputable def qP_climbedRow_L21 (p_shop : Int32) (p_law : Int32) (rec4 : (Int32 × Int32 × zM) → Option (Int32 × zM)) (v4_2 : Int32) (rec16 : (Int32 × Int32 × zM) → Option (Int32 × zM)) (v : Int32 × Int32 × zM) : Option (Int32 × zM) := match v with
  | (v3_13, v5_14, M15) =>
    if v5_14 < (M15 63 0) then
      (zb2 (qP_moveThing M15 p_shop v5_14 p_law) fun x17 M18 =>
      if x17 = 0 then
        (rec16 (v3_13, (v5_14 + 1), M18))
      else
        (rec16 (1, (v5_14 + 1), M18)))
    else
      (rec4 (v3_13, (v4_2 + 1), M15))
noncomputable def qP_climbedRow_L5 (p_shop : Int32) (p_law : Int32) (rec4 : (Int32 × Int32 × zM) → Option (Int32 × zM)) (v : Int32 × Int32 × zM) : Option (Int32 × zM) := match v with
  | (v3_1, v4_2, M3) =>
    zlj (fun (_ : Unit) =>
      zb (qG_rowOf_63 M3 p_shop) fun x12 =>
      some (x12, M3)) fun k11 =>
    if (81 : Int32) < v4_2 then
      (k11 ())
    else
      (if v3_1 = 0 then
        (k11 ())
      else
        (zlp (qP_climbedRow_L21 p_shop p_law rec4 v4_2) zfu (0, 0, M3)))
noncomputable def qP_climbedRow (M : zM) (p_shop : Int32) (p_law : Int32) : Option (Int32 × zM) :=
  zlp (qP_climbedRow_L5 p_shop p_law) zfu (1, 0, M)
set_option maxRecDepth 20000 in
set_option maxHeartbeats 4000000 in
theorem qP_climbedRow_ok {S : zSc} {M : zM} {p_shop : Int32} {p_law : Int32} {r : Int32 × zM} (h : qP_climbedRow M p_shop p_law = some r) : zF S 43 (0, [(0, .ref 76), (1, .int p_shop), (2, .int p_law)], [], zh, M) (some (.int r.1)) (r.2) := by
  unfold qP_climbedRow at h
  refine zF_go (n := 4) (ps := []) (s' := (5, [(4, .int 0), (3, .int 1), (0, .ref 76), (1, .int p_shop), (2, .int p_law)], [], zh, M)) rfl trivial ?_
  refine zF_same (s' := (5, [(0, .ref 76), (1, .int p_shop), (2, .int p_law), (3, .int 1), (4, .int 0)], [], zh, M)) rfl ?_
  refine zlp_ind (P := fun (v : Int32 × Int32 × zM) r => zF S 43 (5, [(0, .ref 76), (1, .int p_shop), (2, .int p_law), (3, .int v.1), (4, .int v.2.1)], [], zh, v.2.2) (some (.int r.1)) (r.2)) ?_ _ _ _ h
  intro rec4 hrec4 v r h
  obtain ⟨v3_1, v4_2, M3⟩ := v
  unfold qP_climbedRow_L5 at h
  dsimp only at h
  show zF S 43 (5, [(0, .ref 76), (1, .int p_shop), (2, .int p_law), (3, .int v3_1), (4, .int v4_2)], [], zh, M3) _ _
  refine zF_go (n := 2) (ps := []) (s' := (9, [(0, .ref 76), (1, .int p_shop), (2, .int p_law), (3, .int v3_1), (4, .int v4_2)], [.int 81, .int v4_2], zh, M3)) rfl trivial ?_
  refine zlj_e h (fun k => ∀ (_ : Unit) r, k () = some r → zF S 43 (58, [(0, .ref 76), (1, .int p_shop)], [], zh, M3) (some (.int r.1)) (r.2)) ?_ ?_
  · intro _ r h
    try dsimp only at h
    refine zF_go (n := 3) (ps := []) (s' := (63, [(0, .ref 76), (1, .int p_shop)], [.int p_shop, .ref 63], zh, M3)) rfl trivial ?_
    obtain ⟨x12, e19, h⟩ := zb_some h
    refine zF_call (y' := 20) (as := [.ref 63, .int p_shop]) (u := (66, [(0, .ref 76), (1, .int p_shop)], [], zh, M3)) rfl ⟨rfl, rfl⟩ rfl (qG_rowOf_63_ok (S := S) (M := M3) e19) ?_
    show zF S 43 (66, [(0, .ref 76), (1, .int p_shop)], [.int x12], zh, M3) _ _
    cases h
    exact zF_ret rfl trivial
  · intro k11 hk11 h
    try dsimp only at h
    refine zF_gt (t := 58) (u := (12, [(0, .ref 76), (1, .int p_shop), (2, .int p_law), (3, .int v3_1), (4, .int v4_2)], [], zh, M3)) rfl (fun c20 => ?_) (fun c20 => ?_)
    · rw [if_pos c20] at h
      exact zF_as (hk11 () _ h) rfl
    · rw [if_neg c20] at h
      refine zF_go (n := 1) (ps := []) (s' := (13, [(0, .ref 76), (1, .int p_shop), (2, .int p_law), (3, .int v3_1), (4, .int v4_2)], [.int v3_1], zh, M3)) rfl trivial ?_
      refine zF_eq (t := 58) (u := (16, [(0, .ref 76), (1, .int p_shop), (2, .int p_law), (3, .int v3_1), (4, .int v4_2)], [], zh, M3)) rfl (fun c21 => ?_) (fun c21 => ?_)
      · rw [if_pos c21] at h
        exact zF_as (hk11 () _ h) rfl
      · rw [if_neg c21] at h
        refine zF_go (n := 4) (ps := []) (s' := (21, [(5, .int 0), (3, .int 0), (0, .ref 76), (1, .int p_shop), (2, .int p_law), (4, .int v4_2)], [], zh, M3)) rfl trivial ?_
        refine zF_same (s' := (21, [(0, .ref 76), (1, .int p_shop), (2, .int p_law), (3, .int 0), (4, .int v4_2), (5, .int 0)], [], zh, M3)) rfl ?_
        refine zlp_ind (P := fun (v : Int32 × Int32 × zM) r => zF S 43 (21, [(0, .ref 76), (1, .int p_shop), (2, .int p_law), (3, .int v.1), (4, .int v4_2), (5, .int v.2.1)], [], zh, v.2.2) (some (.int r.1)) (r.2)) ?_ _ _ _ h
        intro rec16 hrec16 v r h
        obtain ⟨v3_13, v5_14, M15⟩ := v
        unfold qP_climbedRow_L21 at h
        dsimp only at h
        show zF S 43 (21, [(0, .ref 76), (1, .int p_shop), (2, .int p_law), (3, .int v3_13), (4, .int v4_2), (5, .int v5_14)], [], zh, M15) _ _
        refine zF_go (n := 4) (ps := []) (s' := (30, [(0, .ref 76), (1, .int p_shop), (2, .int p_law), (3, .int v3_13), (4, .int v4_2), (5, .int v5_14)], [.int (M15 63 0), .int v5_14], zh, M15)) rfl trivial ?_
        refine zF_ge (t := 52) (u := (33, [(0, .ref 76), (1, .int p_shop), (2, .int p_law), (3, .int v3_13), (4, .int v4_2), (5, .int v5_14)], [], zh, M15)) rfl (fun c22 => ?_) (fun c22 => ?_)
        · rw [if_neg c22] at h
          refine zF_go (n := 2) (ps := []) (s' := (5, [(4, .int (v4_2 + 1)), (0, .ref 76), (1, .int p_shop), (2, .int p_law), (3, .int v3_13), (5, .int v5_14)], [], zh, M15)) rfl trivial ?_
          exact zF_as (hrec4 _ _ h) rfl
        · rw [if_pos c22] at h
          refine zF_go (n := 4) (ps := []) (s' := (38, [(0, .ref 76), (1, .int p_shop), (2, .int p_law), (3, .int v3_13), (4, .int v4_2), (5, .int v5_14)], [.int p_law, .int v5_14, .int p_shop, .ref 76], zh, M15)) rfl trivial ?_
          obtain ⟨x17, M18, e23, h⟩ := zb2_some h
          refine zF_call (y' := 44) (as := [.ref 76, .int p_shop, .int v5_14, .int p_law]) (u := (41, [(0, .ref 76), (1, .int p_shop), (2, .int p_law), (3, .int v3_13), (4, .int v4_2), (5, .int v5_14)], [], zh, M15)) rfl ⟨rfl, rfl⟩ rfl (qP_moveThing_ok (S := S) (M := M15) e23) ?_
          show zF S 43 (41, [(0, .ref 76), (1, .int p_shop), (2, .int p_law), (3, .int v3_13), (4, .int v4_2), (5, .int v5_14)], [.int x17], zh, M18) _ _
          refine zF_eq (t := 46) (u := (44, [(0, .ref 76), (1, .int p_shop), (2, .int p_law), (3, .int v3_13), (4, .int v4_2), (5, .int v5_14)], [], zh, M18)) rfl (fun c24 => ?_) (fun c24 => ?_)
          · rw [if_pos c24] at h
            refine zF_go (n := 2) (ps := []) (s' := (21, [(5, .int (v5_14 + 1)), (0, .ref 76), (1, .int p_shop), (2, .int p_law), (3, .int v3_13), (4, .int v4_2)], [], zh, M18)) rfl trivial ?_
            exact zF_as (hrec16 _ _ h) rfl
          · rw [if_neg c24] at h
            refine zF_go (n := 2) (ps := []) (s' := (46, [(3, .int 1), (0, .ref 76), (1, .int p_shop), (2, .int p_law), (4, .int v4_2), (5, .int v5_14)], [], zh, M18)) rfl trivial ?_
            refine zF_go (n := 2) (ps := []) (s' := (21, [(5, .int (v5_14 + 1)), (0, .ref 76), (1, .int p_shop), (2, .int p_law), (3, .int 1), (4, .int v4_2)], [], zh, M18)) rfl trivial ?_
            exact zF_as (hrec16 _ _ h) rfl
noncomputable def qP_raiseAlone_L2 (p_shop : Int32) (p_first : Int32) (rec3 : (Int32 × zM) → Option (zM)) (v : Int32 × zM) : Option (zM) := match v with
  | (v3_1, M2) =>
    if v3_1 < (M2 10 0) then
      (zb2 (qW_send M2 v3_1) fun x4 M5 =>
      zb (qW_brought M5 v3_1 p_shop) fun x6 =>
      if p_first = 0 then
        (zq (vp_in v3_1 5) <| zq (vp_in v3_1 5) <| rec3 ((v3_1 + 1), (zw M5 77 v3_1.toNatClampNeg (if (M5 77 v3_1.toNatClampNeg) < x6 then x6 else (M5 77 v3_1.toNatClampNeg)))))
      else
        (zq (vp_in v3_1 5) <| rec3 ((v3_1 + 1), (zw M5 77 v3_1.toNatClampNeg x6))))
    else
      (some M2)
noncomputable def qP_raiseAlone (M : zM) (p_shop : Int32) (p_first : Int32) : Option (zM) :=
  zlp (qP_raiseAlone_L2 p_shop p_first) zfu (0, M)
set_option maxRecDepth 20000 in
set_option maxHeartbeats 4000000 in
theorem qP_raiseAlone_ok {S : zSc} {M : zM} {p_shop : Int32} {p_first : Int32} {r : zM} (h : qP_raiseAlone M p_shop p_first = some r) : zF S 46 (0, [(0, .ref 76), (1, .int p_shop), (2, .int p_first)], [], zh, M) (none) (r) := by
  unfold qP_raiseAlone at h
  refine zF_go (n := 2) (ps := []) (s' := (2, [(3, .int 0), (0, .ref 76), (1, .int p_shop), (2, .int p_first)], [], zh, M)) rfl trivial ?_
  refine zF_same (s' := (2, [(0, .ref 76), (1, .int p_shop), (2, .int p_first), (3, .int 0)], [], zh, M)) rfl ?_
  refine zlp_ind (P := fun (v : Int32 × zM) r => zF S 46 (2, [(0, .ref 76), (1, .int p_shop), (2, .int p_first), (3, .int v.1)], [], zh, v.2) (none) (r)) ?_ _ _ _ h
  intro rec3 hrec3 v r h
  obtain ⟨v3_1, M2⟩ := v
  unfold qP_raiseAlone_L2 at h
  dsimp only at h
  show zF S 46 (2, [(0, .ref 76), (1, .int p_shop), (2, .int p_first), (3, .int v3_1)], [], zh, M2) _ _
  refine zF_go (n := 4) (ps := []) (s' := (10, [(0, .ref 76), (1, .int p_shop), (2, .int p_first), (3, .int v3_1)], [.int (M2 10 0), .int v3_1], zh, M2)) rfl trivial ?_
  refine zF_ge (t := 65) (u := (13, [(0, .ref 76), (1, .int p_shop), (2, .int p_first), (3, .int v3_1)], [], zh, M2)) rfl (fun c7 => ?_) (fun c7 => ?_)
  · rw [if_neg c7] at h
    cases h
    exact zF_ret rfl trivial
  · rw [if_pos c7] at h
    refine zF_go (n := 3) (ps := []) (s' := (18, [(0, .ref 76), (1, .int p_shop), (2, .int p_first), (3, .int v3_1)], [.int v3_1, .ref 70], zh, M2)) rfl trivial ?_
    obtain ⟨x4, M5, e8, h⟩ := zb2_some h
    refine zF_call (y' := 75) (as := [.ref 70, .int v3_1]) (u := (21, [(0, .ref 76), (1, .int p_shop), (2, .int p_first), (3, .int v3_1)], [], zh, M2)) rfl ⟨rfl, rfl⟩ rfl (qW_send_ok (S := S) (M := M2) e8) ?_
    show zF S 46 (21, [(0, .ref 76), (1, .int p_shop), (2, .int p_first), (3, .int v3_1)], [.int x4], zh, M5) _ _
    refine zF_go (n := 5) (ps := []) (s' := (28, [(0, .ref 76), (1, .int p_shop), (2, .int p_first), (3, .int v3_1)], [.int p_shop, .int v3_1, .ref 70], zh, M5)) rfl trivial ?_
    obtain ⟨x6, e9, h⟩ := zb_some h
    refine zF_call (y' := 76) (as := [.ref 70, .int v3_1, .int p_shop]) (u := (31, [(0, .ref 76), (1, .int p_shop), (2, .int p_first), (3, .int v3_1)], [], zh, M5)) rfl ⟨rfl, rfl⟩ rfl (qW_brought_ok (S := S) (M := M5) e9) ?_
    show zF S 46 (31, [(0, .ref 76), (1, .int p_shop), (2, .int p_first), (3, .int v3_1)], [.int x6], zh, M5) _ _
    refine zF_go (n := 5) (ps := []) (s' := (39, [(4, .int x6), (0, .ref 76), (1, .int p_shop), (2, .int p_first), (3, .int v3_1)], [.int p_first, .int v3_1, .ref 77], zh, M5)) rfl trivial ?_
    refine zF_eq (t := 47) (u := (42, [(4, .int x6), (0, .ref 76), (1, .int p_shop), (2, .int p_first), (3, .int v3_1)], [.int v3_1, .ref 77], zh, M5)) rfl (fun c10 => ?_) (fun c10 => ?_)
    · rw [if_pos c10] at h
      obtain ⟨g11, h⟩ := zq_some h
      refine zF_go (n := 6) (ps := [vp_in v3_1 5]) (s' := (58, [(4, .int x6), (0, .ref 76), (1, .int p_shop), (2, .int p_first), (3, .int v3_1)], [.int (if (M5 77 v3_1.toNatClampNeg) < x6 then x6 else (M5 77 v3_1.toNatClampNeg)), .int v3_1, .ref 77], zh, M5)) rfl ⟨g11, trivial⟩ ?_
      obtain ⟨g12, h⟩ := zq_some h
      refine zF_go (n := 3) (ps := [vp_in v3_1 5]) (s' := (2, [(3, .int (v3_1 + 1)), (0, .ref 76), (1, .int p_shop), (2, .int p_first)], [], zh, (zw M5 77 v3_1.toNatClampNeg (if (M5 77 v3_1.toNatClampNeg) < x6 then x6 else (M5 77 v3_1.toNatClampNeg))))) rfl ⟨g12, trivial⟩ ?_
      exact zF_as (hrec3 _ _ h) rfl
    · rw [if_neg c10] at h
      refine zF_go (n := 2) (ps := []) (s' := (58, [(4, .int x6), (0, .ref 76), (1, .int p_shop), (2, .int p_first), (3, .int v3_1)], [.int x6, .int v3_1, .ref 77], zh, M5)) rfl trivial ?_
      obtain ⟨g13, h⟩ := zq_some h
      refine zF_go (n := 3) (ps := [vp_in v3_1 5]) (s' := (2, [(3, .int (v3_1 + 1)), (0, .ref 76), (1, .int p_shop), (2, .int p_first)], [], zh, (zw M5 77 v3_1.toNatClampNeg x6))) rfl ⟨g13, trivial⟩ ?_
      exact zF_as (hrec3 _ _ h) rfl
noncomputable def qP_boundOf_L72 (M4 : zM) (v4_2 : Int32) (rec8 : (Int32 × Int32) → Option (Int32 × zM)) (v : Int32 × Int32) : Option (Int32 × zM) := match v with
  | (v5_6, v6_7) =>
    if v6_7 < (M4 10 0) then
      (if v4_2 = 0 then
        (rec8 ((v5_6 + 0), (v6_7 + 1)))
      else
        (zq (vp_in v6_7 5) <| rec8 ((v5_6 + (M4 77 v6_7.toNatClampNeg)), (v6_7 + 1))))
    else
      (some (v5_6, M4))
noncomputable def qP_boundOf_L14 (x1 : Int32) (p_shop : Int32) (p_law : Int32) (rec5 : (Int32 × Int32 × zM) → Option (Int32 × zM)) (v : Int32 × Int32 × zM) : Option (Int32 × zM) := match v with
  | (v4_2, v5_3, M4) =>
    if v5_3 < x1 then
      (zb (qG_putRow M4 p_shop v5_3) fun M9 =>
      zb (qG_isLawful M9 p_shop p_law) fun x10 =>
      if x10 = 0 then
        (rec5 (v4_2, (v5_3 + 1), M9))
      else
        (zb (qP_raiseAlone M9 p_shop (if v4_2 = 0 then 1 else 0)) fun M12 =>
        rec5 (1, (v5_3 + 1), M12)))
    else
      (zlp (qP_boundOf_L72 M4 v4_2) zfu (0, 0))
noncomputable def qP_boundOf (M : zM) (p_shop : Int32) (p_law : Int32) : Option (Int32 × zM) :=
  zb (qG_rowCount_63 M) fun x1 =>
  zlp (qP_boundOf_L14 x1 p_shop p_law) zfu (0, 0, M)
set_option maxRecDepth 20000 in
set_option maxHeartbeats 4000000 in
theorem qP_boundOf_ok {S : zSc} {M : zM} {p_shop : Int32} {p_law : Int32} {r : Int32 × zM} (h : qP_boundOf M p_shop p_law = some r) : zF S 45 (0, [(0, .ref 76), (1, .int p_shop), (2, .int p_law)], [], zh, M) (some (.int r.1)) (r.2) := by
  unfold qP_boundOf at h
  refine zF_go (n := 2) (ps := []) (s' := (4, [(0, .ref 76), (1, .int p_shop), (2, .int p_law)], [.ref 63], zh, M)) rfl trivial ?_
  obtain ⟨x1, e13, h⟩ := zb_some h
  refine zF_call (y' := 19) (as := [.ref 63]) (u := (7, [(0, .ref 76), (1, .int p_shop), (2, .int p_law)], [], zh, M)) rfl ⟨rfl, rfl⟩ rfl (qG_rowCount_63_ok (S := S) (M := M) e13) ?_
  show zF S 45 (7, [(0, .ref 76), (1, .int p_shop), (2, .int p_law)], [.int x1], zh, M) _ _
  refine zF_go (n := 5) (ps := []) (s' := (14, [(5, .int 0), (4, .int 0), (3, .int x1), (0, .ref 76), (1, .int p_shop), (2, .int p_law)], [], zh, M)) rfl trivial ?_
  refine zF_same (s' := (14, [(0, .ref 76), (1, .int p_shop), (2, .int p_law), (3, .int x1), (4, .int 0), (5, .int 0)], [], zh, M)) rfl ?_
  refine zlp_ind (P := fun (v : Int32 × Int32 × zM) r => zF S 45 (14, [(0, .ref 76), (1, .int p_shop), (2, .int p_law), (3, .int x1), (4, .int v.1), (5, .int v.2.1)], [], zh, v.2.2) (some (.int r.1)) (r.2)) ?_ _ _ _ h
  intro rec5 hrec5 v r h
  obtain ⟨v4_2, v5_3, M4⟩ := v
  unfold qP_boundOf_L14 at h
  dsimp only at h
  show zF S 45 (14, [(0, .ref 76), (1, .int p_shop), (2, .int p_law), (3, .int x1), (4, .int v4_2), (5, .int v5_3)], [], zh, M4) _ _
  refine zF_go (n := 2) (ps := []) (s' := (17, [(0, .ref 76), (1, .int p_shop), (2, .int p_law), (3, .int x1), (4, .int v4_2), (5, .int v5_3)], [.int x1, .int v5_3], zh, M4)) rfl trivial ?_
  refine zF_ge (t := 66) (u := (20, [(0, .ref 76), (1, .int p_shop), (2, .int p_law), (3, .int x1), (4, .int v4_2), (5, .int v5_3)], [], zh, M4)) rfl (fun c14 => ?_) (fun c14 => ?_)
  · rw [if_neg c14] at h
    refine zF_go (n := 4) (ps := []) (s' := (72, [(6, .int 0), (5, .int 0), (0, .ref 76), (1, .int p_shop), (2, .int p_law), (3, .int x1), (4, .int v4_2)], [], zh, M4)) rfl trivial ?_
    refine zF_same (s' := (72, [(0, .ref 76), (4, .int v4_2), (5, .int 0), (6, .int 0)], [], zh, M4)) rfl ?_
    refine zlp_ind (P := fun (v : Int32 × Int32) r => zF S 45 (72, [(0, .ref 76), (4, .int v4_2), (5, .int v.1), (6, .int v.2)], [], zh, M4) (some (.int r.1)) (r.2)) ?_ _ _ _ h
    intro rec8 hrec8 v r h
    obtain ⟨v5_6, v6_7⟩ := v
    unfold qP_boundOf_L72 at h
    dsimp only at h
    show zF S 45 (72, [(0, .ref 76), (4, .int v4_2), (5, .int v5_6), (6, .int v6_7)], [], zh, M4) _ _
    refine zF_go (n := 4) (ps := []) (s' := (81, [(0, .ref 76), (4, .int v4_2), (5, .int v5_6), (6, .int v6_7)], [.int (M4 10 0), .int v6_7], zh, M4)) rfl trivial ?_
    refine zF_ge (t := 111) (u := (84, [(0, .ref 76), (4, .int v4_2), (5, .int v5_6), (6, .int v6_7)], [], zh, M4)) rfl (fun c15 => ?_) (fun c15 => ?_)
    · rw [if_neg c15] at h
      refine zF_go (n := 1) (ps := []) (s' := (113, [(0, .ref 76), (4, .int v4_2), (5, .int v5_6), (6, .int v6_7)], [.int v5_6], zh, M4)) rfl trivial ?_
      cases h
      exact zF_ret rfl trivial
    · rw [if_pos c15] at h
      refine zF_go (n := 2) (ps := []) (s' := (88, [(0, .ref 76), (4, .int v4_2), (5, .int v5_6), (6, .int v6_7)], [.int v4_2, .int v5_6], zh, M4)) rfl trivial ?_
      refine zF_eq (t := 101) (u := (91, [(0, .ref 76), (4, .int v4_2), (5, .int v5_6), (6, .int v6_7)], [.int v5_6], zh, M4)) rfl (fun c16 => ?_) (fun c16 => ?_)
      · rw [if_pos c16] at h
        refine zF_go (n := 1) (ps := []) (s' := (102, [(0, .ref 76), (4, .int v4_2), (5, .int v5_6), (6, .int v6_7)], [.int 0, .int v5_6], zh, M4)) rfl trivial ?_
        refine zF_go (n := 4) (ps := []) (s' := (72, [(6, .int (v6_7 + 1)), (5, .int (v5_6 + 0)), (0, .ref 76), (4, .int v4_2)], [], zh, M4)) rfl trivial ?_
        exact zF_as (hrec8 _ _ h) rfl
      · rw [if_neg c16] at h
        obtain ⟨g17, h⟩ := zq_some h
        refine zF_go (n := 5) (ps := [vp_in v6_7 5]) (s' := (102, [(0, .ref 76), (4, .int v4_2), (5, .int v5_6), (6, .int v6_7)], [.int (M4 77 v6_7.toNatClampNeg), .int v5_6], zh, M4)) rfl ⟨g17, trivial⟩ ?_
        refine zF_go (n := 4) (ps := []) (s' := (72, [(6, .int (v6_7 + 1)), (5, .int (v5_6 + (M4 77 v6_7.toNatClampNeg))), (0, .ref 76), (4, .int v4_2)], [], zh, M4)) rfl trivial ?_
        exact zF_as (hrec8 _ _ h) rfl
  · rw [if_pos c14] at h
    refine zF_go (n := 4) (ps := []) (s' := (27, [(0, .ref 76), (1, .int p_shop), (2, .int p_law), (3, .int x1), (4, .int v4_2), (5, .int v5_3)], [.int v5_3, .int p_shop, .ref 63], zh, M4)) rfl trivial ?_
    obtain ⟨M9, e18, h⟩ := zb_some h
    refine zF_call (y' := 21) (as := [.ref 63, .int p_shop, .int v5_3]) (u := (30, [(0, .ref 76), (1, .int p_shop), (2, .int p_law), (3, .int x1), (4, .int v4_2), (5, .int v5_3)], [], zh, M4)) rfl ⟨rfl, rfl⟩ rfl (qG_putRow_ok (S := S) (M := M4) e18) ?_
    show zF S 45 (30, [(0, .ref 76), (1, .int p_shop), (2, .int p_law), (3, .int x1), (4, .int v4_2), (5, .int v5_3)], [], zh, M9) _ _
    refine zF_go (n := 4) (ps := []) (s' := (36, [(0, .ref 76), (1, .int p_shop), (2, .int p_law), (3, .int x1), (4, .int v4_2), (5, .int v5_3)], [.int p_law, .int p_shop, .ref 63], zh, M9)) rfl trivial ?_
    obtain ⟨x10, e19, h⟩ := zb_some h
    refine zF_call (y' := 24) (as := [.ref 63, .int p_shop, .int p_law]) (u := (39, [(0, .ref 76), (1, .int p_shop), (2, .int p_law), (3, .int x1), (4, .int v4_2), (5, .int v5_3)], [], zh, M9)) rfl ⟨rfl, rfl⟩ rfl (qG_isLawful_ok (S := S) (M := M9) e19) ?_
    show zF S 45 (39, [(0, .ref 76), (1, .int p_shop), (2, .int p_law), (3, .int x1), (4, .int v4_2), (5, .int v5_3)], [.int x10], zh, M9) _ _
    refine zF_eq (t := 60) (u := (42, [(0, .ref 76), (1, .int p_shop), (2, .int p_law), (3, .int x1), (4, .int v4_2), (5, .int v5_3)], [], zh, M9)) rfl (fun c20 => ?_) (fun c20 => ?_)
    · rw [if_pos c20] at h
      refine zF_go (n := 2) (ps := []) (s' := (14, [(5, .int (v5_3 + 1)), (0, .ref 76), (1, .int p_shop), (2, .int p_law), (3, .int x1), (4, .int v4_2)], [], zh, M9)) rfl trivial ?_
      exact zF_as (hrec5 _ _ h) rfl
    · rw [if_neg c20] at h
      refine zF_go (n := 3) (ps := []) (s' := (46, [(0, .ref 76), (1, .int p_shop), (2, .int p_law), (3, .int x1), (4, .int v4_2), (5, .int v5_3)], [.int v4_2, .int p_shop, .ref 76], zh, M9)) rfl trivial ?_
      have hk21 : zF S 45 (54, [(0, .ref 76), (1, .int p_shop), (2, .int p_law), (3, .int x1), (5, .int v5_3)], [.int (if v4_2 = 0 then 1 else 0), .int p_shop, .ref 76], zh, M9) (some (.int r.1)) (r.2) := by
        obtain ⟨M12, e22, h⟩ := zb_some h
        refine zF_call (y' := 46) (as := [.ref 76, .int p_shop, .int (if v4_2 = 0 then 1 else 0)]) (u := (57, [(0, .ref 76), (1, .int p_shop), (2, .int p_law), (3, .int x1), (5, .int v5_3)], [], zh, M9)) rfl ⟨rfl, rfl⟩ rfl (qP_raiseAlone_ok (S := S) (M := M9) e22) ?_
        show zF S 45 (57, [(0, .ref 76), (1, .int p_shop), (2, .int p_law), (3, .int x1), (5, .int v5_3)], [], zh, M12) _ _
        refine zF_go (n := 2) (ps := []) (s' := (60, [(4, .int 1), (0, .ref 76), (1, .int p_shop), (2, .int p_law), (3, .int x1), (5, .int v5_3)], [], zh, M12)) rfl trivial ?_
        refine zF_go (n := 2) (ps := []) (s' := (14, [(5, .int (v5_3 + 1)), (0, .ref 76), (1, .int p_shop), (2, .int p_law), (3, .int x1), (4, .int 1)], [], zh, M12)) rfl trivial ?_
        exact zF_as (hrec5 _ _ h) rfl
      refine zF_ne (t := 53) (u := (49, [(0, .ref 76), (1, .int p_shop), (2, .int p_law), (3, .int x1), (4, .int v4_2), (5, .int v5_3)], [.int p_shop, .ref 76], zh, M9)) rfl (fun c23 => ?_) (fun c23 => ?_)
      · skip
        refine zF_go (n := 1) (ps := []) (s' := (54, [(0, .ref 76), (1, .int p_shop), (2, .int p_law), (3, .int x1), (4, .int v4_2), (5, .int v5_3)], [.int 0, .int p_shop, .ref 76], zh, M9)) rfl trivial ?_
        simp only [if_neg c23] at hk21
        try simp only [if_neg c23]
        exact zF_as hk21 rfl
      · skip
        refine zF_go (n := 2) (ps := []) (s' := (54, [(0, .ref 76), (1, .int p_shop), (2, .int p_law), (3, .int x1), (4, .int v4_2), (5, .int v5_3)], [.int 1, .int p_shop, .ref 76], zh, M9)) rfl trivial ?_
        simp only [if_pos c23] at hk21
        try simp only [if_pos c23]
        exact zF_as hk21 rfl
noncomputable def qS_most (M : zM) (p_shop : Int32) (p_what : Int32) : Option (Int64 × zM) :=
  zb (qS_noShop p_shop) fun x1 =>
  if x1 = 0 then
    (zb (qS_isOut p_what 0 2) fun x2 =>
    if x2 = 0 then
      (zb (qS_forbidsAll M p_shop (M 2 3)) fun x3 =>
      if x3 = 0 then
        (zb (qS_lookAsItIs M) fun M4 =>
        if p_what = 2 then
          (zb2 (qP_boundOf M4 p_shop (M4 2 3)) fun x25 M26 =>
          some (x25.toInt64, M26))
        else
          (zlj (fun (w12 : Int32) (M13 : zM) =>
            zb (qG_putRow M13 p_shop w12) fun M15 =>
            zb2 (qW_leftOf M15 p_shop) fun x16 M17 =>
            some (x16.toInt64, M17)) fun k14 =>
          if p_what = 0 then
            (zb2 (qP_bestRow M4 p_shop (M4 2 3)) fun x23 M24 =>
            k14 x23 M24)
          else
            (zb2 (qP_climbedRow M4 p_shop (M4 2 3)) fun x18 M19 =>
            zb (qG_putRow M19 p_shop x18) fun M20 =>
            zb2 (qW_leftOf M20 p_shop) fun x21 M22 =>
            some (x21.toInt64, M22))))
      else
        (some ((-1000000000000000005), M)))
    else
      (some ((-1000000000000000002), M)))
  else
    (some ((-1000000000000000001), M))
set_option maxRecDepth 20000 in
set_option maxHeartbeats 4000000 in
theorem qS_most_ok {S : zSc} {M : zM} {p_shop : Int32} {p_what : Int32} {r : Int64 × zM} (h : qS_most M p_shop p_what = some r) : zF S 106 (0, [(0, .ref 1), (1, .int p_shop), (2, .int p_what)], [], zh, M) (some (.long r.1)) (r.2) := by
  unfold qS_most at h
  refine zF_go (n := 1) (ps := []) (s' := (1, [(0, .ref 1), (1, .int p_shop), (2, .int p_what)], [.int p_shop], zh, M)) rfl trivial ?_
  obtain ⟨x1, e27, h⟩ := zb_some h
  refine zF_call (y' := 126) (as := [.int p_shop]) (u := (4, [(0, .ref 1), (1, .int p_shop), (2, .int p_what)], [], zh, M)) rfl ⟨rfl, rfl⟩ rfl (qS_noShop_ok (S := S) (M := M) e27) ?_
  show zF S 106 (4, [(0, .ref 1), (1, .int p_shop), (2, .int p_what)], [.int x1], zh, M) _ _
  refine zF_eq (t := 11) (u := (7, [(0, .ref 1), (1, .int p_shop), (2, .int p_what)], [], zh, M)) rfl (fun c28 => ?_) (fun c28 => ?_)
  · rw [if_pos c28] at h
    refine zF_go (n := 3) (ps := []) (s' := (14, [(0, .ref 1), (1, .int p_shop), (2, .int p_what)], [.int 2, .int 0, .int p_what], zh, M)) rfl trivial ?_
    obtain ⟨x2, e29, h⟩ := zb_some h
    refine zF_call (y' := 125) (as := [.int p_what, .int 0, .int 2]) (u := (17, [(0, .ref 1), (1, .int p_shop), (2, .int p_what)], [], zh, M)) rfl ⟨rfl, rfl⟩ rfl (qS_isOut_ok (S := S) (M := M) e29) ?_
    show zF S 106 (17, [(0, .ref 1), (1, .int p_shop), (2, .int p_what)], [.int x2], zh, M) _ _
    refine zF_eq (t := 24) (u := (20, [(0, .ref 1), (1, .int p_shop), (2, .int p_what)], [], zh, M)) rfl (fun c30 => ?_) (fun c30 => ?_)
    · rw [if_pos c30] at h
      refine zF_go (n := 5) (ps := []) (s' := (33, [(0, .ref 1), (1, .int p_shop), (2, .int p_what)], [.int (M 2 3), .int p_shop, .ref 1], zh, M)) rfl trivial ?_
      obtain ⟨x3, e31, h⟩ := zb_some h
      refine zF_call (y' := 130) (as := [.ref 1, .int p_shop, .int (M 2 3)]) (u := (36, [(0, .ref 1), (1, .int p_shop), (2, .int p_what)], [], zh, M)) rfl ⟨rfl, rfl⟩ rfl (qS_forbidsAll_ok (S := S) (M := M) e31) ?_
      show zF S 106 (36, [(0, .ref 1), (1, .int p_shop), (2, .int p_what)], [.int x3], zh, M) _ _
      refine zF_eq (t := 43) (u := (39, [(0, .ref 1), (1, .int p_shop), (2, .int p_what)], [], zh, M)) rfl (fun c32 => ?_) (fun c32 => ?_)
      · rw [if_pos c32] at h
        refine zF_go (n := 1) (ps := []) (s' := (44, [(0, .ref 1), (1, .int p_shop), (2, .int p_what)], [.ref 1], zh, M)) rfl trivial ?_
        obtain ⟨M4, e33, h⟩ := zb_some h
        refine zF_call (y' := 132) (as := [.ref 1]) (u := (47, [(0, .ref 1), (1, .int p_shop), (2, .int p_what)], [], zh, M)) rfl ⟨rfl, rfl⟩ rfl (qS_lookAsItIs_ok (S := S) (M := M) e33) ?_
        show zF S 106 (47, [(0, .ref 1), (1, .int p_shop), (2, .int p_what)], [], zh, M4) _ _
        refine zF_go (n := 2) (ps := []) (s' := (49, [(0, .ref 1), (1, .int p_shop), (2, .int p_what)], [.int 2, .int p_what], zh, M4)) rfl trivial ?_
        refine zF_ne (t := 69) (u := (52, [(0, .ref 1), (1, .int p_shop), (2, .int p_what)], [], zh, M4)) rfl (fun c34 => ?_) (fun c34 => ?_)
        · rw [if_neg c34] at h
          refine zF_go (n := 4) (ps := []) (s' := (75, [(0, .ref 1), (1, .int p_shop), (2, .int p_what)], [.int p_what, .int p_shop, .ref 63], zh, M4)) rfl trivial ?_
          refine zlj_e h (fun k => ∀ (w12 : Int32) (M13 : zM) r, k w12 M13 = some r → zF S 106 (111, [(0, .ref 1), (1, .int p_shop)], [.int w12, .int p_shop, .ref 63], zh, M13) (some (.long r.1)) (r.2)) ?_ ?_
          · intro w12 M13 r h
            try dsimp only at h
            obtain ⟨M15, e35, h⟩ := zb_some h
            refine zF_call (y' := 21) (as := [.ref 63, .int p_shop, .int w12]) (u := (114, [(0, .ref 1), (1, .int p_shop)], [], zh, M13)) rfl ⟨rfl, rfl⟩ rfl (qG_putRow_ok (S := S) (M := M13) e35) ?_
            show zF S 106 (114, [(0, .ref 1), (1, .int p_shop)], [], zh, M15) _ _
            refine zF_go (n := 3) (ps := []) (s' := (119, [(0, .ref 1), (1, .int p_shop)], [.int p_shop, .ref 70], zh, M15)) rfl trivial ?_
            obtain ⟨x16, M17, e36, h⟩ := zb2_some h
            refine zF_call (y' := 78) (as := [.ref 70, .int p_shop]) (u := (122, [(0, .ref 1), (1, .int p_shop)], [], zh, M15)) rfl ⟨rfl, rfl⟩ rfl (qW_leftOf_ok (S := S) (M := M15) e36) ?_
            show zF S 106 (122, [(0, .ref 1), (1, .int p_shop)], [.int x16], zh, M17) _ _
            refine zF_go (n := 1) (ps := []) (s' := (123, [(0, .ref 1), (1, .int p_shop)], [.long x16.toInt64], zh, M17)) rfl trivial ?_
            cases h
            exact zF_ret rfl trivial
          · intro k14 hk14 h
            try dsimp only at h
            refine zF_ne (t := 96) (u := (78, [(0, .ref 1), (1, .int p_shop), (2, .int p_what)], [.int p_shop, .ref 63], zh, M4)) rfl (fun c37 => ?_) (fun c37 => ?_)
            · rw [if_neg c37] at h
              refine zF_go (n := 6) (ps := []) (s' := (108, [(0, .ref 1), (1, .int p_shop), (2, .int p_what)], [.int (M4 2 3), .int p_shop, .ref 76, .int p_shop, .ref 63], zh, M4)) rfl trivial ?_
              obtain ⟨x18, M19, e38, h⟩ := zb2_some h
              refine zF_call (y' := 43) (as := [.ref 76, .int p_shop, .int (M4 2 3)]) (u := (111, [(0, .ref 1), (1, .int p_shop), (2, .int p_what)], [.int p_shop, .ref 63], zh, M4)) rfl ⟨rfl, rfl⟩ rfl (qP_climbedRow_ok (S := S) (M := M4) e38) ?_
              show zF S 106 (111, [(0, .ref 1), (1, .int p_shop), (2, .int p_what)], [.int x18, .int p_shop, .ref 63], zh, M19) _ _
              obtain ⟨M20, e39, h⟩ := zb_some h
              refine zF_call (y' := 21) (as := [.ref 63, .int p_shop, .int x18]) (u := (114, [(0, .ref 1), (1, .int p_shop)], [], zh, M19)) rfl ⟨rfl, rfl⟩ rfl (qG_putRow_ok (S := S) (M := M19) e39) ?_
              show zF S 106 (114, [(0, .ref 1), (1, .int p_shop)], [], zh, M20) _ _
              refine zF_go (n := 3) (ps := []) (s' := (119, [(0, .ref 1), (1, .int p_shop)], [.int p_shop, .ref 70], zh, M20)) rfl trivial ?_
              obtain ⟨x21, M22, e40, h⟩ := zb2_some h
              refine zF_call (y' := 78) (as := [.ref 70, .int p_shop]) (u := (122, [(0, .ref 1), (1, .int p_shop)], [], zh, M20)) rfl ⟨rfl, rfl⟩ rfl (qW_leftOf_ok (S := S) (M := M20) e40) ?_
              show zF S 106 (122, [(0, .ref 1), (1, .int p_shop)], [.int x21], zh, M22) _ _
              refine zF_go (n := 1) (ps := []) (s' := (123, [(0, .ref 1), (1, .int p_shop)], [.long x21.toInt64], zh, M22)) rfl trivial ?_
              cases h
              exact zF_ret rfl trivial
            · rw [if_pos c37] at h
              refine zF_go (n := 6) (ps := []) (s' := (90, [(0, .ref 1), (1, .int p_shop), (2, .int p_what)], [.int (M4 2 3), .int p_shop, .ref 76, .int p_shop, .ref 63], zh, M4)) rfl trivial ?_
              obtain ⟨x23, M24, e41, h⟩ := zb2_some h
              refine zF_call (y' := 42) (as := [.ref 76, .int p_shop, .int (M4 2 3)]) (u := (93, [(0, .ref 1), (1, .int p_shop), (2, .int p_what)], [.int p_shop, .ref 63], zh, M4)) rfl ⟨rfl, rfl⟩ rfl (qP_bestRow_ok (S := S) (M := M4) e41) ?_
              show zF S 106 (93, [(0, .ref 1), (1, .int p_shop), (2, .int p_what)], [.int x23, .int p_shop, .ref 63], zh, M24) _ _
              refine zF_go (n := 1) (ps := []) (s' := (111, [(0, .ref 1), (1, .int p_shop), (2, .int p_what)], [.int x23, .int p_shop, .ref 63], zh, M24)) rfl trivial ?_
              exact zF_as (hk14 _ _ _ h) rfl
        · rw [if_pos c34] at h
          refine zF_go (n := 6) (ps := []) (s' := (64, [(0, .ref 1), (1, .int p_shop), (2, .int p_what)], [.int (M4 2 3), .int p_shop, .ref 76], zh, M4)) rfl trivial ?_
          obtain ⟨x25, M26, e42, h⟩ := zb2_some h
          refine zF_call (y' := 45) (as := [.ref 76, .int p_shop, .int (M4 2 3)]) (u := (67, [(0, .ref 1), (1, .int p_shop), (2, .int p_what)], [], zh, M4)) rfl ⟨rfl, rfl⟩ rfl (qP_boundOf_ok (S := S) (M := M4) e42) ?_
          show zF S 106 (67, [(0, .ref 1), (1, .int p_shop), (2, .int p_what)], [.int x25], zh, M26) _ _
          refine zF_go (n := 1) (ps := []) (s' := (68, [(0, .ref 1), (1, .int p_shop), (2, .int p_what)], [.long x25.toInt64], zh, M26)) rfl trivial ?_
          cases h
          exact zF_ret rfl trivial
      · rw [if_neg c32] at h
        refine zF_go (n := 1) (ps := []) (s' := (42, [(0, .ref 1), (1, .int p_shop), (2, .int p_what)], [.long (-1000000000000000005)], zh, M)) rfl trivial ?_
        cases h
        exact zF_ret rfl trivial
    · rw [if_neg c30] at h
      refine zF_go (n := 1) (ps := []) (s' := (23, [(0, .ref 1), (1, .int p_shop), (2, .int p_what)], [.long (-1000000000000000002)], zh, M)) rfl trivial ?_
      cases h
      exact zF_ret rfl trivial
  · rw [if_neg c28] at h
    refine zF_go (n := 1) (ps := []) (s' := (10, [(0, .ref 1), (1, .int p_shop), (2, .int p_what)], [.long (-1000000000000000001)], zh, M)) rfl trivial ?_
    cases h
    exact zF_ret rfl trivial
noncomputable def qM_climbUp_L48 (v3_5 : Int32) (p_shop : Int32) (v2_4 : Int32) (M6 : zM) (rec7 : (Int32 × Int32 × zM) → Option (zM)) (rec13 : (Int32 × Int32 × Int32 × zM) → Option (zM)) (v : Int32 × Int32 × Int32 × zM) : Option (zM) := match v with
  | (v5_9, v7_10, v8_11, M12) =>
    zq (vp_in v3_5 4) <| if v8_11 < (M12 92 v3_5.toNatClampNeg) then
      (zq (vp_in ((4 * p_shop) + v3_5) 8) <| zlj (fun (_ : Unit) =>
        zb (qM_leftOf (zw M12 89 ((4 * p_shop) + v3_5).toNatClampNeg v8_11) p_shop) fun x16 =>
        if v7_10 < x16 then
          (rec13 (v8_11, x16, (v8_11 + 1), (zw M12 89 ((4 * p_shop) + v3_5).toNatClampNeg v8_11)))
        else
          (rec13 (v5_9, v7_10, (v8_11 + 1), (zw M12 89 ((4 * p_shop) + v3_5).toNatClampNeg v8_11)))) fun k15 =>
      if (M12 86 18) = 0 then
        (k15 ())
      else
        (zb (qM_isBelow (zw M12 89 ((4 * p_shop) + v3_5).toNatClampNeg v8_11) p_shop v3_5) fun x17 =>
        if x17 = 0 then
          (k15 ())
        else
          (rec13 (v5_9, v7_10, (v8_11 + 1), (zw M12 89 ((4 * p_shop) + v3_5).toNatClampNeg v8_11)))))
    else
      (zq (vp_in ((4 * p_shop) + v3_5) 8) <| if v2_4 = 0 then
        (if v5_9 = (M6 89 ((4 * p_shop) + v3_5).toNatClampNeg) then
          (rec7 (0, (v3_5 + 1), (zw M12 89 ((4 * p_shop) + v3_5).toNatClampNeg v5_9)))
        else
          (rec7 (1, (v3_5 + 1), (zw M12 89 ((4 * p_shop) + v3_5).toNatClampNeg v5_9))))
      else
        (rec7 (1, (v3_5 + 1), (zw M12 89 ((4 * p_shop) + v3_5).toNatClampNeg v5_9))))
noncomputable def qM_climbUp_L10 (p_shop : Int32) (rec3 : (Int32 × zM) → Option (zM)) (rec7 : (Int32 × Int32 × zM) → Option (zM)) (v : Int32 × Int32 × zM) : Option (zM) := match v with
  | (v2_4, v3_5, M6) =>
    if v3_5 < (M6 86 6) then
      (zq (vp_in ((4 * p_shop) + v3_5) 8) <| zb (qM_leftOf M6 p_shop) fun x8 =>
      zlp (qM_climbUp_L48 v3_5 p_shop v2_4 M6 rec7) zfu ((M6 89 ((4 * p_shop) + v3_5).toNatClampNeg), x8, 0, M6))
    else
      (rec3 (v2_4, M6))
noncomputable def qM_climbUp_L2 (p_shop : Int32) (rec3 : (Int32 × zM) → Option (zM)) (v : Int32 × zM) : Option (zM) := match v with
  | (v2_1, M2) =>
    if v2_1 = 0 then
      (some M2)
    else
      (zlp (qM_climbUp_L10 p_shop rec3) zfu (0, 0, M2))
noncomputable def qM_climbUp (M : zM) (p_shop : Int32) : Option (zM) :=
  zlp (qM_climbUp_L2 p_shop) zfu (1, M)
set_option maxRecDepth 20000 in
set_option maxHeartbeats 4000000 in
theorem qM_climbUp_ok {S : zSc} {M : zM} {p_shop : Int32} {r : zM} (h : qM_climbUp M p_shop = some r) : zF S 181 (0, [(0, .ref 86), (1, .int p_shop)], [], zh, M) (none) (r) := by
  unfold qM_climbUp at h
  refine zF_go (n := 2) (ps := []) (s' := (2, [(2, .int 1), (0, .ref 86), (1, .int p_shop)], [], zh, M)) rfl trivial ?_
  refine zF_same (s' := (2, [(0, .ref 86), (1, .int p_shop), (2, .int 1)], [], zh, M)) rfl ?_
  refine zlp_ind (P := fun (v : Int32 × zM) r => zF S 181 (2, [(0, .ref 86), (1, .int p_shop), (2, .int v.1)], [], zh, v.2) (none) (r)) ?_ _ _ _ h
  intro rec3 hrec3 v r h
  obtain ⟨v2_1, M2⟩ := v
  unfold qM_climbUp_L2 at h
  dsimp only at h
  show zF S 181 (2, [(0, .ref 86), (1, .int p_shop), (2, .int v2_1)], [], zh, M2) _ _
  refine zF_go (n := 1) (ps := []) (s' := (3, [(0, .ref 86), (1, .int p_shop), (2, .int v2_1)], [.int v2_1], zh, M2)) rfl trivial ?_
  refine zF_eq (t := 147) (u := (6, [(0, .ref 86), (1, .int p_shop), (2, .int v2_1)], [], zh, M2)) rfl (fun c18 => ?_) (fun c18 => ?_)
  · rw [if_pos c18] at h
    cases h
    exact zF_ret rfl trivial
  · rw [if_neg c18] at h
    refine zF_go (n := 4) (ps := []) (s' := (10, [(3, .int 0), (2, .int 0), (0, .ref 86), (1, .int p_shop)], [], zh, M2)) rfl trivial ?_
    refine zF_same (s' := (10, [(0, .ref 86), (1, .int p_shop), (2, .int 0), (3, .int 0)], [], zh, M2)) rfl ?_
    refine zlp_ind (P := fun (v : Int32 × Int32 × zM) r => zF S 181 (10, [(0, .ref 86), (1, .int p_shop), (2, .int v.1), (3, .int v.2.1)], [], zh, v.2.2) (none) (r)) ?_ _ _ _ h
    intro rec7 hrec7 v r h
    obtain ⟨v2_4, v3_5, M6⟩ := v
    unfold qM_climbUp_L10 at h
    dsimp only at h
    show zF S 181 (10, [(0, .ref 86), (1, .int p_shop), (2, .int v2_4), (3, .int v3_5)], [], zh, M6) _ _
    refine zF_go (n := 3) (ps := []) (s' := (15, [(0, .ref 86), (1, .int p_shop), (2, .int v2_4), (3, .int v3_5)], [.int (M6 86 6), .int v3_5], zh, M6)) rfl trivial ?_
    refine zF_ge (t := 144) (u := (18, [(0, .ref 86), (1, .int p_shop), (2, .int v2_4), (3, .int v3_5)], [], zh, M6)) rfl (fun c19 => ?_) (fun c19 => ?_)
    · rw [if_neg c19] at h
      refine zF_go (n := 1) (ps := []) (s' := (2, [(0, .ref 86), (1, .int p_shop), (2, .int v2_4), (3, .int v3_5)], [], zh, M6)) rfl trivial ?_
      exact zF_as (hrec3 _ _ h) rfl
    · rw [if_pos c19] at h
      obtain ⟨g20, h⟩ := zq_some h
      refine zF_go (n := 15) (ps := [vp_in ((4 * p_shop) + v3_5) 8]) (s' := (40, [(6, .int (M6 89 ((4 * p_shop) + v3_5).toNatClampNeg)), (5, .int (M6 89 ((4 * p_shop) + v3_5).toNatClampNeg)), (4, .int ((4 * p_shop) + v3_5)), (0, .ref 86), (1, .int p_shop), (2, .int v2_4), (3, .int v3_5)], [.int p_shop, .ref 86], zh, M6)) rfl ⟨g20, trivial⟩ ?_
      obtain ⟨x8, e21, h⟩ := zb_some h
      refine zF_call (y' := 172) (as := [.ref 86, .int p_shop]) (u := (43, [(6, .int (M6 89 ((4 * p_shop) + v3_5).toNatClampNeg)), (5, .int (M6 89 ((4 * p_shop) + v3_5).toNatClampNeg)), (4, .int ((4 * p_shop) + v3_5)), (0, .ref 86), (1, .int p_shop), (2, .int v2_4), (3, .int v3_5)], [], zh, M6)) rfl ⟨rfl, rfl⟩ rfl (qM_leftOf_ok (S := S) (M := M6) e21) ?_
      show zF S 181 (43, [(6, .int (M6 89 ((4 * p_shop) + v3_5).toNatClampNeg)), (5, .int (M6 89 ((4 * p_shop) + v3_5).toNatClampNeg)), (4, .int ((4 * p_shop) + v3_5)), (0, .ref 86), (1, .int p_shop), (2, .int v2_4), (3, .int v3_5)], [.int x8], zh, M6) _ _
      refine zF_go (n := 3) (ps := []) (s' := (48, [(8, .int 0), (7, .int x8), (6, .int (M6 89 ((4 * p_shop) + v3_5).toNatClampNeg)), (5, .int (M6 89 ((4 * p_shop) + v3_5).toNatClampNeg)), (4, .int ((4 * p_shop) + v3_5)), (0, .ref 86), (1, .int p_shop), (2, .int v2_4), (3, .int v3_5)], [], zh, M6)) rfl trivial ?_
      refine zF_same (s' := (48, [(0, .ref 86), (1, .int p_shop), (2, .int v2_4), (3, .int v3_5), (4, .int ((4 * p_shop) + v3_5)), (5, .int (M6 89 ((4 * p_shop) + v3_5).toNatClampNeg)), (6, .int (M6 89 ((4 * p_shop) + v3_5).toNatClampNeg)), (7, .int x8), (8, .int 0)], [], zh, M6)) rfl ?_
      refine zlp_ind (P := fun (v : Int32 × Int32 × Int32 × zM) r => zF S 181 (48, [(0, .ref 86), (1, .int p_shop), (2, .int v2_4), (3, .int v3_5), (4, .int ((4 * p_shop) + v3_5)), (5, .int v.1), (6, .int (M6 89 ((4 * p_shop) + v3_5).toNatClampNeg)), (7, .int v.2.1), (8, .int v.2.2.1)], [], zh, v.2.2.2) (none) (r)) ?_ _ _ _ h
      intro rec13 hrec13 v r h
      obtain ⟨v5_9, v7_10, v8_11, M12⟩ := v
      unfold qM_climbUp_L48 at h
      dsimp only at h
      show zF S 181 (48, [(0, .ref 86), (1, .int p_shop), (2, .int v2_4), (3, .int v3_5), (4, .int ((4 * p_shop) + v3_5)), (5, .int v5_9), (6, .int (M6 89 ((4 * p_shop) + v3_5).toNatClampNeg)), (7, .int v7_10), (8, .int v8_11)], [], zh, M12) _ _
      obtain ⟨g22, h⟩ := zq_some h
      refine zF_go (n := 5) (ps := [vp_in v3_5 4]) (s' := (56, [(0, .ref 86), (1, .int p_shop), (2, .int v2_4), (3, .int v3_5), (4, .int ((4 * p_shop) + v3_5)), (5, .int v5_9), (6, .int (M6 89 ((4 * p_shop) + v3_5).toNatClampNeg)), (7, .int v7_10), (8, .int v8_11)], [.int (M12 92 v3_5.toNatClampNeg), .int v8_11], zh, M12)) rfl ⟨g22, trivial⟩ ?_
      refine zF_ge (t := 112) (u := (59, [(0, .ref 86), (1, .int p_shop), (2, .int v2_4), (3, .int v3_5), (4, .int ((4 * p_shop) + v3_5)), (5, .int v5_9), (6, .int (M6 89 ((4 * p_shop) + v3_5).toNatClampNeg)), (7, .int v7_10), (8, .int v8_11)], [], zh, M12)) rfl (fun c23 => ?_) (fun c23 => ?_)
      · rw [if_neg c23] at h
        obtain ⟨g24, h⟩ := zq_some h
        refine zF_go (n := 6) (ps := [vp_in ((4 * p_shop) + v3_5) 8]) (s' := (122, [(0, .ref 86), (1, .int p_shop), (2, .int v2_4), (3, .int v3_5), (4, .int ((4 * p_shop) + v3_5)), (5, .int v5_9), (6, .int (M6 89 ((4 * p_shop) + v3_5).toNatClampNeg)), (7, .int v7_10), (8, .int v8_11)], [.int v2_4], zh, (zw M12 89 ((4 * p_shop) + v3_5).toNatClampNeg v5_9))) rfl ⟨g24, trivial⟩ ?_
        refine zF_ne (t := 132) (u := (125, [(0, .ref 86), (1, .int p_shop), (2, .int v2_4), (3, .int v3_5), (4, .int ((4 * p_shop) + v3_5)), (5, .int v5_9), (6, .int (M6 89 ((4 * p_shop) + v3_5).toNatClampNeg)), (7, .int v7_10), (8, .int v8_11)], [], zh, (zw M12 89 ((4 * p_shop) + v3_5).toNatClampNeg v5_9))) rfl (fun c25 => ?_) (fun c25 => ?_)
        · rw [if_neg c25] at h
          refine zF_go (n := 2) (ps := []) (s' := (137, [(0, .ref 86), (1, .int p_shop), (3, .int v3_5)], [.int 1], zh, (zw M12 89 ((4 * p_shop) + v3_5).toNatClampNeg v5_9))) rfl trivial ?_
          refine zF_go (n := 3) (ps := []) (s' := (10, [(3, .int (v3_5 + 1)), (2, .int 1), (0, .ref 86), (1, .int p_shop)], [], zh, (zw M12 89 ((4 * p_shop) + v3_5).toNatClampNeg v5_9))) rfl trivial ?_
          exact zF_as (hrec7 _ _ h) rfl
        · rw [if_pos c25] at h
          refine zF_go (n := 2) (ps := []) (s' := (129, [(0, .ref 86), (1, .int p_shop), (2, .int v2_4), (3, .int v3_5), (4, .int ((4 * p_shop) + v3_5)), (5, .int v5_9), (6, .int (M6 89 ((4 * p_shop) + v3_5).toNatClampNeg)), (7, .int v7_10), (8, .int v8_11)], [.int (M6 89 ((4 * p_shop) + v3_5).toNatClampNeg), .int v5_9], zh, (zw M12 89 ((4 * p_shop) + v3_5).toNatClampNeg v5_9))) rfl trivial ?_
          refine zF_eq (t := 136) (u := (132, [(0, .ref 86), (1, .int p_shop), (2, .int v2_4), (3, .int v3_5), (4, .int ((4 * p_shop) + v3_5)), (5, .int v5_9), (6, .int (M6 89 ((4 * p_shop) + v3_5).toNatClampNeg)), (7, .int v7_10), (8, .int v8_11)], [], zh, (zw M12 89 ((4 * p_shop) + v3_5).toNatClampNeg v5_9))) rfl (fun c26 => ?_) (fun c26 => ?_)
          · rw [if_pos c26] at h
            refine zF_go (n := 1) (ps := []) (s' := (137, [(0, .ref 86), (1, .int p_shop), (2, .int v2_4), (3, .int v3_5), (4, .int ((4 * p_shop) + v3_5)), (5, .int v5_9), (6, .int (M6 89 ((4 * p_shop) + v3_5).toNatClampNeg)), (7, .int v7_10), (8, .int v8_11)], [.int 0], zh, (zw M12 89 ((4 * p_shop) + v3_5).toNatClampNeg v5_9))) rfl trivial ?_
            refine zF_go (n := 3) (ps := []) (s' := (10, [(3, .int (v3_5 + 1)), (2, .int 0), (0, .ref 86), (1, .int p_shop)], [], zh, (zw M12 89 ((4 * p_shop) + v3_5).toNatClampNeg v5_9))) rfl trivial ?_
            exact zF_as (hrec7 _ _ h) rfl
          · rw [if_neg c26] at h
            refine zF_go (n := 2) (ps := []) (s' := (137, [(0, .ref 86), (1, .int p_shop), (3, .int v3_5)], [.int 1], zh, (zw M12 89 ((4 * p_shop) + v3_5).toNatClampNeg v5_9))) rfl trivial ?_
            refine zF_go (n := 3) (ps := []) (s' := (10, [(3, .int (v3_5 + 1)), (2, .int 1), (0, .ref 86), (1, .int p_shop)], [], zh, (zw M12 89 ((4 * p_shop) + v3_5).toNatClampNeg v5_9))) rfl trivial ?_
            exact zF_as (hrec7 _ _ h) rfl
      · rw [if_pos c23] at h
        obtain ⟨g27, h⟩ := zq_some h
        refine zF_go (n := 7) (ps := [vp_in ((4 * p_shop) + v3_5) 8]) (s' := (72, [(0, .ref 86), (1, .int p_shop), (2, .int v2_4), (3, .int v3_5), (4, .int ((4 * p_shop) + v3_5)), (5, .int v5_9), (6, .int (M6 89 ((4 * p_shop) + v3_5).toNatClampNeg)), (7, .int v7_10), (8, .int v8_11)], [.int (M12 86 18)], zh, (zw M12 89 ((4 * p_shop) + v3_5).toNatClampNeg v8_11))) rfl ⟨g27, trivial⟩ ?_
        refine zlj_e h (fun k => ∀ (_ : Unit) r, k () = some r → zF S 181 (84, [(0, .ref 86), (1, .int p_shop), (2, .int v2_4), (3, .int v3_5), (4, .int ((4 * p_shop) + v3_5)), (5, .int v5_9), (6, .int (M6 89 ((4 * p_shop) + v3_5).toNatClampNeg)), (7, .int v7_10), (8, .int v8_11)], [], zh, (zw M12 89 ((4 * p_shop) + v3_5).toNatClampNeg v8_11)) (none) (r)) ?_ ?_
        · intro _ r h
          try dsimp only at h
          refine zF_go (n := 2) (ps := []) (s' := (86, [(0, .ref 86), (1, .int p_shop), (2, .int v2_4), (3, .int v3_5), (4, .int ((4 * p_shop) + v3_5)), (5, .int v5_9), (6, .int (M6 89 ((4 * p_shop) + v3_5).toNatClampNeg)), (7, .int v7_10), (8, .int v8_11)], [.int p_shop, .ref 86], zh, (zw M12 89 ((4 * p_shop) + v3_5).toNatClampNeg v8_11))) rfl trivial ?_
          obtain ⟨x16, e28, h⟩ := zb_some h
          refine zF_call (y' := 172) (as := [.ref 86, .int p_shop]) (u := (89, [(0, .ref 86), (1, .int p_shop), (2, .int v2_4), (3, .int v3_5), (4, .int ((4 * p_shop) + v3_5)), (5, .int v5_9), (6, .int (M6 89 ((4 * p_shop) + v3_5).toNatClampNeg)), (7, .int v7_10), (8, .int v8_11)], [], zh, (zw M12 89 ((4 * p_shop) + v3_5).toNatClampNeg v8_11))) rfl ⟨rfl, rfl⟩ rfl (qM_leftOf_ok (S := S) (M := (zw M12 89 ((4 * p_shop) + v3_5).toNatClampNeg v8_11)) e28) ?_
          show zF S 181 (89, [(0, .ref 86), (1, .int p_shop), (2, .int v2_4), (3, .int v3_5), (4, .int ((4 * p_shop) + v3_5)), (5, .int v5_9), (6, .int (M6 89 ((4 * p_shop) + v3_5).toNatClampNeg)), (7, .int v7_10), (8, .int v8_11)], [.int x16], zh, (zw M12 89 ((4 * p_shop) + v3_5).toNatClampNeg v8_11)) _ _
          refine zF_go (n := 3) (ps := []) (s' := (95, [(9, .int x16), (0, .ref 86), (1, .int p_shop), (2, .int v2_4), (3, .int v3_5), (4, .int ((4 * p_shop) + v3_5)), (5, .int v5_9), (6, .int (M6 89 ((4 * p_shop) + v3_5).toNatClampNeg)), (7, .int v7_10), (8, .int v8_11)], [.int v7_10, .int x16], zh, (zw M12 89 ((4 * p_shop) + v3_5).toNatClampNeg v8_11))) rfl trivial ?_
          refine zF_le (t := 106) (u := (98, [(9, .int x16), (0, .ref 86), (1, .int p_shop), (2, .int v2_4), (3, .int v3_5), (4, .int ((4 * p_shop) + v3_5)), (5, .int v5_9), (6, .int (M6 89 ((4 * p_shop) + v3_5).toNatClampNeg)), (7, .int v7_10), (8, .int v8_11)], [], zh, (zw M12 89 ((4 * p_shop) + v3_5).toNatClampNeg v8_11))) rfl (fun c29 => ?_) (fun c29 => ?_)
          · rw [if_neg c29] at h
            refine zF_go (n := 2) (ps := []) (s' := (48, [(8, .int (v8_11 + 1)), (0, .ref 86), (1, .int p_shop), (2, .int v2_4), (3, .int v3_5), (4, .int ((4 * p_shop) + v3_5)), (5, .int v5_9), (6, .int (M6 89 ((4 * p_shop) + v3_5).toNatClampNeg)), (7, .int v7_10)], [], zh, (zw M12 89 ((4 * p_shop) + v3_5).toNatClampNeg v8_11))) rfl trivial ?_
            exact zF_as (hrec13 _ _ h) rfl
          · rw [if_pos c29] at h
            refine zF_go (n := 4) (ps := []) (s' := (106, [(5, .int v8_11), (7, .int x16), (9, .int x16), (0, .ref 86), (1, .int p_shop), (2, .int v2_4), (3, .int v3_5), (4, .int ((4 * p_shop) + v3_5)), (6, .int (M6 89 ((4 * p_shop) + v3_5).toNatClampNeg)), (8, .int v8_11)], [], zh, (zw M12 89 ((4 * p_shop) + v3_5).toNatClampNeg v8_11))) rfl trivial ?_
            refine zF_go (n := 2) (ps := []) (s' := (48, [(8, .int (v8_11 + 1)), (0, .ref 86), (1, .int p_shop), (2, .int v2_4), (3, .int v3_5), (4, .int ((4 * p_shop) + v3_5)), (5, .int v8_11), (6, .int (M6 89 ((4 * p_shop) + v3_5).toNatClampNeg)), (7, .int x16)], [], zh, (zw M12 89 ((4 * p_shop) + v3_5).toNatClampNeg v8_11))) rfl trivial ?_
            exact zF_as (hrec13 _ _ h) rfl
        · intro k15 hk15 h
          try dsimp only at h
          refine zF_eq (t := 84) (u := (75, [(0, .ref 86), (1, .int p_shop), (2, .int v2_4), (3, .int v3_5), (4, .int ((4 * p_shop) + v3_5)), (5, .int v5_9), (6, .int (M6 89 ((4 * p_shop) + v3_5).toNatClampNeg)), (7, .int v7_10), (8, .int v8_11)], [], zh, (zw M12 89 ((4 * p_shop) + v3_5).toNatClampNeg v8_11))) rfl (fun c30 => ?_) (fun c30 => ?_)
          · rw [if_pos c30] at h
            exact zF_as (hk15 () _ h) rfl
          · rw [if_neg c30] at h
            refine zF_go (n := 3) (ps := []) (s' := (78, [(0, .ref 86), (1, .int p_shop), (2, .int v2_4), (3, .int v3_5), (4, .int ((4 * p_shop) + v3_5)), (5, .int v5_9), (6, .int (M6 89 ((4 * p_shop) + v3_5).toNatClampNeg)), (7, .int v7_10), (8, .int v8_11)], [.int v3_5, .int p_shop, .ref 86], zh, (zw M12 89 ((4 * p_shop) + v3_5).toNatClampNeg v8_11))) rfl trivial ?_
            obtain ⟨x17, e31, h⟩ := zb_some h
            refine zF_call (y' := 145) (as := [.ref 86, .int p_shop, .int v3_5]) (u := (81, [(0, .ref 86), (1, .int p_shop), (2, .int v2_4), (3, .int v3_5), (4, .int ((4 * p_shop) + v3_5)), (5, .int v5_9), (6, .int (M6 89 ((4 * p_shop) + v3_5).toNatClampNeg)), (7, .int v7_10), (8, .int v8_11)], [], zh, (zw M12 89 ((4 * p_shop) + v3_5).toNatClampNeg v8_11))) rfl ⟨rfl, rfl⟩ rfl (qM_isBelow_ok (S := S) (M := (zw M12 89 ((4 * p_shop) + v3_5).toNatClampNeg v8_11)) e31) ?_
            show zF S 181 (81, [(0, .ref 86), (1, .int p_shop), (2, .int v2_4), (3, .int v3_5), (4, .int ((4 * p_shop) + v3_5)), (5, .int v5_9), (6, .int (M6 89 ((4 * p_shop) + v3_5).toNatClampNeg)), (7, .int v7_10), (8, .int v8_11)], [.int x17], zh, (zw M12 89 ((4 * p_shop) + v3_5).toNatClampNeg v8_11)) _ _
            refine zF_ne (t := 106) (u := (84, [(0, .ref 86), (1, .int p_shop), (2, .int v2_4), (3, .int v3_5), (4, .int ((4 * p_shop) + v3_5)), (5, .int v5_9), (6, .int (M6 89 ((4 * p_shop) + v3_5).toNatClampNeg)), (7, .int v7_10), (8, .int v8_11)], [], zh, (zw M12 89 ((4 * p_shop) + v3_5).toNatClampNeg v8_11))) rfl (fun c32 => ?_) (fun c32 => ?_)
            · rw [if_neg c32] at h
              refine zF_go (n := 2) (ps := []) (s' := (48, [(8, .int (v8_11 + 1)), (0, .ref 86), (1, .int p_shop), (2, .int v2_4), (3, .int v3_5), (4, .int ((4 * p_shop) + v3_5)), (5, .int v5_9), (6, .int (M6 89 ((4 * p_shop) + v3_5).toNatClampNeg)), (7, .int v7_10)], [], zh, (zw M12 89 ((4 * p_shop) + v3_5).toNatClampNeg v8_11))) rfl trivial ?_
              exact zF_as (hrec13 _ _ h) rfl
            · rw [if_pos c32] at h
              exact zF_as (hk15 () _ h) rfl
noncomputable def qM_boundOf_L35 (x2 : Int32) (p_shop : Int32) (v6_4 : Int32) (rec6 : (Int64 × Int32 × zM) → Option (Int64 × zM)) (v4_3 : Int64) (rec12 : (Int32 × Int32 × Int32 × zM) → Option (Int64 × zM)) (v : Int32 × Int32 × Int32 × zM) : Option (Int64 × zM) := match v with
  | (v7_8, v8_9, v9_10, M11) =>
    if v9_10 < x2 then
      (zb (qM_lay M11 p_shop v9_10) fun M13 =>
      zb (qM_isAllowed M13 p_shop) fun x14 =>
      if x14 = 0 then
        (rec12 (v7_8, v8_9, (v9_10 + 1), M13))
      else
        (zb (qM_broughtBy M13 v6_4 p_shop) fun x15 =>
        if v7_8 = 0 then
          (rec12 (1, x15, (v9_10 + 1), M13))
        else
          (if v8_9 < x15 then
            (rec12 (1, x15, (v9_10 + 1), M13))
          else
            (rec12 (1, v8_9, (v9_10 + 1), M13)))))
    else
      (rec6 ((v4_3 + v8_9.toInt64), (v6_4 + 1), M11))
noncomputable def qM_boundOf_L17 (x2 : Int32) (p_shop : Int32) (x1 : Int32) (rec6 : (Int64 × Int32 × zM) → Option (Int64 × zM)) (v : Int64 × Int32 × zM) : Option (Int64 × zM) := match v with
  | (v4_3, v6_4, M5) =>
    if v6_4 < (M5 86 14) then
      (zlp (qM_boundOf_L35 x2 p_shop v6_4 rec6 v4_3) zfu (0, 0, 0, M5))
    else
      (zb (qM_lay M5 p_shop x1) fun M7 =>
      some (v4_3, M7))
noncomputable def qM_boundOf (M : zM) (p_shop : Int32) : Option (Int64 × zM) :=
  zb (qM_rowOf M p_shop) fun x1 =>
  zb (qM_rows M) fun x2 =>
  zlp (qM_boundOf_L17 x2 p_shop x1) zfu (0, 0, M)
set_option maxRecDepth 20000 in
set_option maxHeartbeats 4000000 in
theorem qM_boundOf_ok {S : zSc} {M : zM} {p_shop : Int32} {r : Int64 × zM} (h : qM_boundOf M p_shop = some r) : zF S 183 (0, [(0, .ref 86), (1, .int p_shop)], [], zh, M) (some (.long r.1)) (r.2) := by
  unfold qM_boundOf at h
  refine zF_go (n := 2) (ps := []) (s' := (2, [(0, .ref 86), (1, .int p_shop)], [.int p_shop, .ref 86], zh, M)) rfl trivial ?_
  obtain ⟨x1, e16, h⟩ := zb_some h
  refine zF_call (y' := 174) (as := [.ref 86, .int p_shop]) (u := (5, [(0, .ref 86), (1, .int p_shop)], [], zh, M)) rfl ⟨rfl, rfl⟩ rfl (qM_rowOf_ok (S := S) (M := M) e16) ?_
  show zF S 183 (5, [(0, .ref 86), (1, .int p_shop)], [.int x1], zh, M) _ _
  refine zF_go (n := 2) (ps := []) (s' := (7, [(2, .int x1), (0, .ref 86), (1, .int p_shop)], [.ref 86], zh, M)) rfl trivial ?_
  obtain ⟨x2, e17, h⟩ := zb_some h
  refine zF_call (y' := 175) (as := [.ref 86]) (u := (10, [(2, .int x1), (0, .ref 86), (1, .int p_shop)], [], zh, M)) rfl ⟨rfl, rfl⟩ rfl (qM_rows_ok (S := S) (M := M) e17) ?_
  show zF S 183 (10, [(2, .int x1), (0, .ref 86), (1, .int p_shop)], [.int x2], zh, M) _ _
  refine zF_go (n := 5) (ps := []) (s' := (17, [(6, .int 0), (4, .long 0), (3, .int x2), (2, .int x1), (0, .ref 86), (1, .int p_shop)], [], zh, M)) rfl trivial ?_
  refine zF_same (s' := (17, [(0, .ref 86), (1, .int p_shop), (2, .int x1), (3, .int x2), (4, .long 0), (6, .int 0)], [], zh, M)) rfl ?_
  refine zlp_ind (P := fun (v : Int64 × Int32 × zM) r => zF S 183 (17, [(0, .ref 86), (1, .int p_shop), (2, .int x1), (3, .int x2), (4, .long v.1), (6, .int v.2.1)], [], zh, v.2.2) (some (.long r.1)) (r.2)) ?_ _ _ _ h
  intro rec6 hrec6 v r h
  obtain ⟨v4_3, v6_4, M5⟩ := v
  unfold qM_boundOf_L17 at h
  dsimp only at h
  show zF S 183 (17, [(0, .ref 86), (1, .int p_shop), (2, .int x1), (3, .int x2), (4, .long v4_3), (6, .int v6_4)], [], zh, M5) _ _
  refine zF_go (n := 3) (ps := []) (s' := (23, [(0, .ref 86), (1, .int p_shop), (2, .int x1), (3, .int x2), (4, .long v4_3), (6, .int v6_4)], [.int (M5 86 14), .int v6_4], zh, M5)) rfl trivial ?_
  refine zF_ge (t := 109) (u := (26, [(0, .ref 86), (1, .int p_shop), (2, .int x1), (3, .int x2), (4, .long v4_3), (6, .int v6_4)], [], zh, M5)) rfl (fun c18 => ?_) (fun c18 => ?_)
  · rw [if_neg c18] at h
    refine zF_go (n := 3) (ps := []) (s' := (112, [(0, .ref 86), (1, .int p_shop), (2, .int x1), (3, .int x2), (4, .long v4_3), (6, .int v6_4)], [.int x1, .int p_shop, .ref 86], zh, M5)) rfl trivial ?_
    obtain ⟨M7, e19, h⟩ := zb_some h
    refine zF_call (y' := 176) (as := [.ref 86, .int p_shop, .int x1]) (u := (115, [(0, .ref 86), (1, .int p_shop), (2, .int x1), (3, .int x2), (4, .long v4_3), (6, .int v6_4)], [], zh, M5)) rfl ⟨rfl, rfl⟩ rfl (qM_lay_ok (S := S) (M := M5) e19) ?_
    show zF S 183 (115, [(0, .ref 86), (1, .int p_shop), (2, .int x1), (3, .int x2), (4, .long v4_3), (6, .int v6_4)], [], zh, M7) _ _
    refine zF_go (n := 1) (ps := []) (s' := (117, [(0, .ref 86), (1, .int p_shop), (2, .int x1), (3, .int x2), (4, .long v4_3), (6, .int v6_4)], [.long v4_3], zh, M7)) rfl trivial ?_
    cases h
    exact zF_ret rfl trivial
  · rw [if_pos c18] at h
    refine zF_go (n := 6) (ps := []) (s' := (35, [(9, .int 0), (8, .int 0), (7, .int 0), (0, .ref 86), (1, .int p_shop), (2, .int x1), (3, .int x2), (4, .long v4_3), (6, .int v6_4)], [], zh, M5)) rfl trivial ?_
    refine zF_same (s' := (35, [(0, .ref 86), (1, .int p_shop), (2, .int x1), (3, .int x2), (4, .long v4_3), (6, .int v6_4), (7, .int 0), (8, .int 0), (9, .int 0)], [], zh, M5)) rfl ?_
    refine zlp_ind (P := fun (v : Int32 × Int32 × Int32 × zM) r => zF S 183 (35, [(0, .ref 86), (1, .int p_shop), (2, .int x1), (3, .int x2), (4, .long v4_3), (6, .int v6_4), (7, .int v.1), (8, .int v.2.1), (9, .int v.2.2.1)], [], zh, v.2.2.2) (some (.long r.1)) (r.2)) ?_ _ _ _ h
    intro rec12 hrec12 v r h
    obtain ⟨v7_8, v8_9, v9_10, M11⟩ := v
    unfold qM_boundOf_L35 at h
    dsimp only at h
    show zF S 183 (35, [(0, .ref 86), (1, .int p_shop), (2, .int x1), (3, .int x2), (4, .long v4_3), (6, .int v6_4), (7, .int v7_8), (8, .int v8_9), (9, .int v9_10)], [], zh, M11) _ _
    refine zF_go (n := 2) (ps := []) (s' := (38, [(0, .ref 86), (1, .int p_shop), (2, .int x1), (3, .int x2), (4, .long v4_3), (6, .int v6_4), (7, .int v7_8), (8, .int v8_9), (9, .int v9_10)], [.int x2, .int v9_10], zh, M11)) rfl trivial ?_
    refine zF_ge (t := 95) (u := (41, [(0, .ref 86), (1, .int p_shop), (2, .int x1), (3, .int x2), (4, .long v4_3), (6, .int v6_4), (7, .int v7_8), (8, .int v8_9), (9, .int v9_10)], [], zh, M11)) rfl (fun c20 => ?_) (fun c20 => ?_)
    · rw [if_neg c20] at h
      refine zF_go (n := 7) (ps := []) (s' := (17, [(6, .int (v6_4 + 1)), (4, .long (v4_3 + v8_9.toInt64)), (0, .ref 86), (1, .int p_shop), (2, .int x1), (3, .int x2), (7, .int v7_8), (8, .int v8_9), (9, .int v9_10)], [], zh, M11)) rfl trivial ?_
      exact zF_as (hrec6 _ _ h) rfl
    · rw [if_pos c20] at h
      refine zF_go (n := 3) (ps := []) (s' := (45, [(0, .ref 86), (1, .int p_shop), (2, .int x1), (3, .int x2), (4, .long v4_3), (6, .int v6_4), (7, .int v7_8), (8, .int v8_9), (9, .int v9_10)], [.int v9_10, .int p_shop, .ref 86], zh, M11)) rfl trivial ?_
      obtain ⟨M13, e21, h⟩ := zb_some h
      refine zF_call (y' := 176) (as := [.ref 86, .int p_shop, .int v9_10]) (u := (48, [(0, .ref 86), (1, .int p_shop), (2, .int x1), (3, .int x2), (4, .long v4_3), (6, .int v6_4), (7, .int v7_8), (8, .int v8_9), (9, .int v9_10)], [], zh, M11)) rfl ⟨rfl, rfl⟩ rfl (qM_lay_ok (S := S) (M := M11) e21) ?_
      show zF S 183 (48, [(0, .ref 86), (1, .int p_shop), (2, .int x1), (3, .int x2), (4, .long v4_3), (6, .int v6_4), (7, .int v7_8), (8, .int v8_9), (9, .int v9_10)], [], zh, M13) _ _
      refine zF_go (n := 2) (ps := []) (s' := (50, [(0, .ref 86), (1, .int p_shop), (2, .int x1), (3, .int x2), (4, .long v4_3), (6, .int v6_4), (7, .int v7_8), (8, .int v8_9), (9, .int v9_10)], [.int p_shop, .ref 86], zh, M13)) rfl trivial ?_
      obtain ⟨x14, e22, h⟩ := zb_some h
      refine zF_call (y' := 178) (as := [.ref 86, .int p_shop]) (u := (53, [(0, .ref 86), (1, .int p_shop), (2, .int x1), (3, .int x2), (4, .long v4_3), (6, .int v6_4), (7, .int v7_8), (8, .int v8_9), (9, .int v9_10)], [], zh, M13)) rfl ⟨rfl, rfl⟩ rfl (qM_isAllowed_ok (S := S) (M := M13) e22) ?_
      show zF S 183 (53, [(0, .ref 86), (1, .int p_shop), (2, .int x1), (3, .int x2), (4, .long v4_3), (6, .int v6_4), (7, .int v7_8), (8, .int v8_9), (9, .int v9_10)], [.int x14], zh, M13) _ _
      refine zF_eq (t := 89) (u := (56, [(0, .ref 86), (1, .int p_shop), (2, .int x1), (3, .int x2), (4, .long v4_3), (6, .int v6_4), (7, .int v7_8), (8, .int v8_9), (9, .int v9_10)], [], zh, M13)) rfl (fun c23 => ?_) (fun c23 => ?_)
      · rw [if_pos c23] at h
        refine zF_go (n := 2) (ps := []) (s' := (35, [(9, .int (v9_10 + 1)), (0, .ref 86), (1, .int p_shop), (2, .int x1), (3, .int x2), (4, .long v4_3), (6, .int v6_4), (7, .int v7_8), (8, .int v8_9)], [], zh, M13)) rfl trivial ?_
        exact zF_as (hrec12 _ _ h) rfl
      · rw [if_neg c23] at h
        refine zF_go (n := 3) (ps := []) (s' := (60, [(0, .ref 86), (1, .int p_shop), (2, .int x1), (3, .int x2), (4, .long v4_3), (6, .int v6_4), (7, .int v7_8), (8, .int v8_9), (9, .int v9_10)], [.int p_shop, .int v6_4, .ref 86], zh, M13)) rfl trivial ?_
        obtain ⟨x15, e24, h⟩ := zb_some h
        refine zF_call (y' := 171) (as := [.ref 86, .int v6_4, .int p_shop]) (u := (63, [(0, .ref 86), (1, .int p_shop), (2, .int x1), (3, .int x2), (4, .long v4_3), (6, .int v6_4), (7, .int v7_8), (8, .int v8_9), (9, .int v9_10)], [], zh, M13)) rfl ⟨rfl, rfl⟩ rfl (qM_broughtBy_ok (S := S) (M := M13) e24) ?_
        show zF S 183 (63, [(0, .ref 86), (1, .int p_shop), (2, .int x1), (3, .int x2), (4, .long v4_3), (6, .int v6_4), (7, .int v7_8), (8, .int v8_9), (9, .int v9_10)], [.int x15], zh, M13) _ _
        refine zF_go (n := 2) (ps := []) (s' := (67, [(10, .int x15), (0, .ref 86), (1, .int p_shop), (2, .int x1), (3, .int x2), (4, .long v4_3), (6, .int v6_4), (7, .int v7_8), (8, .int v8_9), (9, .int v9_10)], [.int v7_8], zh, M13)) rfl trivial ?_
        refine zF_eq (t := 77) (u := (70, [(10, .int x15), (0, .ref 86), (1, .int p_shop), (2, .int x1), (3, .int x2), (4, .long v4_3), (6, .int v6_4), (7, .int v7_8), (8, .int v8_9), (9, .int v9_10)], [], zh, M13)) rfl (fun c25 => ?_) (fun c25 => ?_)
        · rw [if_pos c25] at h
          refine zF_go (n := 2) (ps := []) (s' := (84, [(0, .ref 86), (1, .int p_shop), (2, .int x1), (3, .int x2), (4, .long v4_3), (6, .int v6_4), (9, .int v9_10), (10, .int x15)], [.int x15], zh, M13)) rfl trivial ?_
          refine zF_go (n := 3) (ps := []) (s' := (89, [(7, .int 1), (8, .int x15), (0, .ref 86), (1, .int p_shop), (2, .int x1), (3, .int x2), (4, .long v4_3), (6, .int v6_4), (9, .int v9_10)], [], zh, M13)) rfl trivial ?_
          refine zF_go (n := 2) (ps := []) (s' := (35, [(9, .int (v9_10 + 1)), (0, .ref 86), (1, .int p_shop), (2, .int x1), (3, .int x2), (4, .long v4_3), (6, .int v6_4), (7, .int 1), (8, .int x15)], [], zh, M13)) rfl trivial ?_
          exact zF_as (hrec12 _ _ h) rfl
        · rw [if_neg c25] at h
          refine zF_go (n := 2) (ps := []) (s' := (74, [(10, .int x15), (0, .ref 86), (1, .int p_shop), (2, .int x1), (3, .int x2), (4, .long v4_3), (6, .int v6_4), (7, .int v7_8), (8, .int v8_9), (9, .int v9_10)], [.int v8_9, .int x15], zh, M13)) rfl trivial ?_
          refine zF_le (t := 82) (u := (77, [(10, .int x15), (0, .ref 86), (1, .int p_shop), (2, .int x1), (3, .int x2), (4, .long v4_3), (6, .int v6_4), (7, .int v7_8), (8, .int v8_9), (9, .int v9_10)], [], zh, M13)) rfl (fun c26 => ?_) (fun c26 => ?_)
          · rw [if_neg c26] at h
            refine zF_go (n := 1) (ps := []) (s' := (84, [(10, .int x15), (0, .ref 86), (1, .int p_shop), (2, .int x1), (3, .int x2), (4, .long v4_3), (6, .int v6_4), (7, .int v7_8), (8, .int v8_9), (9, .int v9_10)], [.int v8_9], zh, M13)) rfl trivial ?_
            refine zF_go (n := 3) (ps := []) (s' := (89, [(7, .int 1), (8, .int v8_9), (0, .ref 86), (1, .int p_shop), (2, .int x1), (3, .int x2), (4, .long v4_3), (6, .int v6_4), (9, .int v9_10)], [], zh, M13)) rfl trivial ?_
            refine zF_go (n := 2) (ps := []) (s' := (35, [(9, .int (v9_10 + 1)), (0, .ref 86), (1, .int p_shop), (2, .int x1), (3, .int x2), (4, .long v4_3), (6, .int v6_4), (7, .int 1), (8, .int v8_9)], [], zh, M13)) rfl trivial ?_
            exact zF_as (hrec12 _ _ h) rfl
          · rw [if_pos c26] at h
            refine zF_go (n := 2) (ps := []) (s' := (84, [(0, .ref 86), (1, .int p_shop), (2, .int x1), (3, .int x2), (4, .long v4_3), (6, .int v6_4), (9, .int v9_10), (10, .int x15)], [.int x15], zh, M13)) rfl trivial ?_
            refine zF_go (n := 3) (ps := []) (s' := (89, [(7, .int 1), (8, .int x15), (0, .ref 86), (1, .int p_shop), (2, .int x1), (3, .int x2), (4, .long v4_3), (6, .int v6_4), (9, .int v9_10)], [], zh, M13)) rfl trivial ?_
            refine zF_go (n := 2) (ps := []) (s' := (35, [(9, .int (v9_10 + 1)), (0, .ref 86), (1, .int p_shop), (2, .int x1), (3, .int x2), (4, .long v4_3), (6, .int v6_4), (7, .int 1), (8, .int x15)], [], zh, M13)) rfl trivial ?_
            exact zF_as (hrec12 _ _ h) rfl
noncomputable def qM_most (M : zM) (p_shop : Int32) (p_what : Int32) : Option (Int64 × zM) :=
  zb (qM_isShop p_shop) fun x1 =>
  if x1 = 0 then
    (some ((-1000000000000000001), M))
  else
    (zb (qM_in p_what.toInt64 0 2) fun x2 =>
    if x2 = 0 then
      (some ((-1000000000000000002), M))
    else
      (zb2 (qM_bestOf M p_shop) fun x3 M4 =>
      if x3 < 0 then
        (some ((-1000000000000000005), M4))
      else
        (if p_what = 0 then
          (some ((M4 86 19).toInt64, M4))
        else
          (if p_what = 2 then
            (zb2 (qM_boundOf M4 p_shop) fun x9 M10 =>
            some (x9, M10))
          else
            (zb (qM_rowOf M4 p_shop) fun x5 =>
            zb (qM_climbUp M4 p_shop) fun M6 =>
            zb (qM_leftOf M6 p_shop) fun x7 =>
            zb (qM_lay M6 p_shop x5) fun M8 =>
            some (x7.toInt64, M8))))))
set_option maxRecDepth 20000 in
set_option maxHeartbeats 4000000 in
theorem qM_most_ok {S : zSc} {M : zM} {p_shop : Int32} {p_what : Int32} {r : Int64 × zM} (h : qM_most M p_shop p_what = some r) : zF S 184 (0, [(0, .ref 86), (1, .int p_shop), (2, .int p_what)], [], zh, M) (some (.long r.1)) (r.2) := by
  unfold qM_most at h
  refine zF_go (n := 1) (ps := []) (s' := (1, [(0, .ref 86), (1, .int p_shop), (2, .int p_what)], [.int p_shop], zh, M)) rfl trivial ?_
  obtain ⟨x1, e11, h⟩ := zb_some h
  refine zF_call (y' := 136) (as := [.int p_shop]) (u := (4, [(0, .ref 86), (1, .int p_shop), (2, .int p_what)], [], zh, M)) rfl ⟨rfl, rfl⟩ rfl (qM_isShop_ok (S := S) (M := M) e11) ?_
  show zF S 184 (4, [(0, .ref 86), (1, .int p_shop), (2, .int p_what)], [.int x1], zh, M) _ _
  refine zF_ne (t := 11) (u := (7, [(0, .ref 86), (1, .int p_shop), (2, .int p_what)], [], zh, M)) rfl (fun c12 => ?_) (fun c12 => ?_)
  · rw [if_neg c12] at h
    refine zF_go (n := 4) (ps := []) (s' := (17, [(0, .ref 86), (1, .int p_shop), (2, .int p_what)], [.long 2, .long 0, .long p_what.toInt64], zh, M)) rfl trivial ?_
    obtain ⟨x2, e13, h⟩ := zb_some h
    refine zF_call (y' := 134) (as := [.long p_what.toInt64, .long 0, .long 2]) (u := (20, [(0, .ref 86), (1, .int p_shop), (2, .int p_what)], [], zh, M)) rfl ⟨rfl, rfl⟩ rfl (qM_in_ok (S := S) (M := M) e13) ?_
    show zF S 184 (20, [(0, .ref 86), (1, .int p_shop), (2, .int p_what)], [.int x2], zh, M) _ _
    refine zF_ne (t := 27) (u := (23, [(0, .ref 86), (1, .int p_shop), (2, .int p_what)], [], zh, M)) rfl (fun c14 => ?_) (fun c14 => ?_)
    · rw [if_neg c14] at h
      refine zF_go (n := 2) (ps := []) (s' := (29, [(0, .ref 86), (1, .int p_shop), (2, .int p_what)], [.int p_shop, .ref 86], zh, M)) rfl trivial ?_
      obtain ⟨x3, M4, e15, h⟩ := zb2_some h
      refine zF_call (y' := 179) (as := [.ref 86, .int p_shop]) (u := (32, [(0, .ref 86), (1, .int p_shop), (2, .int p_what)], [], zh, M)) rfl ⟨rfl, rfl⟩ rfl (qM_bestOf_ok (S := S) (M := M) e15) ?_
      show zF S 184 (32, [(0, .ref 86), (1, .int p_shop), (2, .int p_what)], [.int x3], zh, M4) _ _
      refine zF_ge (t := 39) (u := (35, [(0, .ref 86), (1, .int p_shop), (2, .int p_what)], [], zh, M4)) rfl (fun c16 => ?_) (fun c16 => ?_)
      · rw [if_neg c16] at h
        refine zF_go (n := 1) (ps := []) (s' := (40, [(0, .ref 86), (1, .int p_shop), (2, .int p_what)], [.int p_what], zh, M4)) rfl trivial ?_
        refine zF_ne (t := 49) (u := (43, [(0, .ref 86), (1, .int p_shop), (2, .int p_what)], [], zh, M4)) rfl (fun c17 => ?_) (fun c17 => ?_)
        · rw [if_neg c17] at h
          refine zF_go (n := 2) (ps := []) (s' := (51, [(0, .ref 86), (1, .int p_shop), (2, .int p_what)], [.int 2, .int p_what], zh, M4)) rfl trivial ?_
          refine zF_ne (t := 60) (u := (54, [(0, .ref 86), (1, .int p_shop), (2, .int p_what)], [], zh, M4)) rfl (fun c18 => ?_) (fun c18 => ?_)
          · rw [if_neg c18] at h
            refine zF_go (n := 2) (ps := []) (s' := (62, [(0, .ref 86), (1, .int p_shop), (2, .int p_what)], [.int p_shop, .ref 86], zh, M4)) rfl trivial ?_
            obtain ⟨x5, e19, h⟩ := zb_some h
            refine zF_call (y' := 174) (as := [.ref 86, .int p_shop]) (u := (65, [(0, .ref 86), (1, .int p_shop), (2, .int p_what)], [], zh, M4)) rfl ⟨rfl, rfl⟩ rfl (qM_rowOf_ok (S := S) (M := M4) e19) ?_
            show zF S 184 (65, [(0, .ref 86), (1, .int p_shop), (2, .int p_what)], [.int x5], zh, M4) _ _
            refine zF_go (n := 3) (ps := []) (s' := (68, [(3, .int x5), (0, .ref 86), (1, .int p_shop), (2, .int p_what)], [.int p_shop, .ref 86], zh, M4)) rfl trivial ?_
            obtain ⟨M6, e20, h⟩ := zb_some h
            refine zF_call (y' := 181) (as := [.ref 86, .int p_shop]) (u := (71, [(3, .int x5), (0, .ref 86), (1, .int p_shop), (2, .int p_what)], [], zh, M4)) rfl ⟨rfl, rfl⟩ rfl (qM_climbUp_ok (S := S) (M := M4) e20) ?_
            show zF S 184 (71, [(3, .int x5), (0, .ref 86), (1, .int p_shop), (2, .int p_what)], [], zh, M6) _ _
            refine zF_go (n := 2) (ps := []) (s' := (73, [(3, .int x5), (0, .ref 86), (1, .int p_shop), (2, .int p_what)], [.int p_shop, .ref 86], zh, M6)) rfl trivial ?_
            obtain ⟨x7, e21, h⟩ := zb_some h
            refine zF_call (y' := 172) (as := [.ref 86, .int p_shop]) (u := (76, [(3, .int x5), (0, .ref 86), (1, .int p_shop), (2, .int p_what)], [], zh, M6)) rfl ⟨rfl, rfl⟩ rfl (qM_leftOf_ok (S := S) (M := M6) e21) ?_
            show zF S 184 (76, [(3, .int x5), (0, .ref 86), (1, .int p_shop), (2, .int p_what)], [.int x7], zh, M6) _ _
            refine zF_go (n := 4) (ps := []) (s' := (81, [(4, .int x7), (3, .int x5), (0, .ref 86), (1, .int p_shop), (2, .int p_what)], [.int x5, .int p_shop, .ref 86], zh, M6)) rfl trivial ?_
            obtain ⟨M8, e22, h⟩ := zb_some h
            refine zF_call (y' := 176) (as := [.ref 86, .int p_shop, .int x5]) (u := (84, [(4, .int x7), (3, .int x5), (0, .ref 86), (1, .int p_shop), (2, .int p_what)], [], zh, M6)) rfl ⟨rfl, rfl⟩ rfl (qM_lay_ok (S := S) (M := M6) e22) ?_
            show zF S 184 (84, [(4, .int x7), (3, .int x5), (0, .ref 86), (1, .int p_shop), (2, .int p_what)], [], zh, M8) _ _
            refine zF_go (n := 2) (ps := []) (s' := (87, [(4, .int x7), (3, .int x5), (0, .ref 86), (1, .int p_shop), (2, .int p_what)], [.long x7.toInt64], zh, M8)) rfl trivial ?_
            cases h
            exact zF_ret rfl trivial
          · rw [if_pos c18] at h
            refine zF_go (n := 2) (ps := []) (s' := (56, [(0, .ref 86), (1, .int p_shop), (2, .int p_what)], [.int p_shop, .ref 86], zh, M4)) rfl trivial ?_
            obtain ⟨x9, M10, e23, h⟩ := zb2_some h
            refine zF_call (y' := 183) (as := [.ref 86, .int p_shop]) (u := (59, [(0, .ref 86), (1, .int p_shop), (2, .int p_what)], [], zh, M4)) rfl ⟨rfl, rfl⟩ rfl (qM_boundOf_ok (S := S) (M := M4) e23) ?_
            show zF S 184 (59, [(0, .ref 86), (1, .int p_shop), (2, .int p_what)], [.long x9], zh, M10) _ _
            cases h
            exact zF_ret rfl trivial
        · rw [if_pos c17] at h
          refine zF_go (n := 3) (ps := []) (s' := (48, [(0, .ref 86), (1, .int p_shop), (2, .int p_what)], [.long (M4 86 19).toInt64], zh, M4)) rfl trivial ?_
          cases h
          exact zF_ret rfl trivial
      · rw [if_pos c16] at h
        refine zF_go (n := 1) (ps := []) (s' := (38, [(0, .ref 86), (1, .int p_shop), (2, .int p_what)], [.long (-1000000000000000005)], zh, M4)) rfl trivial ?_
        cases h
        exact zF_ret rfl trivial
    · rw [if_pos c14] at h
      refine zF_go (n := 1) (ps := []) (s' := (26, [(0, .ref 86), (1, .int p_shop), (2, .int p_what)], [.long (-1000000000000000002)], zh, M)) rfl trivial ?_
      cases h
      exact zF_ret rfl trivial
  · rw [if_pos c12] at h
    refine zF_go (n := 1) (ps := []) (s' := (10, [(0, .ref 86), (1, .int p_shop), (2, .int p_what)], [.long (-1000000000000000001)], zh, M)) rfl trivial ?_
    cases h
    exact zF_ret rfl trivial
noncomputable def qS_climb (M : zM) (p_shop : Int32) : Option (Int32 × zM) :=
  zb (qS_noShop p_shop) fun x1 =>
  if x1 = 0 then
    (zb (qS_lookAsItIs M) fun M2 =>
    zb2 (qP_climbedRow M2 p_shop (M2 2 3)) fun x3 M4 =>
    some (x3, M4))
  else
    (some ((-1), M))
set_option maxRecDepth 20000 in
set_option maxHeartbeats 4000000 in
theorem qS_climb_ok {S : zSc} {M : zM} {p_shop : Int32} {r : Int32 × zM} (h : qS_climb M p_shop = some r) : zF S 107 (0, [(0, .ref 1), (1, .int p_shop)], [], zh, M) (some (.int r.1)) (r.2) := by
  unfold qS_climb at h
  refine zF_go (n := 1) (ps := []) (s' := (1, [(0, .ref 1), (1, .int p_shop)], [.int p_shop], zh, M)) rfl trivial ?_
  obtain ⟨x1, e5, h⟩ := zb_some h
  refine zF_call (y' := 126) (as := [.int p_shop]) (u := (4, [(0, .ref 1), (1, .int p_shop)], [], zh, M)) rfl ⟨rfl, rfl⟩ rfl (qS_noShop_ok (S := S) (M := M) e5) ?_
  show zF S 107 (4, [(0, .ref 1), (1, .int p_shop)], [.int x1], zh, M) _ _
  refine zF_eq (t := 9) (u := (7, [(0, .ref 1), (1, .int p_shop)], [], zh, M)) rfl (fun c6 => ?_) (fun c6 => ?_)
  · rw [if_pos c6] at h
    refine zF_go (n := 1) (ps := []) (s' := (10, [(0, .ref 1), (1, .int p_shop)], [.ref 1], zh, M)) rfl trivial ?_
    obtain ⟨M2, e7, h⟩ := zb_some h
    refine zF_call (y' := 132) (as := [.ref 1]) (u := (13, [(0, .ref 1), (1, .int p_shop)], [], zh, M)) rfl ⟨rfl, rfl⟩ rfl (qS_lookAsItIs_ok (S := S) (M := M) e7) ?_
    show zF S 107 (13, [(0, .ref 1), (1, .int p_shop)], [], zh, M2) _ _
    refine zF_go (n := 6) (ps := []) (s' := (25, [(0, .ref 1), (1, .int p_shop)], [.int (M2 2 3), .int p_shop, .ref 76], zh, M2)) rfl trivial ?_
    obtain ⟨x3, M4, e8, h⟩ := zb2_some h
    refine zF_call (y' := 43) (as := [.ref 76, .int p_shop, .int (M2 2 3)]) (u := (28, [(0, .ref 1), (1, .int p_shop)], [], zh, M2)) rfl ⟨rfl, rfl⟩ rfl (qP_climbedRow_ok (S := S) (M := M2) e8) ?_
    show zF S 107 (28, [(0, .ref 1), (1, .int p_shop)], [.int x3], zh, M4) _ _
    cases h
    exact zF_ret rfl trivial
  · rw [if_neg c6] at h
    refine zF_go (n := 1) (ps := []) (s' := (8, [(0, .ref 1), (1, .int p_shop)], [.int (-1)], zh, M)) rfl trivial ?_
    cases h
    exact zF_ret rfl trivial
noncomputable def qM_climb (M : zM) (p_shop : Int32) : Option (Int32 × zM) :=
  zb (qM_isShop p_shop) fun x1 =>
  if x1 = 0 then
    (some ((-1), M))
  else
    (zb (qM_rowOf M p_shop) fun x2 =>
    zb (qM_climbUp M p_shop) fun M3 =>
    zb (qM_rowOf M3 p_shop) fun x4 =>
    zb (qM_lay M3 p_shop x2) fun M5 =>
    some (x4, M5))
set_option maxRecDepth 20000 in
set_option maxHeartbeats 4000000 in
theorem qM_climb_ok {S : zSc} {M : zM} {p_shop : Int32} {r : Int32 × zM} (h : qM_climb M p_shop = some r) : zF S 182 (0, [(0, .ref 86), (1, .int p_shop)], [], zh, M) (some (.int r.1)) (r.2) := by
  unfold qM_climb at h
  refine zF_go (n := 1) (ps := []) (s' := (1, [(0, .ref 86), (1, .int p_shop)], [.int p_shop], zh, M)) rfl trivial ?_
  obtain ⟨x1, e6, h⟩ := zb_some h
  refine zF_call (y' := 136) (as := [.int p_shop]) (u := (4, [(0, .ref 86), (1, .int p_shop)], [], zh, M)) rfl ⟨rfl, rfl⟩ rfl (qM_isShop_ok (S := S) (M := M) e6) ?_
  show zF S 182 (4, [(0, .ref 86), (1, .int p_shop)], [.int x1], zh, M) _ _
  refine zF_ne (t := 9) (u := (7, [(0, .ref 86), (1, .int p_shop)], [], zh, M)) rfl (fun c7 => ?_) (fun c7 => ?_)
  · rw [if_neg c7] at h
    refine zF_go (n := 2) (ps := []) (s' := (11, [(0, .ref 86), (1, .int p_shop)], [.int p_shop, .ref 86], zh, M)) rfl trivial ?_
    obtain ⟨x2, e8, h⟩ := zb_some h
    refine zF_call (y' := 174) (as := [.ref 86, .int p_shop]) (u := (14, [(0, .ref 86), (1, .int p_shop)], [], zh, M)) rfl ⟨rfl, rfl⟩ rfl (qM_rowOf_ok (S := S) (M := M) e8) ?_
    show zF S 182 (14, [(0, .ref 86), (1, .int p_shop)], [.int x2], zh, M) _ _
    refine zF_go (n := 3) (ps := []) (s' := (17, [(2, .int x2), (0, .ref 86), (1, .int p_shop)], [.int p_shop, .ref 86], zh, M)) rfl trivial ?_
    obtain ⟨M3, e9, h⟩ := zb_some h
    refine zF_call (y' := 181) (as := [.ref 86, .int p_shop]) (u := (20, [(2, .int x2), (0, .ref 86), (1, .int p_shop)], [], zh, M)) rfl ⟨rfl, rfl⟩ rfl (qM_climbUp_ok (S := S) (M := M) e9) ?_
    show zF S 182 (20, [(2, .int x2), (0, .ref 86), (1, .int p_shop)], [], zh, M3) _ _
    refine zF_go (n := 2) (ps := []) (s' := (22, [(2, .int x2), (0, .ref 86), (1, .int p_shop)], [.int p_shop, .ref 86], zh, M3)) rfl trivial ?_
    obtain ⟨x4, e10, h⟩ := zb_some h
    refine zF_call (y' := 174) (as := [.ref 86, .int p_shop]) (u := (25, [(2, .int x2), (0, .ref 86), (1, .int p_shop)], [], zh, M3)) rfl ⟨rfl, rfl⟩ rfl (qM_rowOf_ok (S := S) (M := M3) e10) ?_
    show zF S 182 (25, [(2, .int x2), (0, .ref 86), (1, .int p_shop)], [.int x4], zh, M3) _ _
    refine zF_go (n := 4) (ps := []) (s' := (29, [(3, .int x4), (2, .int x2), (0, .ref 86), (1, .int p_shop)], [.int x2, .int p_shop, .ref 86], zh, M3)) rfl trivial ?_
    obtain ⟨M5, e11, h⟩ := zb_some h
    refine zF_call (y' := 176) (as := [.ref 86, .int p_shop, .int x2]) (u := (32, [(3, .int x4), (2, .int x2), (0, .ref 86), (1, .int p_shop)], [], zh, M3)) rfl ⟨rfl, rfl⟩ rfl (qM_lay_ok (S := S) (M := M3) e11) ?_
    show zF S 182 (32, [(3, .int x4), (2, .int x2), (0, .ref 86), (1, .int p_shop)], [], zh, M5) _ _
    refine zF_go (n := 1) (ps := []) (s' := (33, [(3, .int x4), (2, .int x2), (0, .ref 86), (1, .int p_shop)], [.int x4], zh, M5)) rfl trivial ?_
    cases h
    exact zF_ret rfl trivial
  · rw [if_pos c7] at h
    refine zF_go (n := 1) (ps := []) (s' := (8, [(0, .ref 86), (1, .int p_shop)], [.int (-1)], zh, M)) rfl trivial ?_
    cases h
    exact zF_ret rfl trivial
noncomputable def qS_lures (M : zM) (p_shop : Int32) : Option (Int32 × zM) :=
  zb (qS_noShop p_shop) fun x1 =>
  if x1 = 0 then
    (zb (qS_forbidsAll M p_shop (M 2 3)) fun x2 =>
    if x2 = 0 then
      (zb (qS_lookAsItIs M) fun M3 =>
      zb2 (qP_bestRow M3 p_shop (M3 2 3)) fun x4 M5 =>
      zb (qG_putRow M5 p_shop x4) fun M6 =>
      zb (qG_belowCost M6 p_shop) fun x7 =>
      some (x7, M6))
    else
      (some ((-5), M)))
  else
    (some ((-1), M))
set_option maxRecDepth 20000 in
set_option maxHeartbeats 4000000 in
theorem qS_lures_ok {S : zSc} {M : zM} {p_shop : Int32} {r : Int32 × zM} (h : qS_lures M p_shop = some r) : zF S 108 (0, [(0, .ref 1), (1, .int p_shop)], [], zh, M) (some (.int r.1)) (r.2) := by
  unfold qS_lures at h
  refine zF_go (n := 1) (ps := []) (s' := (1, [(0, .ref 1), (1, .int p_shop)], [.int p_shop], zh, M)) rfl trivial ?_
  obtain ⟨x1, e8, h⟩ := zb_some h
  refine zF_call (y' := 126) (as := [.int p_shop]) (u := (4, [(0, .ref 1), (1, .int p_shop)], [], zh, M)) rfl ⟨rfl, rfl⟩ rfl (qS_noShop_ok (S := S) (M := M) e8) ?_
  show zF S 108 (4, [(0, .ref 1), (1, .int p_shop)], [.int x1], zh, M) _ _
  refine zF_eq (t := 9) (u := (7, [(0, .ref 1), (1, .int p_shop)], [], zh, M)) rfl (fun c9 => ?_) (fun c9 => ?_)
  · rw [if_pos c9] at h
    refine zF_go (n := 5) (ps := []) (s' := (18, [(0, .ref 1), (1, .int p_shop)], [.int (M 2 3), .int p_shop, .ref 1], zh, M)) rfl trivial ?_
    obtain ⟨x2, e10, h⟩ := zb_some h
    refine zF_call (y' := 130) (as := [.ref 1, .int p_shop, .int (M 2 3)]) (u := (21, [(0, .ref 1), (1, .int p_shop)], [], zh, M)) rfl ⟨rfl, rfl⟩ rfl (qS_forbidsAll_ok (S := S) (M := M) e10) ?_
    show zF S 108 (21, [(0, .ref 1), (1, .int p_shop)], [.int x2], zh, M) _ _
    refine zF_eq (t := 27) (u := (24, [(0, .ref 1), (1, .int p_shop)], [], zh, M)) rfl (fun c11 => ?_) (fun c11 => ?_)
    · rw [if_pos c11] at h
      refine zF_go (n := 1) (ps := []) (s' := (28, [(0, .ref 1), (1, .int p_shop)], [.ref 1], zh, M)) rfl trivial ?_
      obtain ⟨M3, e12, h⟩ := zb_some h
      refine zF_call (y' := 132) (as := [.ref 1]) (u := (31, [(0, .ref 1), (1, .int p_shop)], [], zh, M)) rfl ⟨rfl, rfl⟩ rfl (qS_lookAsItIs_ok (S := S) (M := M) e12) ?_
      show zF S 108 (31, [(0, .ref 1), (1, .int p_shop)], [], zh, M3) _ _
      refine zF_go (n := 9) (ps := []) (s' := (48, [(0, .ref 1), (1, .int p_shop)], [.int (M3 2 3), .int p_shop, .ref 76, .int p_shop, .ref 63], zh, M3)) rfl trivial ?_
      obtain ⟨x4, M5, e13, h⟩ := zb2_some h
      refine zF_call (y' := 42) (as := [.ref 76, .int p_shop, .int (M3 2 3)]) (u := (51, [(0, .ref 1), (1, .int p_shop)], [.int p_shop, .ref 63], zh, M3)) rfl ⟨rfl, rfl⟩ rfl (qP_bestRow_ok (S := S) (M := M3) e13) ?_
      show zF S 108 (51, [(0, .ref 1), (1, .int p_shop)], [.int x4, .int p_shop, .ref 63], zh, M5) _ _
      obtain ⟨M6, e14, h⟩ := zb_some h
      refine zF_call (y' := 21) (as := [.ref 63, .int p_shop, .int x4]) (u := (54, [(0, .ref 1), (1, .int p_shop)], [], zh, M5)) rfl ⟨rfl, rfl⟩ rfl (qG_putRow_ok (S := S) (M := M5) e14) ?_
      show zF S 108 (54, [(0, .ref 1), (1, .int p_shop)], [], zh, M6) _ _
      refine zF_go (n := 3) (ps := []) (s' := (59, [(0, .ref 1), (1, .int p_shop)], [.int p_shop, .ref 63], zh, M6)) rfl trivial ?_
      obtain ⟨x7, e15, h⟩ := zb_some h
      refine zF_call (y' := 23) (as := [.ref 63, .int p_shop]) (u := (62, [(0, .ref 1), (1, .int p_shop)], [], zh, M6)) rfl ⟨rfl, rfl⟩ rfl (qG_belowCost_ok (S := S) (M := M6) e15) ?_
      show zF S 108 (62, [(0, .ref 1), (1, .int p_shop)], [.int x7], zh, M6) _ _
      cases h
      exact zF_ret rfl trivial
    · rw [if_neg c11] at h
      refine zF_go (n := 1) (ps := []) (s' := (26, [(0, .ref 1), (1, .int p_shop)], [.int (-5)], zh, M)) rfl trivial ?_
      cases h
      exact zF_ret rfl trivial
  · rw [if_neg c9] at h
    refine zF_go (n := 1) (ps := []) (s' := (8, [(0, .ref 1), (1, .int p_shop)], [.int (-1)], zh, M)) rfl trivial ?_
    cases h
    exact zF_ret rfl trivial
end ZT
