section ZT
noncomputable def qK_live_L86 (p_n : Int32) (p_weeks : Int32) (M : zM) (p_thing : Int32) (x1 : Int32) (p_sort : Int32) (p_shop : Int32) (rec4 : (Int32 × zM) → Option (zM)) (v : Int32 × zM) : Option (zM) := match v with
  | (v11_2, M3) =>
    if v11_2 < p_n then
      (zb (zlj (fun (_ : Unit) =>
          some 0) fun k7 =>
        if ((p_weeks >>> (v11_2 &&& 31)) &&& 1) = 1 then
          (if (M 5 (p_thing * 3).toNatClampNeg) < x1 then
            (some 1)
          else
            (k7 ()))
        else
          (k7 ())) fun (w6 : Int32) =>
      zlj (fun (w14 : Int32) (M15 : zM) =>
        if (M 16 ((p_sort * 4) + p_thing).toNatClampNeg) < (if w6 = 0 then x1 else (M 5 (p_thing * 3).toNatClampNeg)) then
          (rec4 ((v11_2 + 1), M15))
        else
          (rec4 ((v11_2 + 1), (zw (zw M15 85 0 ((M15 85 0) + w14)) 85 1 (((zw M15 85 0 ((M15 85 0) + w14)) 85 1) + (w14 * ((if w6 = 0 then x1 else (M 5 (p_thing * 3).toNatClampNeg)) - (M 6 ((p_shop * 4) + p_thing).toNatClampNeg)))))))) fun k16 =>
      if w6 = 0 then
        (zb2 (qK_needDearly M3 (M 15 ((p_sort * 4) + p_thing).toNatClampNeg)) fun x17 M18 =>
        if (M 16 ((p_sort * 4) + p_thing).toNatClampNeg) < (if w6 = 0 then x1 else (M 5 (p_thing * 3).toNatClampNeg)) then
          (rec4 ((v11_2 + 1), M18))
        else
          (rec4 ((v11_2 + 1), (zw (zw M18 85 0 ((M18 85 0) + x17)) 85 1 (((zw M18 85 0 ((M18 85 0) + x17)) 85 1) + (x17 * ((if w6 = 0 then x1 else (M 5 (p_thing * 3).toNatClampNeg)) - (M 6 ((p_shop * 4) + p_thing).toNatClampNeg))))))))
      else
        (zq (vp_in p_sort 5) <| zb2 (qK_needCheaply M3 (M 15 ((p_sort * 4) + p_thing).toNatClampNeg) (M3 14 p_sort.toNatClampNeg) (if (M 16 ((p_sort * 4) + p_thing).toNatClampNeg) < (if w6 = 0 then x1 else (M 5 (p_thing * 3).toNatClampNeg)) then 0 else 1)) fun x20 M21 =>
        k16 x20 M21))
    else
      (some M3)
noncomputable def qK_live (M : zM) (p_sort : Int32) (p_shop : Int32) (p_thing : Int32) (p_weeks : Int32) (p_n : Int32) : Option (zM) :=
  zq (vp_in (p_thing * 3) 12) <| zb (qG_lastPrice (zw (zw (zw M 85 0 0) 85 1 0) 85 2 0) p_thing) fun x1 =>
  zq (vp_in ((p_sort * 4) + p_thing) 20) <| zq (vp_in ((p_sort * 4) + p_thing) 20) <| zq (vp_in ((p_shop * 4) + p_thing) 8) <| zlp (qK_live_L86 p_n p_weeks M p_thing x1 p_sort p_shop) zfu (0, (zw (zw (zw M 85 0 0) 85 1 0) 85 2 0))
set_option maxRecDepth 20000 in
set_option maxHeartbeats 4000000 in
theorem qK_live_ok {S : zSc} {M : zM} {p_sort : Int32} {p_shop : Int32} {p_thing : Int32} {p_weeks : Int32} {p_n : Int32} {r : zM} (h : qK_live M p_sort p_shop p_thing p_weeks p_n = some r) : zF S 83 (0, [(0, .ref 85), (1, .int p_sort), (2, .int p_shop), (3, .int p_thing), (4, .int p_weeks), (5, .int p_n)], [], zh, M) (none) (r) := by
  unfold qK_live at h
  obtain ⟨g22, h⟩ := zq_some h
  refine zF_go (n := 20) (ps := [vp_in (p_thing * 3) 12]) (s' := (33, [(6, .int (M 5 (p_thing * 3).toNatClampNeg)), (0, .ref 85), (1, .int p_sort), (2, .int p_shop), (3, .int p_thing), (4, .int p_weeks), (5, .int p_n)], [.int p_thing, .ref 3], zh, (zw (zw (zw M 85 0 0) 85 1 0) 85 2 0))) rfl ⟨g22, trivial⟩ ?_
  obtain ⟨x1, e23, h⟩ := zb_some h
  refine zF_call (y' := 16) (as := [.ref 3, .int p_thing]) (u := (36, [(6, .int (M 5 (p_thing * 3).toNatClampNeg)), (0, .ref 85), (1, .int p_sort), (2, .int p_shop), (3, .int p_thing), (4, .int p_weeks), (5, .int p_n)], [], zh, (zw (zw (zw M 85 0 0) 85 1 0) 85 2 0))) rfl ⟨rfl, rfl⟩ rfl (qG_lastPrice_ok (S := S) (M := (zw (zw (zw M 85 0 0) 85 1 0) 85 2 0)) e23) ?_
  show zF S 83 (36, [(6, .int (M 5 (p_thing * 3).toNatClampNeg)), (0, .ref 85), (1, .int p_sort), (2, .int p_shop), (3, .int p_thing), (4, .int p_weeks), (5, .int p_n)], [.int x1], zh, (zw (zw (zw M 85 0 0) 85 1 0) 85 2 0)) _ _
  obtain ⟨g24, h⟩ := zq_some h
  obtain ⟨g25, h⟩ := zq_some h
  obtain ⟨g26, h⟩ := zq_some h
  refine zF_go (n := 33) (ps := [vp_in ((p_sort * 4) + p_thing) 20, vp_in ((p_sort * 4) + p_thing) 20, vp_in ((p_shop * 4) + p_thing) 8]) (s' := (86, [(11, .int 0), (10, .int (M 6 ((p_shop * 4) + p_thing).toNatClampNeg)), (9, .int (M 15 ((p_sort * 4) + p_thing).toNatClampNeg)), (8, .int (M 16 ((p_sort * 4) + p_thing).toNatClampNeg)), (7, .int x1), (6, .int (M 5 (p_thing * 3).toNatClampNeg)), (0, .ref 85), (1, .int p_sort), (2, .int p_shop), (3, .int p_thing), (4, .int p_weeks), (5, .int p_n)], [], zh, (zw (zw (zw M 85 0 0) 85 1 0) 85 2 0))) rfl ⟨g24, g25, g26, trivial⟩ ?_
  refine zF_same (s' := (86, [(0, .ref 85), (1, .int p_sort), (4, .int p_weeks), (5, .int p_n), (6, .int (M 5 (p_thing * 3).toNatClampNeg)), (7, .int x1), (8, .int (M 16 ((p_sort * 4) + p_thing).toNatClampNeg)), (9, .int (M 15 ((p_sort * 4) + p_thing).toNatClampNeg)), (10, .int (M 6 ((p_shop * 4) + p_thing).toNatClampNeg)), (11, .int 0)], [], zh, (zw (zw (zw M 85 0 0) 85 1 0) 85 2 0))) rfl ?_
  refine zlp_ind (P := fun (v : Int32 × zM) r => zF S 83 (86, [(0, .ref 85), (1, .int p_sort), (4, .int p_weeks), (5, .int p_n), (6, .int (M 5 (p_thing * 3).toNatClampNeg)), (7, .int x1), (8, .int (M 16 ((p_sort * 4) + p_thing).toNatClampNeg)), (9, .int (M 15 ((p_sort * 4) + p_thing).toNatClampNeg)), (10, .int (M 6 ((p_shop * 4) + p_thing).toNatClampNeg)), (11, .int v.1)], [], zh, v.2) (none) (r)) ?_ _ _ _ h
  intro rec4 hrec4 v r h
  obtain ⟨v11_2, M3⟩ := v
  unfold qK_live_L86 at h
  dsimp only at h
  show zF S 83 (86, [(0, .ref 85), (1, .int p_sort), (4, .int p_weeks), (5, .int p_n), (6, .int (M 5 (p_thing * 3).toNatClampNeg)), (7, .int x1), (8, .int (M 16 ((p_sort * 4) + p_thing).toNatClampNeg)), (9, .int (M 15 ((p_sort * 4) + p_thing).toNatClampNeg)), (10, .int (M 6 ((p_shop * 4) + p_thing).toNatClampNeg)), (11, .int v11_2)], [], zh, M3) _ _
  refine zF_go (n := 2) (ps := []) (s' := (90, [(0, .ref 85), (1, .int p_sort), (4, .int p_weeks), (5, .int p_n), (6, .int (M 5 (p_thing * 3).toNatClampNeg)), (7, .int x1), (8, .int (M 16 ((p_sort * 4) + p_thing).toNatClampNeg)), (9, .int (M 15 ((p_sort * 4) + p_thing).toNatClampNeg)), (10, .int (M 6 ((p_shop * 4) + p_thing).toNatClampNeg)), (11, .int v11_2)], [.int p_n, .int v11_2], zh, M3)) rfl trivial ?_
  refine zF_ge (t := 216) (u := (93, [(0, .ref 85), (1, .int p_sort), (4, .int p_weeks), (5, .int p_n), (6, .int (M 5 (p_thing * 3).toNatClampNeg)), (7, .int x1), (8, .int (M 16 ((p_sort * 4) + p_thing).toNatClampNeg)), (9, .int (M 15 ((p_sort * 4) + p_thing).toNatClampNeg)), (10, .int (M 6 ((p_shop * 4) + p_thing).toNatClampNeg)), (11, .int v11_2)], [], zh, M3)) rfl (fun c27 => ?_) (fun c27 => ?_)
  · rw [if_neg c27] at h
    cases h
    exact zF_ret rfl trivial
  · rw [if_pos c27] at h
    refine zF_go (n := 6) (ps := []) (s' := (101, [(0, .ref 85), (1, .int p_sort), (4, .int p_weeks), (5, .int p_n), (6, .int (M 5 (p_thing * 3).toNatClampNeg)), (7, .int x1), (8, .int (M 16 ((p_sort * 4) + p_thing).toNatClampNeg)), (9, .int (M 15 ((p_sort * 4) + p_thing).toNatClampNeg)), (10, .int (M 6 ((p_shop * 4) + p_thing).toNatClampNeg)), (11, .int v11_2)], [.int 1, .int ((p_weeks >>> (v11_2 &&& 31)) &&& 1)], zh, M3)) rfl trivial ?_
    obtain ⟨w6, g28, h⟩ := zb_some h
    have hk29 : zF S 83 (116, [(0, .ref 85), (1, .int p_sort), (4, .int p_weeks), (5, .int p_n), (6, .int (M 5 (p_thing * 3).toNatClampNeg)), (7, .int x1), (8, .int (M 16 ((p_sort * 4) + p_thing).toNatClampNeg)), (9, .int (M 15 ((p_sort * 4) + p_thing).toNatClampNeg)), (10, .int (M 6 ((p_shop * 4) + p_thing).toNatClampNeg)), (11, .int v11_2)], [.int w6], zh, M3) (none) (r) := by
      refine zF_go (n := 2) (ps := []) (s' := (120, [(12, .int w6), (0, .ref 85), (1, .int p_sort), (4, .int p_weeks), (5, .int p_n), (6, .int (M 5 (p_thing * 3).toNatClampNeg)), (7, .int x1), (8, .int (M 16 ((p_sort * 4) + p_thing).toNatClampNeg)), (9, .int (M 15 ((p_sort * 4) + p_thing).toNatClampNeg)), (10, .int (M 6 ((p_shop * 4) + p_thing).toNatClampNeg)), (11, .int v11_2)], [.int w6], zh, M3)) rfl trivial ?_
      have hk30 : zF S 83 (130, [(0, .ref 85), (1, .int p_sort), (4, .int p_weeks), (5, .int p_n), (6, .int (M 5 (p_thing * 3).toNatClampNeg)), (7, .int x1), (8, .int (M 16 ((p_sort * 4) + p_thing).toNatClampNeg)), (9, .int (M 15 ((p_sort * 4) + p_thing).toNatClampNeg)), (10, .int (M 6 ((p_shop * 4) + p_thing).toNatClampNeg)), (11, .int v11_2), (12, .int w6)], [.int (if w6 = 0 then x1 else (M 5 (p_thing * 3).toNatClampNeg))], zh, M3) (none) (r) := by
        refine zF_go (n := 2) (ps := []) (s' := (134, [(13, .int (if w6 = 0 then x1 else (M 5 (p_thing * 3).toNatClampNeg))), (0, .ref 85), (1, .int p_sort), (4, .int p_weeks), (5, .int p_n), (6, .int (M 5 (p_thing * 3).toNatClampNeg)), (7, .int x1), (8, .int (M 16 ((p_sort * 4) + p_thing).toNatClampNeg)), (9, .int (M 15 ((p_sort * 4) + p_thing).toNatClampNeg)), (10, .int (M 6 ((p_shop * 4) + p_thing).toNatClampNeg)), (11, .int v11_2), (12, .int w6)], [.int w6], zh, M3)) rfl trivial ?_
        refine zlj_e h (fun k => ∀ (w14 : Int32) (M15 : zM) r, k w14 M15 = some r → zF S 83 (173, [(0, .ref 85), (1, .int p_sort), (4, .int p_weeks), (5, .int p_n), (6, .int (M 5 (p_thing * 3).toNatClampNeg)), (7, .int x1), (8, .int (M 16 ((p_sort * 4) + p_thing).toNatClampNeg)), (9, .int (M 15 ((p_sort * 4) + p_thing).toNatClampNeg)), (10, .int (M 6 ((p_shop * 4) + p_thing).toNatClampNeg)), (11, .int v11_2), (13, .int (if w6 = 0 then x1 else (M 5 (p_thing * 3).toNatClampNeg)))], [.int w14], zh, M15) (none) (r)) ?_ ?_
        · intro w14 M15 r h
          try dsimp only at h
          refine zF_go (n := 3) (ps := []) (s' := (179, [(14, .int w14), (0, .ref 85), (1, .int p_sort), (4, .int p_weeks), (5, .int p_n), (6, .int (M 5 (p_thing * 3).toNatClampNeg)), (7, .int x1), (8, .int (M 16 ((p_sort * 4) + p_thing).toNatClampNeg)), (9, .int (M 15 ((p_sort * 4) + p_thing).toNatClampNeg)), (10, .int (M 6 ((p_shop * 4) + p_thing).toNatClampNeg)), (11, .int v11_2), (13, .int (if w6 = 0 then x1 else (M 5 (p_thing * 3).toNatClampNeg)))], [.int (M 16 ((p_sort * 4) + p_thing).toNatClampNeg), .int (if w6 = 0 then x1 else (M 5 (p_thing * 3).toNatClampNeg))], zh, M15)) rfl trivial ?_
          refine zF_gt (t := 210) (u := (182, [(14, .int w14), (0, .ref 85), (1, .int p_sort), (4, .int p_weeks), (5, .int p_n), (6, .int (M 5 (p_thing * 3).toNatClampNeg)), (7, .int x1), (8, .int (M 16 ((p_sort * 4) + p_thing).toNatClampNeg)), (9, .int (M 15 ((p_sort * 4) + p_thing).toNatClampNeg)), (10, .int (M 6 ((p_shop * 4) + p_thing).toNatClampNeg)), (11, .int v11_2), (13, .int (if w6 = 0 then x1 else (M 5 (p_thing * 3).toNatClampNeg)))], [], zh, M15)) rfl (fun c31 => ?_) (fun c31 => ?_)
          · rw [if_pos c31] at h
            refine zF_go (n := 2) (ps := []) (s' := (86, [(11, .int (v11_2 + 1)), (0, .ref 85), (1, .int p_sort), (4, .int p_weeks), (5, .int p_n), (6, .int (M 5 (p_thing * 3).toNatClampNeg)), (7, .int x1), (8, .int (M 16 ((p_sort * 4) + p_thing).toNatClampNeg)), (9, .int (M 15 ((p_sort * 4) + p_thing).toNatClampNeg)), (10, .int (M 6 ((p_shop * 4) + p_thing).toNatClampNeg))], [], zh, M15)) rfl trivial ?_
            exact zF_as (hrec4 _ _ h) rfl
          · rw [if_neg c31] at h
            refine zF_go (n := 16) (ps := []) (s' := (210, [(14, .int w14), (0, .ref 85), (1, .int p_sort), (4, .int p_weeks), (5, .int p_n), (6, .int (M 5 (p_thing * 3).toNatClampNeg)), (7, .int x1), (8, .int (M 16 ((p_sort * 4) + p_thing).toNatClampNeg)), (9, .int (M 15 ((p_sort * 4) + p_thing).toNatClampNeg)), (10, .int (M 6 ((p_shop * 4) + p_thing).toNatClampNeg)), (11, .int v11_2), (13, .int (if w6 = 0 then x1 else (M 5 (p_thing * 3).toNatClampNeg)))], [], zh, (zw (zw M15 85 0 ((M15 85 0) + w14)) 85 1 (((zw M15 85 0 ((M15 85 0) + w14)) 85 1) + (w14 * ((if w6 = 0 then x1 else (M 5 (p_thing * 3).toNatClampNeg)) - (M 6 ((p_shop * 4) + p_thing).toNatClampNeg))))))) rfl trivial ?_
            refine zF_go (n := 2) (ps := []) (s' := (86, [(11, .int (v11_2 + 1)), (0, .ref 85), (1, .int p_sort), (4, .int p_weeks), (5, .int p_n), (6, .int (M 5 (p_thing * 3).toNatClampNeg)), (7, .int x1), (8, .int (M 16 ((p_sort * 4) + p_thing).toNatClampNeg)), (9, .int (M 15 ((p_sort * 4) + p_thing).toNatClampNeg)), (10, .int (M 6 ((p_shop * 4) + p_thing).toNatClampNeg))], [], zh, (zw (zw M15 85 0 ((M15 85 0) + w14)) 85 1 (((zw M15 85 0 ((M15 85 0) + w14)) 85 1) + (w14 * ((if w6 = 0 then x1 else (M 5 (p_thing * 3).toNatClampNeg)) - (M 6 ((p_shop * 4) + p_thing).toNatClampNeg))))))) rfl trivial ?_
            exact zF_as (hrec4 _ _ h) rfl
        · intro k16 hk16 h
          try dsimp only at h
          refine zF_eq (t := 167) (u := (137, [(13, .int (if w6 = 0 then x1 else (M 5 (p_thing * 3).toNatClampNeg))), (0, .ref 85), (1, .int p_sort), (4, .int p_weeks), (5, .int p_n), (6, .int (M 5 (p_thing * 3).toNatClampNeg)), (7, .int x1), (8, .int (M 16 ((p_sort * 4) + p_thing).toNatClampNeg)), (9, .int (M 15 ((p_sort * 4) + p_thing).toNatClampNeg)), (10, .int (M 6 ((p_shop * 4) + p_thing).toNatClampNeg)), (11, .int v11_2), (12, .int w6)], [], zh, M3)) rfl (fun c32 => ?_) (fun c32 => ?_)
          · rw [if_pos c32] at h
            refine zF_go (n := 2) (ps := []) (s' := (170, [(13, .int (if w6 = 0 then x1 else (M 5 (p_thing * 3).toNatClampNeg))), (0, .ref 85), (1, .int p_sort), (4, .int p_weeks), (5, .int p_n), (6, .int (M 5 (p_thing * 3).toNatClampNeg)), (7, .int x1), (8, .int (M 16 ((p_sort * 4) + p_thing).toNatClampNeg)), (9, .int (M 15 ((p_sort * 4) + p_thing).toNatClampNeg)), (10, .int (M 6 ((p_shop * 4) + p_thing).toNatClampNeg)), (11, .int v11_2), (12, .int w6)], [.int (M 15 ((p_sort * 4) + p_thing).toNatClampNeg), .ref 85], zh, M3)) rfl trivial ?_
            obtain ⟨x17, M18, e33, h⟩ := zb2_some h
            refine zF_call (y' := 85) (as := [.ref 85, .int (M 15 ((p_sort * 4) + p_thing).toNatClampNeg)]) (u := (173, [(13, .int (if w6 = 0 then x1 else (M 5 (p_thing * 3).toNatClampNeg))), (0, .ref 85), (1, .int p_sort), (4, .int p_weeks), (5, .int p_n), (6, .int (M 5 (p_thing * 3).toNatClampNeg)), (7, .int x1), (8, .int (M 16 ((p_sort * 4) + p_thing).toNatClampNeg)), (9, .int (M 15 ((p_sort * 4) + p_thing).toNatClampNeg)), (10, .int (M 6 ((p_shop * 4) + p_thing).toNatClampNeg)), (11, .int v11_2), (12, .int w6)], [], zh, M3)) rfl ⟨rfl, rfl⟩ rfl (qK_needDearly_ok (S := S) (M := M3) e33) ?_
            show zF S 83 (173, [(13, .int (if w6 = 0 then x1 else (M 5 (p_thing * 3).toNatClampNeg))), (0, .ref 85), (1, .int p_sort), (4, .int p_weeks), (5, .int p_n), (6, .int (M 5 (p_thing * 3).toNatClampNeg)), (7, .int x1), (8, .int (M 16 ((p_sort * 4) + p_thing).toNatClampNeg)), (9, .int (M 15 ((p_sort * 4) + p_thing).toNatClampNeg)), (10, .int (M 6 ((p_shop * 4) + p_thing).toNatClampNeg)), (11, .int v11_2), (12, .int w6)], [.int x17], zh, M18) _ _
            refine zF_go (n := 3) (ps := []) (s' := (179, [(14, .int x17), (0, .ref 85), (1, .int p_sort), (4, .int p_weeks), (5, .int p_n), (6, .int (M 5 (p_thing * 3).toNatClampNeg)), (7, .int x1), (8, .int (M 16 ((p_sort * 4) + p_thing).toNatClampNeg)), (9, .int (M 15 ((p_sort * 4) + p_thing).toNatClampNeg)), (10, .int (M 6 ((p_shop * 4) + p_thing).toNatClampNeg)), (11, .int v11_2), (13, .int (if w6 = 0 then x1 else (M 5 (p_thing * 3).toNatClampNeg)))], [.int (M 16 ((p_sort * 4) + p_thing).toNatClampNeg), .int (if w6 = 0 then x1 else (M 5 (p_thing * 3).toNatClampNeg))], zh, M18)) rfl trivial ?_
            refine zF_gt (t := 210) (u := (182, [(14, .int x17), (0, .ref 85), (1, .int p_sort), (4, .int p_weeks), (5, .int p_n), (6, .int (M 5 (p_thing * 3).toNatClampNeg)), (7, .int x1), (8, .int (M 16 ((p_sort * 4) + p_thing).toNatClampNeg)), (9, .int (M 15 ((p_sort * 4) + p_thing).toNatClampNeg)), (10, .int (M 6 ((p_shop * 4) + p_thing).toNatClampNeg)), (11, .int v11_2), (13, .int (if w6 = 0 then x1 else (M 5 (p_thing * 3).toNatClampNeg)))], [], zh, M18)) rfl (fun c34 => ?_) (fun c34 => ?_)
            · rw [if_pos c34] at h
              refine zF_go (n := 2) (ps := []) (s' := (86, [(11, .int (v11_2 + 1)), (0, .ref 85), (1, .int p_sort), (4, .int p_weeks), (5, .int p_n), (6, .int (M 5 (p_thing * 3).toNatClampNeg)), (7, .int x1), (8, .int (M 16 ((p_sort * 4) + p_thing).toNatClampNeg)), (9, .int (M 15 ((p_sort * 4) + p_thing).toNatClampNeg)), (10, .int (M 6 ((p_shop * 4) + p_thing).toNatClampNeg))], [], zh, M18)) rfl trivial ?_
              exact zF_as (hrec4 _ _ h) rfl
            · rw [if_neg c34] at h
              refine zF_go (n := 16) (ps := []) (s' := (210, [(14, .int x17), (0, .ref 85), (1, .int p_sort), (4, .int p_weeks), (5, .int p_n), (6, .int (M 5 (p_thing * 3).toNatClampNeg)), (7, .int x1), (8, .int (M 16 ((p_sort * 4) + p_thing).toNatClampNeg)), (9, .int (M 15 ((p_sort * 4) + p_thing).toNatClampNeg)), (10, .int (M 6 ((p_shop * 4) + p_thing).toNatClampNeg)), (11, .int v11_2), (13, .int (if w6 = 0 then x1 else (M 5 (p_thing * 3).toNatClampNeg)))], [], zh, (zw (zw M18 85 0 ((M18 85 0) + x17)) 85 1 (((zw M18 85 0 ((M18 85 0) + x17)) 85 1) + (x17 * ((if w6 = 0 then x1 else (M 5 (p_thing * 3).toNatClampNeg)) - (M 6 ((p_shop * 4) + p_thing).toNatClampNeg))))))) rfl trivial ?_
              refine zF_go (n := 2) (ps := []) (s' := (86, [(11, .int (v11_2 + 1)), (0, .ref 85), (1, .int p_sort), (4, .int p_weeks), (5, .int p_n), (6, .int (M 5 (p_thing * 3).toNatClampNeg)), (7, .int x1), (8, .int (M 16 ((p_sort * 4) + p_thing).toNatClampNeg)), (9, .int (M 15 ((p_sort * 4) + p_thing).toNatClampNeg)), (10, .int (M 6 ((p_shop * 4) + p_thing).toNatClampNeg))], [], zh, (zw (zw M18 85 0 ((M18 85 0) + x17)) 85 1 (((zw M18 85 0 ((M18 85 0) + x17)) 85 1) + (x17 * ((if w6 = 0 then x1 else (M 5 (p_thing * 3).toNatClampNeg)) - (M 6 ((p_shop * 4) + p_thing).toNatClampNeg))))))) rfl trivial ?_
              exact zF_as (hrec4 _ _ h) rfl
          · rw [if_neg c32] at h
            obtain ⟨g35, h⟩ := zq_some h
            refine zF_go (n := 9) (ps := [vp_in p_sort 5]) (s' := (153, [(13, .int (if w6 = 0 then x1 else (M 5 (p_thing * 3).toNatClampNeg))), (0, .ref 85), (1, .int p_sort), (4, .int p_weeks), (5, .int p_n), (6, .int (M 5 (p_thing * 3).toNatClampNeg)), (7, .int x1), (8, .int (M 16 ((p_sort * 4) + p_thing).toNatClampNeg)), (9, .int (M 15 ((p_sort * 4) + p_thing).toNatClampNeg)), (10, .int (M 6 ((p_shop * 4) + p_thing).toNatClampNeg)), (11, .int v11_2), (12, .int w6)], [.int (M 16 ((p_sort * 4) + p_thing).toNatClampNeg), .int (if w6 = 0 then x1 else (M 5 (p_thing * 3).toNatClampNeg)), .int (M3 14 p_sort.toNatClampNeg), .int (M 15 ((p_sort * 4) + p_thing).toNatClampNeg), .ref 85], zh, M3)) rfl ⟨g35, trivial⟩ ?_
            have hk36 : zF S 83 (161, [(0, .ref 85), (1, .int p_sort), (4, .int p_weeks), (5, .int p_n), (6, .int (M 5 (p_thing * 3).toNatClampNeg)), (7, .int x1), (8, .int (M 16 ((p_sort * 4) + p_thing).toNatClampNeg)), (9, .int (M 15 ((p_sort * 4) + p_thing).toNatClampNeg)), (10, .int (M 6 ((p_shop * 4) + p_thing).toNatClampNeg)), (11, .int v11_2), (13, .int (if w6 = 0 then x1 else (M 5 (p_thing * 3).toNatClampNeg)))], [.int (if (M 16 ((p_sort * 4) + p_thing).toNatClampNeg) < (if w6 = 0 then x1 else (M 5 (p_thing * 3).toNatClampNeg)) then 0 else 1), .int (M3 14 p_sort.toNatClampNeg), .int (M 15 ((p_sort * 4) + p_thing).toNatClampNeg), .ref 85], zh, M3) (none) (r) := by
              obtain ⟨x20, M21, e37, h⟩ := zb2_some h
              refine zF_call (y' := 84) (as := [.ref 85, .int (M 15 ((p_sort * 4) + p_thing).toNatClampNeg), .int (M3 14 p_sort.toNatClampNeg), .int (if (M 16 ((p_sort * 4) + p_thing).toNatClampNeg) < (if w6 = 0 then x1 else (M 5 (p_thing * 3).toNatClampNeg)) then 0 else 1)]) (u := (164, [(0, .ref 85), (1, .int p_sort), (4, .int p_weeks), (5, .int p_n), (6, .int (M 5 (p_thing * 3).toNatClampNeg)), (7, .int x1), (8, .int (M 16 ((p_sort * 4) + p_thing).toNatClampNeg)), (9, .int (M 15 ((p_sort * 4) + p_thing).toNatClampNeg)), (10, .int (M 6 ((p_shop * 4) + p_thing).toNatClampNeg)), (11, .int v11_2), (13, .int (if w6 = 0 then x1 else (M 5 (p_thing * 3).toNatClampNeg)))], [], zh, M3)) rfl ⟨rfl, rfl⟩ rfl (qK_needCheaply_ok (S := S) (M := M3) e37) ?_
              show zF S 83 (164, [(0, .ref 85), (1, .int p_sort), (4, .int p_weeks), (5, .int p_n), (6, .int (M 5 (p_thing * 3).toNatClampNeg)), (7, .int x1), (8, .int (M 16 ((p_sort * 4) + p_thing).toNatClampNeg)), (9, .int (M 15 ((p_sort * 4) + p_thing).toNatClampNeg)), (10, .int (M 6 ((p_shop * 4) + p_thing).toNatClampNeg)), (11, .int v11_2), (13, .int (if w6 = 0 then x1 else (M 5 (p_thing * 3).toNatClampNeg)))], [.int x20], zh, M21) _ _
              refine zF_go (n := 1) (ps := []) (s' := (173, [(0, .ref 85), (1, .int p_sort), (4, .int p_weeks), (5, .int p_n), (6, .int (M 5 (p_thing * 3).toNatClampNeg)), (7, .int x1), (8, .int (M 16 ((p_sort * 4) + p_thing).toNatClampNeg)), (9, .int (M 15 ((p_sort * 4) + p_thing).toNatClampNeg)), (10, .int (M 6 ((p_shop * 4) + p_thing).toNatClampNeg)), (11, .int v11_2), (13, .int (if w6 = 0 then x1 else (M 5 (p_thing * 3).toNatClampNeg)))], [.int x20], zh, M21)) rfl trivial ?_
              exact zF_as (hk16 _ _ _ h) rfl
            refine zF_gt (t := 160) (u := (156, [(13, .int (if w6 = 0 then x1 else (M 5 (p_thing * 3).toNatClampNeg))), (0, .ref 85), (1, .int p_sort), (4, .int p_weeks), (5, .int p_n), (6, .int (M 5 (p_thing * 3).toNatClampNeg)), (7, .int x1), (8, .int (M 16 ((p_sort * 4) + p_thing).toNatClampNeg)), (9, .int (M 15 ((p_sort * 4) + p_thing).toNatClampNeg)), (10, .int (M 6 ((p_shop * 4) + p_thing).toNatClampNeg)), (11, .int v11_2), (12, .int w6)], [.int (M3 14 p_sort.toNatClampNeg), .int (M 15 ((p_sort * 4) + p_thing).toNatClampNeg), .ref 85], zh, M3)) rfl (fun c38 => ?_) (fun c38 => ?_)
            · skip
              refine zF_go (n := 1) (ps := []) (s' := (161, [(13, .int (if w6 = 0 then x1 else (M 5 (p_thing * 3).toNatClampNeg))), (0, .ref 85), (1, .int p_sort), (4, .int p_weeks), (5, .int p_n), (6, .int (M 5 (p_thing * 3).toNatClampNeg)), (7, .int x1), (8, .int (M 16 ((p_sort * 4) + p_thing).toNatClampNeg)), (9, .int (M 15 ((p_sort * 4) + p_thing).toNatClampNeg)), (10, .int (M 6 ((p_shop * 4) + p_thing).toNatClampNeg)), (11, .int v11_2), (12, .int w6)], [.int 0, .int (M3 14 p_sort.toNatClampNeg), .int (M 15 ((p_sort * 4) + p_thing).toNatClampNeg), .ref 85], zh, M3)) rfl trivial ?_
              simp only [if_pos c38] at hk36
              try simp only [if_pos c38]
              exact zF_as hk36 rfl
            · skip
              refine zF_go (n := 2) (ps := []) (s' := (161, [(13, .int (if w6 = 0 then x1 else (M 5 (p_thing * 3).toNatClampNeg))), (0, .ref 85), (1, .int p_sort), (4, .int p_weeks), (5, .int p_n), (6, .int (M 5 (p_thing * 3).toNatClampNeg)), (7, .int x1), (8, .int (M 16 ((p_sort * 4) + p_thing).toNatClampNeg)), (9, .int (M 15 ((p_sort * 4) + p_thing).toNatClampNeg)), (10, .int (M 6 ((p_shop * 4) + p_thing).toNatClampNeg)), (11, .int v11_2), (12, .int w6)], [.int 1, .int (M3 14 p_sort.toNatClampNeg), .int (M 15 ((p_sort * 4) + p_thing).toNatClampNeg), .ref 85], zh, M3)) rfl trivial ?_
              simp only [if_neg c38] at hk36
              try simp only [if_neg c38]
              exact zF_as hk36 rfl
      refine zF_eq (t := 128) (u := (123, [(12, .int w6), (0, .ref 85), (1, .int p_sort), (4, .int p_weeks), (5, .int p_n), (6, .int (M 5 (p_thing * 3).toNatClampNeg)), (7, .int x1), (8, .int (M 16 ((p_sort * 4) + p_thing).toNatClampNeg)), (9, .int (M 15 ((p_sort * 4) + p_thing).toNatClampNeg)), (10, .int (M 6 ((p_shop * 4) + p_thing).toNatClampNeg)), (11, .int v11_2)], [], zh, M3)) rfl (fun c39 => ?_) (fun c39 => ?_)
      · skip
        refine zF_go (n := 1) (ps := []) (s' := (130, [(12, .int w6), (0, .ref 85), (1, .int p_sort), (4, .int p_weeks), (5, .int p_n), (6, .int (M 5 (p_thing * 3).toNatClampNeg)), (7, .int x1), (8, .int (M 16 ((p_sort * 4) + p_thing).toNatClampNeg)), (9, .int (M 15 ((p_sort * 4) + p_thing).toNatClampNeg)), (10, .int (M 6 ((p_shop * 4) + p_thing).toNatClampNeg)), (11, .int v11_2)], [.int x1], zh, M3)) rfl trivial ?_
        simp only [if_pos c39] at hk30
        try simp only [if_pos c39]
        exact zF_as hk30 rfl
      · skip
        refine zF_go (n := 2) (ps := []) (s' := (130, [(12, .int w6), (0, .ref 85), (1, .int p_sort), (4, .int p_weeks), (5, .int p_n), (6, .int (M 5 (p_thing * 3).toNatClampNeg)), (7, .int x1), (8, .int (M 16 ((p_sort * 4) + p_thing).toNatClampNeg)), (9, .int (M 15 ((p_sort * 4) + p_thing).toNatClampNeg)), (10, .int (M 6 ((p_shop * 4) + p_thing).toNatClampNeg)), (11, .int v11_2)], [.int (M 5 (p_thing * 3).toNatClampNeg)], zh, M3)) rfl trivial ?_
        simp only [if_neg c39] at hk30
        try simp only [if_neg c39]
        exact zF_as hk30 rfl
    refine zlj_e g28 (fun k => ∀ (_ : Unit), k () = some w6 → zF S 83 (115, [(0, .ref 85), (1, .int p_sort), (4, .int p_weeks), (5, .int p_n), (6, .int (M 5 (p_thing * 3).toNatClampNeg)), (7, .int x1), (8, .int (M 16 ((p_sort * 4) + p_thing).toNatClampNeg)), (9, .int (M 15 ((p_sort * 4) + p_thing).toNatClampNeg)), (10, .int (M 6 ((p_shop * 4) + p_thing).toNatClampNeg)), (11, .int v11_2)], [], zh, M3) (none) (r)) ?_ ?_
    · intro _ g28
      try dsimp only at g28
      refine zF_go (n := 1) (ps := []) (s' := (116, [(0, .ref 85), (1, .int p_sort), (4, .int p_weeks), (5, .int p_n), (6, .int (M 5 (p_thing * 3).toNatClampNeg)), (7, .int x1), (8, .int (M 16 ((p_sort * 4) + p_thing).toNatClampNeg)), (9, .int (M 15 ((p_sort * 4) + p_thing).toNatClampNeg)), (10, .int (M 6 ((p_shop * 4) + p_thing).toNatClampNeg)), (11, .int v11_2)], [.int 0], zh, M3)) rfl trivial ?_
      cases g28
      exact zF_as hk29 rfl
    · intro k7 hk7 g28
      try dsimp only at g28
      refine zF_ne (t := 115) (u := (104, [(0, .ref 85), (1, .int p_sort), (4, .int p_weeks), (5, .int p_n), (6, .int (M 5 (p_thing * 3).toNatClampNeg)), (7, .int x1), (8, .int (M 16 ((p_sort * 4) + p_thing).toNatClampNeg)), (9, .int (M 15 ((p_sort * 4) + p_thing).toNatClampNeg)), (10, .int (M 6 ((p_shop * 4) + p_thing).toNatClampNeg)), (11, .int v11_2)], [], zh, M3)) rfl (fun c40 => ?_) (fun c40 => ?_)
      · rw [if_neg c40] at g28
        exact zF_as (hk7 () g28) rfl
      · rw [if_pos c40] at g28
        refine zF_go (n := 2) (ps := []) (s' := (108, [(0, .ref 85), (1, .int p_sort), (4, .int p_weeks), (5, .int p_n), (6, .int (M 5 (p_thing * 3).toNatClampNeg)), (7, .int x1), (8, .int (M 16 ((p_sort * 4) + p_thing).toNatClampNeg)), (9, .int (M 15 ((p_sort * 4) + p_thing).toNatClampNeg)), (10, .int (M 6 ((p_shop * 4) + p_thing).toNatClampNeg)), (11, .int v11_2)], [.int x1, .int (M 5 (p_thing * 3).toNatClampNeg)], zh, M3)) rfl trivial ?_
        refine zF_ge (t := 115) (u := (111, [(0, .ref 85), (1, .int p_sort), (4, .int p_weeks), (5, .int p_n), (6, .int (M 5 (p_thing * 3).toNatClampNeg)), (7, .int x1), (8, .int (M 16 ((p_sort * 4) + p_thing).toNatClampNeg)), (9, .int (M 15 ((p_sort * 4) + p_thing).toNatClampNeg)), (10, .int (M 6 ((p_shop * 4) + p_thing).toNatClampNeg)), (11, .int v11_2)], [], zh, M3)) rfl (fun c41 => ?_) (fun c41 => ?_)
        · rw [if_neg c41] at g28
          exact zF_as (hk7 () g28) rfl
        · rw [if_pos c41] at g28
          refine zF_go (n := 2) (ps := []) (s' := (116, [(0, .ref 85), (1, .int p_sort), (4, .int p_weeks), (5, .int p_n), (6, .int (M 5 (p_thing * 3).toNatClampNeg)), (7, .int x1), (8, .int (M 16 ((p_sort * 4) + p_thing).toNatClampNeg)), (9, .int (M 15 ((p_sort * 4) + p_thing).toNatClampNeg)), (10, .int (M 6 ((p_shop * 4) + p_thing).toNatClampNeg)), (11, .int v11_2)], [.int 1], zh, M3)) rfl trivial ?_
          cases g28
          exact zF_as hk29 rfl
noncomputable def qS_home (M : zM) (p_sort : Int32) (p_shop : Int32) (p_thing : Int32) (p_weeks : Int32) (p_n : Int32) (p_what : Int32) : Option (Int64 × zM) :=
  zb (qS_noSort M p_sort) fun x1 =>
  if x1 = 0 then
    (zb (qS_noShop p_shop) fun x2 =>
    if x2 = 0 then
      (zb (qS_noThing M p_thing) fun x3 =>
      if x3 = 0 then
        (zq (vp_in ((p_sort * 4) + p_thing) 20) <| if (M 15 ((p_sort * 4) + p_thing).toNatClampNeg) = 0 then
          (some ((-1000000000000000001), M))
        else
          (zb (qS_isOut p_weeks 0 4095) fun x4 =>
          if x4 = 0 then
            (zb (qS_isOut p_n 1 12) fun x5 =>
            if x5 = 0 then
              (zb (qS_isOut p_what 0 2) fun x6 =>
              if x6 = 0 then
                (zb (qK_live M p_sort p_shop p_thing p_weeks p_n) fun M7 =>
                if p_what = 0 then
                  (some ((M7 85 0).toInt64, M7))
                else
                  (if p_what = 1 then
                    (some ((M7 85 1).toInt64, M7))
                  else
                    (some ((M7 85 2).toInt64, M7))))
              else
                (some ((-1000000000000000002), M)))
            else
              (some ((-1000000000000000002), M)))
          else
            (some ((-1000000000000000002), M))))
      else
        (some ((-1000000000000000001), M)))
    else
      (some ((-1000000000000000001), M)))
  else
    (some ((-1000000000000000001), M))
set_option maxRecDepth 20000 in
set_option maxHeartbeats 4000000 in
theorem qS_home_ok {S : zSc} {M : zM} {p_sort : Int32} {p_shop : Int32} {p_thing : Int32} {p_weeks : Int32} {p_n : Int32} {p_what : Int32} {r : Int64 × zM} (h : qS_home M p_sort p_shop p_thing p_weeks p_n p_what = some r) : zF S 116 (0, [(0, .ref 1), (1, .int p_sort), (2, .int p_shop), (3, .int p_thing), (4, .int p_weeks), (5, .int p_n), (6, .int p_what)], [], zh, M) (some (.long r.1)) (r.2) := by
  unfold qS_home at h
  refine zF_go (n := 2) (ps := []) (s' := (2, [(0, .ref 1), (1, .int p_sort), (2, .int p_shop), (3, .int p_thing), (4, .int p_weeks), (5, .int p_n), (6, .int p_what)], [.int p_sort, .ref 1], zh, M)) rfl trivial ?_
  obtain ⟨x1, e8, h⟩ := zb_some h
  refine zF_call (y' := 129) (as := [.ref 1, .int p_sort]) (u := (5, [(0, .ref 1), (1, .int p_sort), (2, .int p_shop), (3, .int p_thing), (4, .int p_weeks), (5, .int p_n), (6, .int p_what)], [], zh, M)) rfl ⟨rfl, rfl⟩ rfl (qS_noSort_ok (S := S) (M := M) e8) ?_
  show zF S 116 (5, [(0, .ref 1), (1, .int p_sort), (2, .int p_shop), (3, .int p_thing), (4, .int p_weeks), (5, .int p_n), (6, .int p_what)], [.int x1], zh, M) _ _
  refine zF_ne (t := 42) (u := (8, [(0, .ref 1), (1, .int p_sort), (2, .int p_shop), (3, .int p_thing), (4, .int p_weeks), (5, .int p_n), (6, .int p_what)], [], zh, M)) rfl (fun c9 => ?_) (fun c9 => ?_)
  · rw [if_neg c9] at h
    refine zF_go (n := 1) (ps := []) (s' := (45, [], [.long (-1000000000000000001)], zh, M)) rfl trivial ?_
    cases h
    exact zF_ret rfl trivial
  · rw [if_pos c9] at h
    refine zF_go (n := 1) (ps := []) (s' := (9, [(0, .ref 1), (1, .int p_sort), (2, .int p_shop), (3, .int p_thing), (4, .int p_weeks), (5, .int p_n), (6, .int p_what)], [.int p_shop], zh, M)) rfl trivial ?_
    obtain ⟨x2, e10, h⟩ := zb_some h
    refine zF_call (y' := 126) (as := [.int p_shop]) (u := (12, [(0, .ref 1), (1, .int p_sort), (2, .int p_shop), (3, .int p_thing), (4, .int p_weeks), (5, .int p_n), (6, .int p_what)], [], zh, M)) rfl ⟨rfl, rfl⟩ rfl (qS_noShop_ok (S := S) (M := M) e10) ?_
    show zF S 116 (12, [(0, .ref 1), (1, .int p_sort), (2, .int p_shop), (3, .int p_thing), (4, .int p_weeks), (5, .int p_n), (6, .int p_what)], [.int x2], zh, M) _ _
    refine zF_ne (t := 42) (u := (15, [(0, .ref 1), (1, .int p_sort), (2, .int p_shop), (3, .int p_thing), (4, .int p_weeks), (5, .int p_n), (6, .int p_what)], [], zh, M)) rfl (fun c11 => ?_) (fun c11 => ?_)
    · rw [if_neg c11] at h
      refine zF_go (n := 1) (ps := []) (s' := (45, [], [.long (-1000000000000000001)], zh, M)) rfl trivial ?_
      cases h
      exact zF_ret rfl trivial
    · rw [if_pos c11] at h
      refine zF_go (n := 2) (ps := []) (s' := (17, [(0, .ref 1), (1, .int p_sort), (2, .int p_shop), (3, .int p_thing), (4, .int p_weeks), (5, .int p_n), (6, .int p_what)], [.int p_thing, .ref 1], zh, M)) rfl trivial ?_
      obtain ⟨x3, e12, h⟩ := zb_some h
      refine zF_call (y' := 128) (as := [.ref 1, .int p_thing]) (u := (20, [(0, .ref 1), (1, .int p_sort), (2, .int p_shop), (3, .int p_thing), (4, .int p_weeks), (5, .int p_n), (6, .int p_what)], [], zh, M)) rfl ⟨rfl, rfl⟩ rfl (qS_noThing_ok (S := S) (M := M) e12) ?_
      show zF S 116 (20, [(0, .ref 1), (1, .int p_sort), (2, .int p_shop), (3, .int p_thing), (4, .int p_weeks), (5, .int p_n), (6, .int p_what)], [.int x3], zh, M) _ _
      refine zF_ne (t := 42) (u := (23, [(0, .ref 1), (1, .int p_sort), (2, .int p_shop), (3, .int p_thing), (4, .int p_weeks), (5, .int p_n), (6, .int p_what)], [], zh, M)) rfl (fun c13 => ?_) (fun c13 => ?_)
      · rw [if_neg c13] at h
        refine zF_go (n := 1) (ps := []) (s' := (45, [], [.long (-1000000000000000001)], zh, M)) rfl trivial ?_
        cases h
        exact zF_ret rfl trivial
      · rw [if_pos c13] at h
        obtain ⟨g14, h⟩ := zq_some h
        refine zF_go (n := 10) (ps := [vp_in ((p_sort * 4) + p_thing) 20]) (s' := (39, [(0, .ref 1), (1, .int p_sort), (2, .int p_shop), (3, .int p_thing), (4, .int p_weeks), (5, .int p_n), (6, .int p_what)], [.int (M 15 ((p_sort * 4) + p_thing).toNatClampNeg)], zh, M)) rfl ⟨g14, trivial⟩ ?_
        refine zF_ne (t := 46) (u := (42, [(0, .ref 1), (1, .int p_sort), (2, .int p_shop), (3, .int p_thing), (4, .int p_weeks), (5, .int p_n), (6, .int p_what)], [], zh, M)) rfl (fun c15 => ?_) (fun c15 => ?_)
        · rw [if_neg c15] at h
          refine zF_go (n := 3) (ps := []) (s' := (52, [(0, .ref 1), (1, .int p_sort), (2, .int p_shop), (3, .int p_thing), (4, .int p_weeks), (5, .int p_n), (6, .int p_what)], [.int 4095, .int 0, .int p_weeks], zh, M)) rfl trivial ?_
          obtain ⟨x4, e16, h⟩ := zb_some h
          refine zF_call (y' := 125) (as := [.int p_weeks, .int 0, .int 4095]) (u := (55, [(0, .ref 1), (1, .int p_sort), (2, .int p_shop), (3, .int p_thing), (4, .int p_weeks), (5, .int p_n), (6, .int p_what)], [], zh, M)) rfl ⟨rfl, rfl⟩ rfl (qS_isOut_ok (S := S) (M := M) e16) ?_
          show zF S 116 (55, [(0, .ref 1), (1, .int p_sort), (2, .int p_shop), (3, .int p_thing), (4, .int p_weeks), (5, .int p_n), (6, .int p_what)], [.int x4], zh, M) _ _
          refine zF_ne (t := 79) (u := (58, [(0, .ref 1), (1, .int p_sort), (2, .int p_shop), (3, .int p_thing), (4, .int p_weeks), (5, .int p_n), (6, .int p_what)], [], zh, M)) rfl (fun c17 => ?_) (fun c17 => ?_)
          · rw [if_neg c17] at h
            refine zF_go (n := 1) (ps := []) (s' := (82, [], [.long (-1000000000000000002)], zh, M)) rfl trivial ?_
            cases h
            exact zF_ret rfl trivial
          · rw [if_pos c17] at h
            refine zF_go (n := 3) (ps := []) (s' := (63, [(0, .ref 1), (1, .int p_sort), (2, .int p_shop), (3, .int p_thing), (4, .int p_weeks), (5, .int p_n), (6, .int p_what)], [.int 12, .int 1, .int p_n], zh, M)) rfl trivial ?_
            obtain ⟨x5, e18, h⟩ := zb_some h
            refine zF_call (y' := 125) (as := [.int p_n, .int 1, .int 12]) (u := (66, [(0, .ref 1), (1, .int p_sort), (2, .int p_shop), (3, .int p_thing), (4, .int p_weeks), (5, .int p_n), (6, .int p_what)], [], zh, M)) rfl ⟨rfl, rfl⟩ rfl (qS_isOut_ok (S := S) (M := M) e18) ?_
            show zF S 116 (66, [(0, .ref 1), (1, .int p_sort), (2, .int p_shop), (3, .int p_thing), (4, .int p_weeks), (5, .int p_n), (6, .int p_what)], [.int x5], zh, M) _ _
            refine zF_ne (t := 79) (u := (69, [(0, .ref 1), (1, .int p_sort), (2, .int p_shop), (3, .int p_thing), (4, .int p_weeks), (5, .int p_n), (6, .int p_what)], [], zh, M)) rfl (fun c19 => ?_) (fun c19 => ?_)
            · rw [if_neg c19] at h
              refine zF_go (n := 1) (ps := []) (s' := (82, [], [.long (-1000000000000000002)], zh, M)) rfl trivial ?_
              cases h
              exact zF_ret rfl trivial
            · rw [if_pos c19] at h
              refine zF_go (n := 3) (ps := []) (s' := (73, [(0, .ref 1), (1, .int p_sort), (2, .int p_shop), (3, .int p_thing), (4, .int p_weeks), (5, .int p_n), (6, .int p_what)], [.int 2, .int 0, .int p_what], zh, M)) rfl trivial ?_
              obtain ⟨x6, e20, h⟩ := zb_some h
              refine zF_call (y' := 125) (as := [.int p_what, .int 0, .int 2]) (u := (76, [(0, .ref 1), (1, .int p_sort), (2, .int p_shop), (3, .int p_thing), (4, .int p_weeks), (5, .int p_n), (6, .int p_what)], [], zh, M)) rfl ⟨rfl, rfl⟩ rfl (qS_isOut_ok (S := S) (M := M) e20) ?_
              show zF S 116 (76, [(0, .ref 1), (1, .int p_sort), (2, .int p_shop), (3, .int p_thing), (4, .int p_weeks), (5, .int p_n), (6, .int p_what)], [.int x6], zh, M) _ _
              refine zF_eq (t := 83) (u := (79, [(0, .ref 1), (1, .int p_sort), (2, .int p_shop), (3, .int p_thing), (4, .int p_weeks), (5, .int p_n), (6, .int p_what)], [], zh, M)) rfl (fun c21 => ?_) (fun c21 => ?_)
              · rw [if_pos c21] at h
                refine zF_go (n := 7) (ps := []) (s' := (94, [(0, .ref 1), (1, .int p_sort), (2, .int p_shop), (3, .int p_thing), (4, .int p_weeks), (5, .int p_n), (6, .int p_what)], [.int p_n, .int p_weeks, .int p_thing, .int p_shop, .int p_sort, .ref 85], zh, M)) rfl trivial ?_
                obtain ⟨M7, e22, h⟩ := zb_some h
                refine zF_call (y' := 83) (as := [.ref 85, .int p_sort, .int p_shop, .int p_thing, .int p_weeks, .int p_n]) (u := (97, [(0, .ref 1), (1, .int p_sort), (2, .int p_shop), (3, .int p_thing), (4, .int p_weeks), (5, .int p_n), (6, .int p_what)], [], zh, M)) rfl ⟨rfl, rfl⟩ rfl (qK_live_ok (S := S) (M := M) e22) ?_
                show zF S 116 (97, [(0, .ref 1), (1, .int p_sort), (2, .int p_shop), (3, .int p_thing), (4, .int p_weeks), (5, .int p_n), (6, .int p_what)], [], zh, M7) _ _
                refine zF_go (n := 1) (ps := []) (s' := (99, [(0, .ref 1), (1, .int p_sort), (2, .int p_shop), (3, .int p_thing), (4, .int p_weeks), (5, .int p_n), (6, .int p_what)], [.int p_what], zh, M7)) rfl trivial ?_
                refine zF_ne (t := 111) (u := (102, [(0, .ref 1), (1, .int p_sort), (2, .int p_shop), (3, .int p_thing), (4, .int p_weeks), (5, .int p_n), (6, .int p_what)], [], zh, M7)) rfl (fun c23 => ?_) (fun c23 => ?_)
                · rw [if_neg c23] at h
                  refine zF_go (n := 2) (ps := []) (s' := (114, [(0, .ref 1), (1, .int p_sort), (2, .int p_shop), (3, .int p_thing), (4, .int p_weeks), (5, .int p_n), (6, .int p_what)], [.int 1, .int p_what], zh, M7)) rfl trivial ?_
                  refine zF_ne (t := 128) (u := (117, [(0, .ref 1), (1, .int p_sort), (2, .int p_shop), (3, .int p_thing), (4, .int p_weeks), (5, .int p_n), (6, .int p_what)], [], zh, M7)) rfl (fun c24 => ?_) (fun c24 => ?_)
                  · rw [if_neg c24] at h
                    refine zF_go (n := 4) (ps := []) (s' := (136, [(0, .ref 1), (1, .int p_sort), (2, .int p_shop), (3, .int p_thing), (4, .int p_weeks), (5, .int p_n), (6, .int p_what)], [.long (M7 85 2).toInt64], zh, M7)) rfl trivial ?_
                    cases h
                    exact zF_ret rfl trivial
                  · rw [if_pos c24] at h
                    refine zF_go (n := 5) (ps := []) (s' := (136, [(0, .ref 1), (1, .int p_sort), (2, .int p_shop), (3, .int p_thing), (4, .int p_weeks), (5, .int p_n), (6, .int p_what)], [.long (M7 85 1).toInt64], zh, M7)) rfl trivial ?_
                    cases h
                    exact zF_ret rfl trivial
                · rw [if_pos c23] at h
                  refine zF_go (n := 4) (ps := []) (s' := (110, [(0, .ref 1), (1, .int p_sort), (2, .int p_shop), (3, .int p_thing), (4, .int p_weeks), (5, .int p_n), (6, .int p_what)], [.long (M7 85 0).toInt64], zh, M7)) rfl trivial ?_
                  cases h
                  exact zF_ret rfl trivial
              · rw [if_neg c21] at h
                refine zF_go (n := 1) (ps := []) (s' := (82, [], [.long (-1000000000000000002)], zh, M)) rfl trivial ?_
                cases h
                exact zF_ret rfl trivial
        · rw [if_pos c15] at h
          refine zF_go (n := 1) (ps := []) (s' := (45, [], [.long (-1000000000000000001)], zh, M)) rfl trivial ?_
          cases h
          exact zF_ret rfl trivial
noncomputable def qM_home_L160 (p_n : Int32) (p_weeks : Int32) (M : zM) (p_thing : Int32) (p_sort : Int32) (p_shop : Int32) (p_what : Int32) (rec11 : (Int32 × Int64 × Int64 × Int32) → Option (Int64)) (v : Int32 × Int64 × Int64 × Int32) : Option (Int64) := match v with
  | (v12_7, v13_8, v15_9, v17_10) =>
    if v17_10 < p_n then
      (zb (zlj (fun (_ : Unit) =>
          some 0) fun k14 =>
        if ((p_weeks >>> (v17_10 &&& 31)) &&& 1) = 1 then
          (if (M 91 (3 * p_thing).toNatClampNeg) < (M 91 (((3 * p_thing) + (M 92 p_thing.toNatClampNeg)) - 1).toNatClampNeg) then
            (some 1)
          else
            (k14 ()))
        else
          (k14 ())) fun (w13 : Int32) =>
      zb (zlj (fun (_ : Unit) =>
          some 0) fun k18 =>
        if w13 = 0 then
          (if v12_7 = 0 then
            (k18 ())
          else
            (if v12_7 < (M 97 ((4 * p_sort) + p_thing).toNatClampNeg) then
              (some v12_7)
            else
              (some (M 97 ((4 * p_sort) + p_thing).toNatClampNeg))))
        else
          (k18 ())) fun (w17 : Int32) =>
      zb (if (M 98 ((4 * p_sort) + p_thing).toNatClampNeg) < (if ((p_weeks >>> (v17_10 &&& 31)) &&& 1) = 1 then (M 91 (3 * p_thing).toNatClampNeg) else (M 91 (((3 * p_thing) + (M 92 p_thing.toNatClampNeg)) - 1).toNatClampNeg)) then
          (some 0)
        else
          (if w13 = 0 then
            (some ((M 97 ((4 * p_sort) + p_thing).toNatClampNeg) - w17))
          else
            (zq (vp_in p_sort 5) <| some (((M 97 ((4 * p_sort) + p_thing).toNatClampNeg) + (M 96 p_sort.toNatClampNeg)) - v12_7)))) fun (w19 : Int32) =>
      zb (zlj (fun (_ : Unit) =>
          some (v12_7 - w17)) fun k22 =>
        if w13 = 0 then
          (k22 ())
        else
          (if (0 : Int32) < w19 then
            (zq (vp_in p_sort 5) <| some (M 96 p_sort.toNatClampNeg))
          else
            (k22 ()))) fun (w21 : Int32) =>
      rec11 (w21, (v13_8 + w19.toInt64), (v15_9 + (w19.toInt64 * ((if ((p_weeks >>> (v17_10 &&& 31)) &&& 1) = 1 then (M 91 (3 * p_thing).toNatClampNeg) else (M 91 (((3 * p_thing) + (M 92 p_thing.toNatClampNeg)) - 1).toNatClampNeg)) - (M 87 ((4 * p_shop) + p_thing).toNatClampNeg)).toInt64)), (v17_10 + 1)))
    else
      (if p_what = 0 then
        (some v13_8)
      else
        (if p_what = 1 then
          (some v15_9)
        else
          (some v12_7.toInt64)))
noncomputable def qM_home (M : zM) (p_sort : Int32) (p_shop : Int32) (p_thing : Int32) (p_weeks : Int32) (p_n : Int32) (p_what : Int32) : Option (Int64) :=
  zb (qM_isSort M p_sort) fun x1 =>
  if x1 = 0 then
    (some (-1000000000000000001))
  else
    (zb (qM_isShop p_shop) fun x2 =>
    if x2 = 0 then
      (some (-1000000000000000001))
    else
      (zb (qM_isThing M p_thing) fun x3 =>
      if x3 = 0 then
        (some (-1000000000000000001))
      else
        (zq (vp_in ((4 * p_sort) + p_thing) 20) <| if (M 97 ((4 * p_sort) + p_thing).toNatClampNeg) = 0 then
          (some (-1000000000000000001))
        else
          (zb (qM_in p_weeks.toInt64 0 4095) fun x4 =>
          if x4 = 0 then
            (some (-1000000000000000002))
          else
            (zb (qM_in p_n.toInt64 1 12) fun x5 =>
            if x5 = 0 then
              (some (-1000000000000000002))
            else
              (zb (qM_in p_what.toInt64 0 2) fun x6 =>
              if x6 = 0 then
                (some (-1000000000000000002))
              else
                (zq (vp_in (3 * p_thing) 12) <| zq (vp_in p_thing 4) <| zq (vp_in (((3 * p_thing) + (M 92 p_thing.toNatClampNeg)) - 1) 12) <| zq (vp_in ((4 * p_sort) + p_thing) 20) <| zq (vp_in ((4 * p_sort) + p_thing) 20) <| zq (vp_in ((4 * p_shop) + p_thing) 8) <| zlp (qM_home_L160 p_n p_weeks M p_thing p_sort p_shop p_what) zfu (0, 0, 0, 0))))))))
set_option maxRecDepth 20000 in
set_option maxHeartbeats 4000000 in
theorem qM_home_ok {S : zSc} {M : zM} {p_sort : Int32} {p_shop : Int32} {p_thing : Int32} {p_weeks : Int32} {p_n : Int32} {p_what : Int32} {r : Int64} (h : qM_home M p_sort p_shop p_thing p_weeks p_n p_what = some r) : zF S 197 (0, [(0, .ref 86), (1, .int p_sort), (2, .int p_shop), (3, .int p_thing), (4, .int p_weeks), (5, .int p_n), (6, .int p_what)], [], zh, M) (some (.long r)) (M) := by
  unfold qM_home at h
  refine zF_go (n := 2) (ps := []) (s' := (2, [(0, .ref 86), (1, .int p_sort), (2, .int p_shop), (3, .int p_thing), (4, .int p_weeks), (5, .int p_n), (6, .int p_what)], [.int p_sort, .ref 86], zh, M)) rfl trivial ?_
  obtain ⟨x1, e23, h⟩ := zb_some h
  refine zF_call (y' := 146) (as := [.ref 86, .int p_sort]) (u := (5, [(0, .ref 86), (1, .int p_sort), (2, .int p_shop), (3, .int p_thing), (4, .int p_weeks), (5, .int p_n), (6, .int p_what)], [], zh, M)) rfl ⟨rfl, rfl⟩ rfl (qM_isSort_ok (S := S) (M := M) e23) ?_
  show zF S 197 (5, [(0, .ref 86), (1, .int p_sort), (2, .int p_shop), (3, .int p_thing), (4, .int p_weeks), (5, .int p_n), (6, .int p_what)], [.int x1], zh, M) _ _
  refine zF_eq (t := 36) (u := (8, [(0, .ref 86), (1, .int p_sort), (2, .int p_shop), (3, .int p_thing), (4, .int p_weeks), (5, .int p_n), (6, .int p_what)], [], zh, M)) rfl (fun c24 => ?_) (fun c24 => ?_)
  · rw [if_pos c24] at h
    refine zF_go (n := 1) (ps := []) (s' := (39, [], [.long (-1000000000000000001)], zh, M)) rfl trivial ?_
    cases h
    exact zF_ret rfl trivial
  · rw [if_neg c24] at h
    refine zF_go (n := 1) (ps := []) (s' := (9, [(0, .ref 86), (1, .int p_sort), (2, .int p_shop), (3, .int p_thing), (4, .int p_weeks), (5, .int p_n), (6, .int p_what)], [.int p_shop], zh, M)) rfl trivial ?_
    obtain ⟨x2, e25, h⟩ := zb_some h
    refine zF_call (y' := 136) (as := [.int p_shop]) (u := (12, [(0, .ref 86), (1, .int p_sort), (2, .int p_shop), (3, .int p_thing), (4, .int p_weeks), (5, .int p_n), (6, .int p_what)], [], zh, M)) rfl ⟨rfl, rfl⟩ rfl (qM_isShop_ok (S := S) (M := M) e25) ?_
    show zF S 197 (12, [(0, .ref 86), (1, .int p_sort), (2, .int p_shop), (3, .int p_thing), (4, .int p_weeks), (5, .int p_n), (6, .int p_what)], [.int x2], zh, M) _ _
    refine zF_eq (t := 36) (u := (15, [(0, .ref 86), (1, .int p_sort), (2, .int p_shop), (3, .int p_thing), (4, .int p_weeks), (5, .int p_n), (6, .int p_what)], [], zh, M)) rfl (fun c26 => ?_) (fun c26 => ?_)
    · rw [if_pos c26] at h
      refine zF_go (n := 1) (ps := []) (s' := (39, [], [.long (-1000000000000000001)], zh, M)) rfl trivial ?_
      cases h
      exact zF_ret rfl trivial
    · rw [if_neg c26] at h
      refine zF_go (n := 2) (ps := []) (s' := (17, [(0, .ref 86), (1, .int p_sort), (2, .int p_shop), (3, .int p_thing), (4, .int p_weeks), (5, .int p_n), (6, .int p_what)], [.int p_thing, .ref 86], zh, M)) rfl trivial ?_
      obtain ⟨x3, e27, h⟩ := zb_some h
      refine zF_call (y' := 137) (as := [.ref 86, .int p_thing]) (u := (20, [(0, .ref 86), (1, .int p_sort), (2, .int p_shop), (3, .int p_thing), (4, .int p_weeks), (5, .int p_n), (6, .int p_what)], [], zh, M)) rfl ⟨rfl, rfl⟩ rfl (qM_isThing_ok (S := S) (M := M) e27) ?_
      show zF S 197 (20, [(0, .ref 86), (1, .int p_sort), (2, .int p_shop), (3, .int p_thing), (4, .int p_weeks), (5, .int p_n), (6, .int p_what)], [.int x3], zh, M) _ _
      refine zF_eq (t := 36) (u := (23, [(0, .ref 86), (1, .int p_sort), (2, .int p_shop), (3, .int p_thing), (4, .int p_weeks), (5, .int p_n), (6, .int p_what)], [], zh, M)) rfl (fun c28 => ?_) (fun c28 => ?_)
      · rw [if_pos c28] at h
        refine zF_go (n := 1) (ps := []) (s' := (39, [], [.long (-1000000000000000001)], zh, M)) rfl trivial ?_
        cases h
        exact zF_ret rfl trivial
      · rw [if_neg c28] at h
        obtain ⟨g29, h⟩ := zq_some h
        refine zF_go (n := 8) (ps := [vp_in ((4 * p_sort) + p_thing) 20]) (s' := (33, [(0, .ref 86), (1, .int p_sort), (2, .int p_shop), (3, .int p_thing), (4, .int p_weeks), (5, .int p_n), (6, .int p_what)], [.int (M 97 ((4 * p_sort) + p_thing).toNatClampNeg)], zh, M)) rfl ⟨g29, trivial⟩ ?_
        refine zF_ne (t := 40) (u := (36, [(0, .ref 86), (1, .int p_sort), (2, .int p_shop), (3, .int p_thing), (4, .int p_weeks), (5, .int p_n), (6, .int p_what)], [], zh, M)) rfl (fun c30 => ?_) (fun c30 => ?_)
        · rw [if_neg c30] at h
          refine zF_go (n := 4) (ps := []) (s' := (47, [(0, .ref 86), (1, .int p_sort), (2, .int p_shop), (3, .int p_thing), (4, .int p_weeks), (5, .int p_n), (6, .int p_what)], [.long 4095, .long 0, .long p_weeks.toInt64], zh, M)) rfl trivial ?_
          obtain ⟨x4, e31, h⟩ := zb_some h
          refine zF_call (y' := 134) (as := [.long p_weeks.toInt64, .long 0, .long 4095]) (u := (50, [(0, .ref 86), (1, .int p_sort), (2, .int p_shop), (3, .int p_thing), (4, .int p_weeks), (5, .int p_n), (6, .int p_what)], [], zh, M)) rfl ⟨rfl, rfl⟩ rfl (qM_in_ok (S := S) (M := M) e31) ?_
          show zF S 197 (50, [(0, .ref 86), (1, .int p_sort), (2, .int p_shop), (3, .int p_thing), (4, .int p_weeks), (5, .int p_n), (6, .int p_what)], [.int x4], zh, M) _ _
          refine zF_eq (t := 79) (u := (53, [(0, .ref 86), (1, .int p_sort), (2, .int p_shop), (3, .int p_thing), (4, .int p_weeks), (5, .int p_n), (6, .int p_what)], [], zh, M)) rfl (fun c32 => ?_) (fun c32 => ?_)
          · rw [if_pos c32] at h
            refine zF_go (n := 1) (ps := []) (s' := (82, [], [.long (-1000000000000000002)], zh, M)) rfl trivial ?_
            cases h
            exact zF_ret rfl trivial
          · rw [if_neg c32] at h
            refine zF_go (n := 4) (ps := []) (s' := (60, [(0, .ref 86), (1, .int p_sort), (2, .int p_shop), (3, .int p_thing), (4, .int p_weeks), (5, .int p_n), (6, .int p_what)], [.long 12, .long 1, .long p_n.toInt64], zh, M)) rfl trivial ?_
            obtain ⟨x5, e33, h⟩ := zb_some h
            refine zF_call (y' := 134) (as := [.long p_n.toInt64, .long 1, .long 12]) (u := (63, [(0, .ref 86), (1, .int p_sort), (2, .int p_shop), (3, .int p_thing), (4, .int p_weeks), (5, .int p_n), (6, .int p_what)], [], zh, M)) rfl ⟨rfl, rfl⟩ rfl (qM_in_ok (S := S) (M := M) e33) ?_
            show zF S 197 (63, [(0, .ref 86), (1, .int p_sort), (2, .int p_shop), (3, .int p_thing), (4, .int p_weeks), (5, .int p_n), (6, .int p_what)], [.int x5], zh, M) _ _
            refine zF_eq (t := 79) (u := (66, [(0, .ref 86), (1, .int p_sort), (2, .int p_shop), (3, .int p_thing), (4, .int p_weeks), (5, .int p_n), (6, .int p_what)], [], zh, M)) rfl (fun c34 => ?_) (fun c34 => ?_)
            · rw [if_pos c34] at h
              refine zF_go (n := 1) (ps := []) (s' := (82, [], [.long (-1000000000000000002)], zh, M)) rfl trivial ?_
              cases h
              exact zF_ret rfl trivial
            · rw [if_neg c34] at h
              refine zF_go (n := 4) (ps := []) (s' := (73, [(0, .ref 86), (1, .int p_sort), (2, .int p_shop), (3, .int p_thing), (4, .int p_weeks), (5, .int p_n), (6, .int p_what)], [.long 2, .long 0, .long p_what.toInt64], zh, M)) rfl trivial ?_
              obtain ⟨x6, e35, h⟩ := zb_some h
              refine zF_call (y' := 134) (as := [.long p_what.toInt64, .long 0, .long 2]) (u := (76, [(0, .ref 86), (1, .int p_sort), (2, .int p_shop), (3, .int p_thing), (4, .int p_weeks), (5, .int p_n), (6, .int p_what)], [], zh, M)) rfl ⟨rfl, rfl⟩ rfl (qM_in_ok (S := S) (M := M) e35) ?_
              show zF S 197 (76, [(0, .ref 86), (1, .int p_sort), (2, .int p_shop), (3, .int p_thing), (4, .int p_weeks), (5, .int p_n), (6, .int p_what)], [.int x6], zh, M) _ _
              refine zF_ne (t := 83) (u := (79, [(0, .ref 86), (1, .int p_sort), (2, .int p_shop), (3, .int p_thing), (4, .int p_weeks), (5, .int p_n), (6, .int p_what)], [], zh, M)) rfl (fun c36 => ?_) (fun c36 => ?_)
              · rw [if_neg c36] at h
                obtain ⟨g37, h⟩ := zq_some h
                obtain ⟨g38, h⟩ := zq_some h
                obtain ⟨g39, h⟩ := zq_some h
                obtain ⟨g40, h⟩ := zq_some h
                obtain ⟨g41, h⟩ := zq_some h
                obtain ⟨g42, h⟩ := zq_some h
                refine zF_go (n := 56) (ps := [vp_in (3 * p_thing) 12, vp_in p_thing 4, vp_in (((3 * p_thing) + (M 92 p_thing.toNatClampNeg)) - 1) 12, vp_in ((4 * p_sort) + p_thing) 20, vp_in ((4 * p_sort) + p_thing) 20, vp_in ((4 * p_shop) + p_thing) 8]) (s' := (160, [(17, .int 0), (15, .long 0), (13, .long 0), (12, .int 0), (11, .int (M 87 ((4 * p_shop) + p_thing).toNatClampNeg)), (10, .int (M 97 ((4 * p_sort) + p_thing).toNatClampNeg)), (9, .int (M 98 ((4 * p_sort) + p_thing).toNatClampNeg)), (8, .int (M 91 (((3 * p_thing) + (M 92 p_thing.toNatClampNeg)) - 1).toNatClampNeg)), (7, .int (M 91 (3 * p_thing).toNatClampNeg)), (0, .ref 86), (1, .int p_sort), (2, .int p_shop), (3, .int p_thing), (4, .int p_weeks), (5, .int p_n), (6, .int p_what)], [], zh, M)) rfl ⟨g37, g38, g39, g40, g41, g42, trivial⟩ ?_
                refine zF_same (s' := (160, [(0, .ref 86), (1, .int p_sort), (4, .int p_weeks), (5, .int p_n), (6, .int p_what), (7, .int (M 91 (3 * p_thing).toNatClampNeg)), (8, .int (M 91 (((3 * p_thing) + (M 92 p_thing.toNatClampNeg)) - 1).toNatClampNeg)), (9, .int (M 98 ((4 * p_sort) + p_thing).toNatClampNeg)), (10, .int (M 97 ((4 * p_sort) + p_thing).toNatClampNeg)), (11, .int (M 87 ((4 * p_shop) + p_thing).toNatClampNeg)), (12, .int 0), (13, .long 0), (15, .long 0), (17, .int 0)], [], zh, M)) rfl ?_
                refine zlp_ind (P := fun (v : Int32 × Int64 × Int64 × Int32) r => zF S 197 (160, [(0, .ref 86), (1, .int p_sort), (4, .int p_weeks), (5, .int p_n), (6, .int p_what), (7, .int (M 91 (3 * p_thing).toNatClampNeg)), (8, .int (M 91 (((3 * p_thing) + (M 92 p_thing.toNatClampNeg)) - 1).toNatClampNeg)), (9, .int (M 98 ((4 * p_sort) + p_thing).toNatClampNeg)), (10, .int (M 97 ((4 * p_sort) + p_thing).toNatClampNeg)), (11, .int (M 87 ((4 * p_shop) + p_thing).toNatClampNeg)), (12, .int v.1), (13, .long v.2.1), (15, .long v.2.2.1), (17, .int v.2.2.2)], [], zh, M) (some (.long r)) (M)) ?_ _ _ _ h
                intro rec11 hrec11 v r h
                obtain ⟨v12_7, v13_8, v15_9, v17_10⟩ := v
                unfold qM_home_L160 at h
                dsimp only at h
                show zF S 197 (160, [(0, .ref 86), (1, .int p_sort), (4, .int p_weeks), (5, .int p_n), (6, .int p_what), (7, .int (M 91 (3 * p_thing).toNatClampNeg)), (8, .int (M 91 (((3 * p_thing) + (M 92 p_thing.toNatClampNeg)) - 1).toNatClampNeg)), (9, .int (M 98 ((4 * p_sort) + p_thing).toNatClampNeg)), (10, .int (M 97 ((4 * p_sort) + p_thing).toNatClampNeg)), (11, .int (M 87 ((4 * p_shop) + p_thing).toNatClampNeg)), (12, .int v12_7), (13, .long v13_8), (15, .long v15_9), (17, .int v17_10)], [], zh, M) _ _
                refine zF_go (n := 2) (ps := []) (s' := (164, [(0, .ref 86), (1, .int p_sort), (4, .int p_weeks), (5, .int p_n), (6, .int p_what), (7, .int (M 91 (3 * p_thing).toNatClampNeg)), (8, .int (M 91 (((3 * p_thing) + (M 92 p_thing.toNatClampNeg)) - 1).toNatClampNeg)), (9, .int (M 98 ((4 * p_sort) + p_thing).toNatClampNeg)), (10, .int (M 97 ((4 * p_sort) + p_thing).toNatClampNeg)), (11, .int (M 87 ((4 * p_shop) + p_thing).toNatClampNeg)), (12, .int v12_7), (13, .long v13_8), (15, .long v15_9), (17, .int v17_10)], [.int p_n, .int v17_10], zh, M)) rfl trivial ?_
                refine zF_ge (t := 335) (u := (167, [(0, .ref 86), (1, .int p_sort), (4, .int p_weeks), (5, .int p_n), (6, .int p_what), (7, .int (M 91 (3 * p_thing).toNatClampNeg)), (8, .int (M 91 (((3 * p_thing) + (M 92 p_thing.toNatClampNeg)) - 1).toNatClampNeg)), (9, .int (M 98 ((4 * p_sort) + p_thing).toNatClampNeg)), (10, .int (M 97 ((4 * p_sort) + p_thing).toNatClampNeg)), (11, .int (M 87 ((4 * p_shop) + p_thing).toNatClampNeg)), (12, .int v12_7), (13, .long v13_8), (15, .long v15_9), (17, .int v17_10)], [], zh, M)) rfl (fun c43 => ?_) (fun c43 => ?_)
                · rw [if_neg c43] at h
                  refine zF_go (n := 1) (ps := []) (s' := (337, [(0, .ref 86), (1, .int p_sort), (4, .int p_weeks), (5, .int p_n), (6, .int p_what), (7, .int (M 91 (3 * p_thing).toNatClampNeg)), (8, .int (M 91 (((3 * p_thing) + (M 92 p_thing.toNatClampNeg)) - 1).toNatClampNeg)), (9, .int (M 98 ((4 * p_sort) + p_thing).toNatClampNeg)), (10, .int (M 97 ((4 * p_sort) + p_thing).toNatClampNeg)), (11, .int (M 87 ((4 * p_shop) + p_thing).toNatClampNeg)), (12, .int v12_7), (13, .long v13_8), (15, .long v15_9), (17, .int v17_10)], [.int p_what], zh, M)) rfl trivial ?_
                  refine zF_ne (t := 345) (u := (340, [(0, .ref 86), (1, .int p_sort), (4, .int p_weeks), (5, .int p_n), (6, .int p_what), (7, .int (M 91 (3 * p_thing).toNatClampNeg)), (8, .int (M 91 (((3 * p_thing) + (M 92 p_thing.toNatClampNeg)) - 1).toNatClampNeg)), (9, .int (M 98 ((4 * p_sort) + p_thing).toNatClampNeg)), (10, .int (M 97 ((4 * p_sort) + p_thing).toNatClampNeg)), (11, .int (M 87 ((4 * p_shop) + p_thing).toNatClampNeg)), (12, .int v12_7), (13, .long v13_8), (15, .long v15_9), (17, .int v17_10)], [], zh, M)) rfl (fun c44 => ?_) (fun c44 => ?_)
                  · rw [if_neg c44] at h
                    refine zF_go (n := 2) (ps := []) (s' := (348, [(0, .ref 86), (1, .int p_sort), (4, .int p_weeks), (5, .int p_n), (6, .int p_what), (7, .int (M 91 (3 * p_thing).toNatClampNeg)), (8, .int (M 91 (((3 * p_thing) + (M 92 p_thing.toNatClampNeg)) - 1).toNatClampNeg)), (9, .int (M 98 ((4 * p_sort) + p_thing).toNatClampNeg)), (10, .int (M 97 ((4 * p_sort) + p_thing).toNatClampNeg)), (11, .int (M 87 ((4 * p_shop) + p_thing).toNatClampNeg)), (12, .int v12_7), (13, .long v13_8), (15, .long v15_9), (17, .int v17_10)], [.int 1, .int p_what], zh, M)) rfl trivial ?_
                    refine zF_ne (t := 356) (u := (351, [(0, .ref 86), (1, .int p_sort), (4, .int p_weeks), (5, .int p_n), (6, .int p_what), (7, .int (M 91 (3 * p_thing).toNatClampNeg)), (8, .int (M 91 (((3 * p_thing) + (M 92 p_thing.toNatClampNeg)) - 1).toNatClampNeg)), (9, .int (M 98 ((4 * p_sort) + p_thing).toNatClampNeg)), (10, .int (M 97 ((4 * p_sort) + p_thing).toNatClampNeg)), (11, .int (M 87 ((4 * p_shop) + p_thing).toNatClampNeg)), (12, .int v12_7), (13, .long v13_8), (15, .long v15_9), (17, .int v17_10)], [], zh, M)) rfl (fun c45 => ?_) (fun c45 => ?_)
                    · rw [if_neg c45] at h
                      refine zF_go (n := 2) (ps := []) (s' := (359, [(0, .ref 86), (1, .int p_sort), (4, .int p_weeks), (5, .int p_n), (6, .int p_what), (7, .int (M 91 (3 * p_thing).toNatClampNeg)), (8, .int (M 91 (((3 * p_thing) + (M 92 p_thing.toNatClampNeg)) - 1).toNatClampNeg)), (9, .int (M 98 ((4 * p_sort) + p_thing).toNatClampNeg)), (10, .int (M 97 ((4 * p_sort) + p_thing).toNatClampNeg)), (11, .int (M 87 ((4 * p_shop) + p_thing).toNatClampNeg)), (12, .int v12_7), (13, .long v13_8), (15, .long v15_9), (17, .int v17_10)], [.long v12_7.toInt64], zh, M)) rfl trivial ?_
                      cases h
                      exact zF_ret rfl trivial
                    · rw [if_pos c45] at h
                      refine zF_go (n := 2) (ps := []) (s' := (359, [(0, .ref 86), (1, .int p_sort), (4, .int p_weeks), (5, .int p_n), (6, .int p_what), (7, .int (M 91 (3 * p_thing).toNatClampNeg)), (8, .int (M 91 (((3 * p_thing) + (M 92 p_thing.toNatClampNeg)) - 1).toNatClampNeg)), (9, .int (M 98 ((4 * p_sort) + p_thing).toNatClampNeg)), (10, .int (M 97 ((4 * p_sort) + p_thing).toNatClampNeg)), (11, .int (M 87 ((4 * p_shop) + p_thing).toNatClampNeg)), (12, .int v12_7), (13, .long v13_8), (15, .long v15_9), (17, .int v17_10)], [.long v15_9], zh, M)) rfl trivial ?_
                      cases h
                      exact zF_ret rfl trivial
                  · rw [if_pos c44] at h
                    refine zF_go (n := 2) (ps := []) (s' := (359, [(0, .ref 86), (1, .int p_sort), (4, .int p_weeks), (5, .int p_n), (6, .int p_what), (7, .int (M 91 (3 * p_thing).toNatClampNeg)), (8, .int (M 91 (((3 * p_thing) + (M 92 p_thing.toNatClampNeg)) - 1).toNatClampNeg)), (9, .int (M 98 ((4 * p_sort) + p_thing).toNatClampNeg)), (10, .int (M 97 ((4 * p_sort) + p_thing).toNatClampNeg)), (11, .int (M 87 ((4 * p_shop) + p_thing).toNatClampNeg)), (12, .int v12_7), (13, .long v13_8), (15, .long v15_9), (17, .int v17_10)], [.long v13_8], zh, M)) rfl trivial ?_
                    cases h
                    exact zF_ret rfl trivial
                · rw [if_pos c43] at h
                  refine zF_go (n := 6) (ps := []) (s' := (175, [(0, .ref 86), (1, .int p_sort), (4, .int p_weeks), (5, .int p_n), (6, .int p_what), (7, .int (M 91 (3 * p_thing).toNatClampNeg)), (8, .int (M 91 (((3 * p_thing) + (M 92 p_thing.toNatClampNeg)) - 1).toNatClampNeg)), (9, .int (M 98 ((4 * p_sort) + p_thing).toNatClampNeg)), (10, .int (M 97 ((4 * p_sort) + p_thing).toNatClampNeg)), (11, .int (M 87 ((4 * p_shop) + p_thing).toNatClampNeg)), (12, .int v12_7), (13, .long v13_8), (15, .long v15_9), (17, .int v17_10)], [.int 1, .int ((p_weeks >>> (v17_10 &&& 31)) &&& 1)], zh, M)) rfl trivial ?_
                  obtain ⟨w13, g46, h⟩ := zb_some h
                  have hk47 : zF S 197 (190, [(0, .ref 86), (1, .int p_sort), (4, .int p_weeks), (5, .int p_n), (6, .int p_what), (7, .int (M 91 (3 * p_thing).toNatClampNeg)), (8, .int (M 91 (((3 * p_thing) + (M 92 p_thing.toNatClampNeg)) - 1).toNatClampNeg)), (9, .int (M 98 ((4 * p_sort) + p_thing).toNatClampNeg)), (10, .int (M 97 ((4 * p_sort) + p_thing).toNatClampNeg)), (11, .int (M 87 ((4 * p_shop) + p_thing).toNatClampNeg)), (12, .int v12_7), (13, .long v13_8), (15, .long v15_9), (17, .int v17_10)], [.int w13], zh, M) (some (.long r)) (M) := by
                    refine zF_go (n := 7) (ps := []) (s' := (200, [(18, .int w13), (0, .ref 86), (1, .int p_sort), (4, .int p_weeks), (5, .int p_n), (6, .int p_what), (7, .int (M 91 (3 * p_thing).toNatClampNeg)), (8, .int (M 91 (((3 * p_thing) + (M 92 p_thing.toNatClampNeg)) - 1).toNatClampNeg)), (9, .int (M 98 ((4 * p_sort) + p_thing).toNatClampNeg)), (10, .int (M 97 ((4 * p_sort) + p_thing).toNatClampNeg)), (11, .int (M 87 ((4 * p_shop) + p_thing).toNatClampNeg)), (12, .int v12_7), (13, .long v13_8), (15, .long v15_9), (17, .int v17_10)], [.int 1, .int ((p_weeks >>> (v17_10 &&& 31)) &&& 1)], zh, M)) rfl trivial ?_
                    have hk48 : zF S 197 (210, [(0, .ref 86), (1, .int p_sort), (4, .int p_weeks), (5, .int p_n), (6, .int p_what), (7, .int (M 91 (3 * p_thing).toNatClampNeg)), (8, .int (M 91 (((3 * p_thing) + (M 92 p_thing.toNatClampNeg)) - 1).toNatClampNeg)), (9, .int (M 98 ((4 * p_sort) + p_thing).toNatClampNeg)), (10, .int (M 97 ((4 * p_sort) + p_thing).toNatClampNeg)), (11, .int (M 87 ((4 * p_shop) + p_thing).toNatClampNeg)), (12, .int v12_7), (13, .long v13_8), (15, .long v15_9), (17, .int v17_10), (18, .int w13)], [.int (if ((p_weeks >>> (v17_10 &&& 31)) &&& 1) = 1 then (M 91 (3 * p_thing).toNatClampNeg) else (M 91 (((3 * p_thing) + (M 92 p_thing.toNatClampNeg)) - 1).toNatClampNeg))], zh, M) (some (.long r)) (M) := by
                      refine zF_go (n := 2) (ps := []) (s' := (214, [(19, .int (if ((p_weeks >>> (v17_10 &&& 31)) &&& 1) = 1 then (M 91 (3 * p_thing).toNatClampNeg) else (M 91 (((3 * p_thing) + (M 92 p_thing.toNatClampNeg)) - 1).toNatClampNeg))), (0, .ref 86), (1, .int p_sort), (4, .int p_weeks), (5, .int p_n), (6, .int p_what), (7, .int (M 91 (3 * p_thing).toNatClampNeg)), (8, .int (M 91 (((3 * p_thing) + (M 92 p_thing.toNatClampNeg)) - 1).toNatClampNeg)), (9, .int (M 98 ((4 * p_sort) + p_thing).toNatClampNeg)), (10, .int (M 97 ((4 * p_sort) + p_thing).toNatClampNeg)), (11, .int (M 87 ((4 * p_shop) + p_thing).toNatClampNeg)), (12, .int v12_7), (13, .long v13_8), (15, .long v15_9), (17, .int v17_10), (18, .int w13)], [.int w13], zh, M)) rfl trivial ?_
                      obtain ⟨w17, g49, h⟩ := zb_some h
                      have hk50 : zF S 197 (240, [(0, .ref 86), (1, .int p_sort), (4, .int p_weeks), (5, .int p_n), (6, .int p_what), (7, .int (M 91 (3 * p_thing).toNatClampNeg)), (8, .int (M 91 (((3 * p_thing) + (M 92 p_thing.toNatClampNeg)) - 1).toNatClampNeg)), (9, .int (M 98 ((4 * p_sort) + p_thing).toNatClampNeg)), (10, .int (M 97 ((4 * p_sort) + p_thing).toNatClampNeg)), (11, .int (M 87 ((4 * p_shop) + p_thing).toNatClampNeg)), (12, .int v12_7), (13, .long v13_8), (15, .long v15_9), (17, .int v17_10), (18, .int w13), (19, .int (if ((p_weeks >>> (v17_10 &&& 31)) &&& 1) = 1 then (M 91 (3 * p_thing).toNatClampNeg) else (M 91 (((3 * p_thing) + (M 92 p_thing.toNatClampNeg)) - 1).toNatClampNeg)))], [.int w17], zh, M) (some (.long r)) (M) := by
                        refine zF_go (n := 3) (ps := []) (s' := (246, [(20, .int w17), (0, .ref 86), (1, .int p_sort), (4, .int p_weeks), (5, .int p_n), (6, .int p_what), (7, .int (M 91 (3 * p_thing).toNatClampNeg)), (8, .int (M 91 (((3 * p_thing) + (M 92 p_thing.toNatClampNeg)) - 1).toNatClampNeg)), (9, .int (M 98 ((4 * p_sort) + p_thing).toNatClampNeg)), (10, .int (M 97 ((4 * p_sort) + p_thing).toNatClampNeg)), (11, .int (M 87 ((4 * p_shop) + p_thing).toNatClampNeg)), (12, .int v12_7), (13, .long v13_8), (15, .long v15_9), (17, .int v17_10), (18, .int w13), (19, .int (if ((p_weeks >>> (v17_10 &&& 31)) &&& 1) = 1 then (M 91 (3 * p_thing).toNatClampNeg) else (M 91 (((3 * p_thing) + (M 92 p_thing.toNatClampNeg)) - 1).toNatClampNeg)))], [.int (M 98 ((4 * p_sort) + p_thing).toNatClampNeg), .int (if ((p_weeks >>> (v17_10 &&& 31)) &&& 1) = 1 then (M 91 (3 * p_thing).toNatClampNeg) else (M 91 (((3 * p_thing) + (M 92 p_thing.toNatClampNeg)) - 1).toNatClampNeg))], zh, M)) rfl trivial ?_
                        obtain ⟨w19, g51, h⟩ := zb_some h
                        have hk52 : zF S 197 (278, [(0, .ref 86), (1, .int p_sort), (4, .int p_weeks), (5, .int p_n), (6, .int p_what), (7, .int (M 91 (3 * p_thing).toNatClampNeg)), (8, .int (M 91 (((3 * p_thing) + (M 92 p_thing.toNatClampNeg)) - 1).toNatClampNeg)), (9, .int (M 98 ((4 * p_sort) + p_thing).toNatClampNeg)), (10, .int (M 97 ((4 * p_sort) + p_thing).toNatClampNeg)), (11, .int (M 87 ((4 * p_shop) + p_thing).toNatClampNeg)), (12, .int v12_7), (13, .long v13_8), (15, .long v15_9), (17, .int v17_10), (18, .int w13), (19, .int (if ((p_weeks >>> (v17_10 &&& 31)) &&& 1) = 1 then (M 91 (3 * p_thing).toNatClampNeg) else (M 91 (((3 * p_thing) + (M 92 p_thing.toNatClampNeg)) - 1).toNatClampNeg))), (20, .int w17)], [.int w19], zh, M) (some (.long r)) (M) := by
                          refine zF_go (n := 2) (ps := []) (s' := (282, [(21, .int w19), (0, .ref 86), (1, .int p_sort), (4, .int p_weeks), (5, .int p_n), (6, .int p_what), (7, .int (M 91 (3 * p_thing).toNatClampNeg)), (8, .int (M 91 (((3 * p_thing) + (M 92 p_thing.toNatClampNeg)) - 1).toNatClampNeg)), (9, .int (M 98 ((4 * p_sort) + p_thing).toNatClampNeg)), (10, .int (M 97 ((4 * p_sort) + p_thing).toNatClampNeg)), (11, .int (M 87 ((4 * p_shop) + p_thing).toNatClampNeg)), (12, .int v12_7), (13, .long v13_8), (15, .long v15_9), (17, .int v17_10), (18, .int w13), (19, .int (if ((p_weeks >>> (v17_10 &&& 31)) &&& 1) = 1 then (M 91 (3 * p_thing).toNatClampNeg) else (M 91 (((3 * p_thing) + (M 92 p_thing.toNatClampNeg)) - 1).toNatClampNeg))), (20, .int w17)], [.int w13], zh, M)) rfl trivial ?_
                          obtain ⟨w21, g53, h⟩ := zb_some h
                          have hk54 : zF S 197 (304, [(0, .ref 86), (1, .int p_sort), (4, .int p_weeks), (5, .int p_n), (6, .int p_what), (7, .int (M 91 (3 * p_thing).toNatClampNeg)), (8, .int (M 91 (((3 * p_thing) + (M 92 p_thing.toNatClampNeg)) - 1).toNatClampNeg)), (9, .int (M 98 ((4 * p_sort) + p_thing).toNatClampNeg)), (10, .int (M 97 ((4 * p_sort) + p_thing).toNatClampNeg)), (11, .int (M 87 ((4 * p_shop) + p_thing).toNatClampNeg)), (13, .long v13_8), (15, .long v15_9), (17, .int v17_10), (19, .int (if ((p_weeks >>> (v17_10 &&& 31)) &&& 1) = 1 then (M 91 (3 * p_thing).toNatClampNeg) else (M 91 (((3 * p_thing) + (M 92 p_thing.toNatClampNeg)) - 1).toNatClampNeg))), (21, .int w19)], [.int w21], zh, M) (some (.long r)) (M) := by
                            refine zF_go (n := 18) (ps := []) (s' := (160, [(17, .int (v17_10 + 1)), (15, .long (v15_9 + (w19.toInt64 * ((if ((p_weeks >>> (v17_10 &&& 31)) &&& 1) = 1 then (M 91 (3 * p_thing).toNatClampNeg) else (M 91 (((3 * p_thing) + (M 92 p_thing.toNatClampNeg)) - 1).toNatClampNeg)) - (M 87 ((4 * p_shop) + p_thing).toNatClampNeg)).toInt64))), (13, .long (v13_8 + w19.toInt64)), (12, .int w21), (0, .ref 86), (1, .int p_sort), (4, .int p_weeks), (5, .int p_n), (6, .int p_what), (7, .int (M 91 (3 * p_thing).toNatClampNeg)), (8, .int (M 91 (((3 * p_thing) + (M 92 p_thing.toNatClampNeg)) - 1).toNatClampNeg)), (9, .int (M 98 ((4 * p_sort) + p_thing).toNatClampNeg)), (10, .int (M 97 ((4 * p_sort) + p_thing).toNatClampNeg)), (11, .int (M 87 ((4 * p_shop) + p_thing).toNatClampNeg)), (19, .int (if ((p_weeks >>> (v17_10 &&& 31)) &&& 1) = 1 then (M 91 (3 * p_thing).toNatClampNeg) else (M 91 (((3 * p_thing) + (M 92 p_thing.toNatClampNeg)) - 1).toNatClampNeg))), (21, .int w19)], [], zh, M)) rfl trivial ?_
                            exact zF_as (hrec11 _ _ h) rfl
                          refine zlj_e g53 (fun k => ∀ (_ : Unit), k () = some w21 → zF S 197 (299, [(0, .ref 86), (1, .int p_sort), (4, .int p_weeks), (5, .int p_n), (6, .int p_what), (7, .int (M 91 (3 * p_thing).toNatClampNeg)), (8, .int (M 91 (((3 * p_thing) + (M 92 p_thing.toNatClampNeg)) - 1).toNatClampNeg)), (9, .int (M 98 ((4 * p_sort) + p_thing).toNatClampNeg)), (10, .int (M 97 ((4 * p_sort) + p_thing).toNatClampNeg)), (11, .int (M 87 ((4 * p_shop) + p_thing).toNatClampNeg)), (12, .int v12_7), (13, .long v13_8), (15, .long v15_9), (17, .int v17_10), (19, .int (if ((p_weeks >>> (v17_10 &&& 31)) &&& 1) = 1 then (M 91 (3 * p_thing).toNatClampNeg) else (M 91 (((3 * p_thing) + (M 92 p_thing.toNatClampNeg)) - 1).toNatClampNeg))), (20, .int w17), (21, .int w19)], [], zh, M) (some (.long r)) (M)) ?_ ?_
                          · intro _ g53
                            try dsimp only at g53
                            refine zF_go (n := 3) (ps := []) (s' := (304, [(0, .ref 86), (1, .int p_sort), (4, .int p_weeks), (5, .int p_n), (6, .int p_what), (7, .int (M 91 (3 * p_thing).toNatClampNeg)), (8, .int (M 91 (((3 * p_thing) + (M 92 p_thing.toNatClampNeg)) - 1).toNatClampNeg)), (9, .int (M 98 ((4 * p_sort) + p_thing).toNatClampNeg)), (10, .int (M 97 ((4 * p_sort) + p_thing).toNatClampNeg)), (11, .int (M 87 ((4 * p_shop) + p_thing).toNatClampNeg)), (12, .int v12_7), (13, .long v13_8), (15, .long v15_9), (17, .int v17_10), (19, .int (if ((p_weeks >>> (v17_10 &&& 31)) &&& 1) = 1 then (M 91 (3 * p_thing).toNatClampNeg) else (M 91 (((3 * p_thing) + (M 92 p_thing.toNatClampNeg)) - 1).toNatClampNeg))), (20, .int w17), (21, .int w19)], [.int (v12_7 - w17)], zh, M)) rfl trivial ?_
                            cases g53
                            exact zF_as hk54 rfl
                          · intro k22 hk22 g53
                            try dsimp only at g53
                            refine zF_eq (t := 299) (u := (285, [(21, .int w19), (0, .ref 86), (1, .int p_sort), (4, .int p_weeks), (5, .int p_n), (6, .int p_what), (7, .int (M 91 (3 * p_thing).toNatClampNeg)), (8, .int (M 91 (((3 * p_thing) + (M 92 p_thing.toNatClampNeg)) - 1).toNatClampNeg)), (9, .int (M 98 ((4 * p_sort) + p_thing).toNatClampNeg)), (10, .int (M 97 ((4 * p_sort) + p_thing).toNatClampNeg)), (11, .int (M 87 ((4 * p_shop) + p_thing).toNatClampNeg)), (12, .int v12_7), (13, .long v13_8), (15, .long v15_9), (17, .int v17_10), (18, .int w13), (19, .int (if ((p_weeks >>> (v17_10 &&& 31)) &&& 1) = 1 then (M 91 (3 * p_thing).toNatClampNeg) else (M 91 (((3 * p_thing) + (M 92 p_thing.toNatClampNeg)) - 1).toNatClampNeg))), (20, .int w17)], [], zh, M)) rfl (fun c55 => ?_) (fun c55 => ?_)
                            · rw [if_pos c55] at g53
                              exact zF_as (hk22 () g53) rfl
                            · rw [if_neg c55] at g53
                              refine zF_go (n := 1) (ps := []) (s' := (287, [(21, .int w19), (0, .ref 86), (1, .int p_sort), (4, .int p_weeks), (5, .int p_n), (6, .int p_what), (7, .int (M 91 (3 * p_thing).toNatClampNeg)), (8, .int (M 91 (((3 * p_thing) + (M 92 p_thing.toNatClampNeg)) - 1).toNatClampNeg)), (9, .int (M 98 ((4 * p_sort) + p_thing).toNatClampNeg)), (10, .int (M 97 ((4 * p_sort) + p_thing).toNatClampNeg)), (11, .int (M 87 ((4 * p_shop) + p_thing).toNatClampNeg)), (12, .int v12_7), (13, .long v13_8), (15, .long v15_9), (17, .int v17_10), (18, .int w13), (19, .int (if ((p_weeks >>> (v17_10 &&& 31)) &&& 1) = 1 then (M 91 (3 * p_thing).toNatClampNeg) else (M 91 (((3 * p_thing) + (M 92 p_thing.toNatClampNeg)) - 1).toNatClampNeg))), (20, .int w17)], [.int w19], zh, M)) rfl trivial ?_
                              refine zF_le (t := 299) (u := (290, [(21, .int w19), (0, .ref 86), (1, .int p_sort), (4, .int p_weeks), (5, .int p_n), (6, .int p_what), (7, .int (M 91 (3 * p_thing).toNatClampNeg)), (8, .int (M 91 (((3 * p_thing) + (M 92 p_thing.toNatClampNeg)) - 1).toNatClampNeg)), (9, .int (M 98 ((4 * p_sort) + p_thing).toNatClampNeg)), (10, .int (M 97 ((4 * p_sort) + p_thing).toNatClampNeg)), (11, .int (M 87 ((4 * p_shop) + p_thing).toNatClampNeg)), (12, .int v12_7), (13, .long v13_8), (15, .long v15_9), (17, .int v17_10), (18, .int w13), (19, .int (if ((p_weeks >>> (v17_10 &&& 31)) &&& 1) = 1 then (M 91 (3 * p_thing).toNatClampNeg) else (M 91 (((3 * p_thing) + (M 92 p_thing.toNatClampNeg)) - 1).toNatClampNeg))), (20, .int w17)], [], zh, M)) rfl (fun c56 => ?_) (fun c56 => ?_)
                              · rw [if_neg c56] at g53
                                exact zF_as (hk22 () g53) rfl
                              · rw [if_pos c56] at g53
                                obtain ⟨g57, g53⟩ := zq_some g53
                                refine zF_go (n := 5) (ps := [vp_in p_sort 5]) (s' := (304, [(21, .int w19), (0, .ref 86), (1, .int p_sort), (4, .int p_weeks), (5, .int p_n), (6, .int p_what), (7, .int (M 91 (3 * p_thing).toNatClampNeg)), (8, .int (M 91 (((3 * p_thing) + (M 92 p_thing.toNatClampNeg)) - 1).toNatClampNeg)), (9, .int (M 98 ((4 * p_sort) + p_thing).toNatClampNeg)), (10, .int (M 97 ((4 * p_sort) + p_thing).toNatClampNeg)), (11, .int (M 87 ((4 * p_shop) + p_thing).toNatClampNeg)), (12, .int v12_7), (13, .long v13_8), (15, .long v15_9), (17, .int v17_10), (18, .int w13), (19, .int (if ((p_weeks >>> (v17_10 &&& 31)) &&& 1) = 1 then (M 91 (3 * p_thing).toNatClampNeg) else (M 91 (((3 * p_thing) + (M 92 p_thing.toNatClampNeg)) - 1).toNatClampNeg))), (20, .int w17)], [.int (M 96 p_sort.toNatClampNeg)], zh, M)) rfl ⟨g57, trivial⟩ ?_
                                cases g53
                                exact zF_as hk54 rfl
                        refine zF_le (t := 253) (u := (249, [(20, .int w17), (0, .ref 86), (1, .int p_sort), (4, .int p_weeks), (5, .int p_n), (6, .int p_what), (7, .int (M 91 (3 * p_thing).toNatClampNeg)), (8, .int (M 91 (((3 * p_thing) + (M 92 p_thing.toNatClampNeg)) - 1).toNatClampNeg)), (9, .int (M 98 ((4 * p_sort) + p_thing).toNatClampNeg)), (10, .int (M 97 ((4 * p_sort) + p_thing).toNatClampNeg)), (11, .int (M 87 ((4 * p_shop) + p_thing).toNatClampNeg)), (12, .int v12_7), (13, .long v13_8), (15, .long v15_9), (17, .int v17_10), (18, .int w13), (19, .int (if ((p_weeks >>> (v17_10 &&& 31)) &&& 1) = 1 then (M 91 (3 * p_thing).toNatClampNeg) else (M 91 (((3 * p_thing) + (M 92 p_thing.toNatClampNeg)) - 1).toNatClampNeg)))], [], zh, M)) rfl (fun c58 => ?_) (fun c58 => ?_)
                        · rw [if_neg c58] at g51
                          refine zF_go (n := 1) (ps := []) (s' := (255, [(20, .int w17), (0, .ref 86), (1, .int p_sort), (4, .int p_weeks), (5, .int p_n), (6, .int p_what), (7, .int (M 91 (3 * p_thing).toNatClampNeg)), (8, .int (M 91 (((3 * p_thing) + (M 92 p_thing.toNatClampNeg)) - 1).toNatClampNeg)), (9, .int (M 98 ((4 * p_sort) + p_thing).toNatClampNeg)), (10, .int (M 97 ((4 * p_sort) + p_thing).toNatClampNeg)), (11, .int (M 87 ((4 * p_shop) + p_thing).toNatClampNeg)), (12, .int v12_7), (13, .long v13_8), (15, .long v15_9), (17, .int v17_10), (18, .int w13), (19, .int (if ((p_weeks >>> (v17_10 &&& 31)) &&& 1) = 1 then (M 91 (3 * p_thing).toNatClampNeg) else (M 91 (((3 * p_thing) + (M 92 p_thing.toNatClampNeg)) - 1).toNatClampNeg)))], [.int w13], zh, M)) rfl trivial ?_
                          refine zF_eq (t := 273) (u := (258, [(20, .int w17), (0, .ref 86), (1, .int p_sort), (4, .int p_weeks), (5, .int p_n), (6, .int p_what), (7, .int (M 91 (3 * p_thing).toNatClampNeg)), (8, .int (M 91 (((3 * p_thing) + (M 92 p_thing.toNatClampNeg)) - 1).toNatClampNeg)), (9, .int (M 98 ((4 * p_sort) + p_thing).toNatClampNeg)), (10, .int (M 97 ((4 * p_sort) + p_thing).toNatClampNeg)), (11, .int (M 87 ((4 * p_shop) + p_thing).toNatClampNeg)), (12, .int v12_7), (13, .long v13_8), (15, .long v15_9), (17, .int v17_10), (18, .int w13), (19, .int (if ((p_weeks >>> (v17_10 &&& 31)) &&& 1) = 1 then (M 91 (3 * p_thing).toNatClampNeg) else (M 91 (((3 * p_thing) + (M 92 p_thing.toNatClampNeg)) - 1).toNatClampNeg)))], [], zh, M)) rfl (fun c59 => ?_) (fun c59 => ?_)
                          · rw [if_pos c59] at g51
                            refine zF_go (n := 3) (ps := []) (s' := (278, [(20, .int w17), (0, .ref 86), (1, .int p_sort), (4, .int p_weeks), (5, .int p_n), (6, .int p_what), (7, .int (M 91 (3 * p_thing).toNatClampNeg)), (8, .int (M 91 (((3 * p_thing) + (M 92 p_thing.toNatClampNeg)) - 1).toNatClampNeg)), (9, .int (M 98 ((4 * p_sort) + p_thing).toNatClampNeg)), (10, .int (M 97 ((4 * p_sort) + p_thing).toNatClampNeg)), (11, .int (M 87 ((4 * p_shop) + p_thing).toNatClampNeg)), (12, .int v12_7), (13, .long v13_8), (15, .long v15_9), (17, .int v17_10), (18, .int w13), (19, .int (if ((p_weeks >>> (v17_10 &&& 31)) &&& 1) = 1 then (M 91 (3 * p_thing).toNatClampNeg) else (M 91 (((3 * p_thing) + (M 92 p_thing.toNatClampNeg)) - 1).toNatClampNeg)))], [.int ((M 97 ((4 * p_sort) + p_thing).toNatClampNeg) - w17)], zh, M)) rfl trivial ?_
                            cases g51
                            exact zF_as hk52 rfl
                          · rw [if_neg c59] at g51
                            obtain ⟨g60, g51⟩ := zq_some g51
                            refine zF_go (n := 9) (ps := [vp_in p_sort 5]) (s' := (278, [(20, .int w17), (0, .ref 86), (1, .int p_sort), (4, .int p_weeks), (5, .int p_n), (6, .int p_what), (7, .int (M 91 (3 * p_thing).toNatClampNeg)), (8, .int (M 91 (((3 * p_thing) + (M 92 p_thing.toNatClampNeg)) - 1).toNatClampNeg)), (9, .int (M 98 ((4 * p_sort) + p_thing).toNatClampNeg)), (10, .int (M 97 ((4 * p_sort) + p_thing).toNatClampNeg)), (11, .int (M 87 ((4 * p_shop) + p_thing).toNatClampNeg)), (12, .int v12_7), (13, .long v13_8), (15, .long v15_9), (17, .int v17_10), (18, .int w13), (19, .int (if ((p_weeks >>> (v17_10 &&& 31)) &&& 1) = 1 then (M 91 (3 * p_thing).toNatClampNeg) else (M 91 (((3 * p_thing) + (M 92 p_thing.toNatClampNeg)) - 1).toNatClampNeg)))], [.int (((M 97 ((4 * p_sort) + p_thing).toNatClampNeg) + (M 96 p_sort.toNatClampNeg)) - v12_7)], zh, M)) rfl ⟨g60, trivial⟩ ?_
                            cases g51
                            exact zF_as hk52 rfl
                        · rw [if_pos c58] at g51
                          refine zF_go (n := 2) (ps := []) (s' := (278, [(20, .int w17), (0, .ref 86), (1, .int p_sort), (4, .int p_weeks), (5, .int p_n), (6, .int p_what), (7, .int (M 91 (3 * p_thing).toNatClampNeg)), (8, .int (M 91 (((3 * p_thing) + (M 92 p_thing.toNatClampNeg)) - 1).toNatClampNeg)), (9, .int (M 98 ((4 * p_sort) + p_thing).toNatClampNeg)), (10, .int (M 97 ((4 * p_sort) + p_thing).toNatClampNeg)), (11, .int (M 87 ((4 * p_shop) + p_thing).toNatClampNeg)), (12, .int v12_7), (13, .long v13_8), (15, .long v15_9), (17, .int v17_10), (18, .int w13), (19, .int (if ((p_weeks >>> (v17_10 &&& 31)) &&& 1) = 1 then (M 91 (3 * p_thing).toNatClampNeg) else (M 91 (((3 * p_thing) + (M 92 p_thing.toNatClampNeg)) - 1).toNatClampNeg)))], [.int 0], zh, M)) rfl trivial ?_
                          cases g51
                          exact zF_as hk52 rfl
                      refine zlj_e g49 (fun k => ∀ (_ : Unit), k () = some w17 → zF S 197 (222, [(0, .ref 86), (1, .int p_sort), (4, .int p_weeks), (5, .int p_n), (6, .int p_what), (7, .int (M 91 (3 * p_thing).toNatClampNeg)), (8, .int (M 91 (((3 * p_thing) + (M 92 p_thing.toNatClampNeg)) - 1).toNatClampNeg)), (9, .int (M 98 ((4 * p_sort) + p_thing).toNatClampNeg)), (10, .int (M 97 ((4 * p_sort) + p_thing).toNatClampNeg)), (11, .int (M 87 ((4 * p_shop) + p_thing).toNatClampNeg)), (12, .int v12_7), (13, .long v13_8), (15, .long v15_9), (17, .int v17_10), (18, .int w13), (19, .int (if ((p_weeks >>> (v17_10 &&& 31)) &&& 1) = 1 then (M 91 (3 * p_thing).toNatClampNeg) else (M 91 (((3 * p_thing) + (M 92 p_thing.toNatClampNeg)) - 1).toNatClampNeg)))], [], zh, M) (some (.long r)) (M)) ?_ ?_
                      · intro _ g49
                        try dsimp only at g49
                        refine zF_go (n := 2) (ps := []) (s' := (240, [(0, .ref 86), (1, .int p_sort), (4, .int p_weeks), (5, .int p_n), (6, .int p_what), (7, .int (M 91 (3 * p_thing).toNatClampNeg)), (8, .int (M 91 (((3 * p_thing) + (M 92 p_thing.toNatClampNeg)) - 1).toNatClampNeg)), (9, .int (M 98 ((4 * p_sort) + p_thing).toNatClampNeg)), (10, .int (M 97 ((4 * p_sort) + p_thing).toNatClampNeg)), (11, .int (M 87 ((4 * p_shop) + p_thing).toNatClampNeg)), (12, .int v12_7), (13, .long v13_8), (15, .long v15_9), (17, .int v17_10), (18, .int w13), (19, .int (if ((p_weeks >>> (v17_10 &&& 31)) &&& 1) = 1 then (M 91 (3 * p_thing).toNatClampNeg) else (M 91 (((3 * p_thing) + (M 92 p_thing.toNatClampNeg)) - 1).toNatClampNeg)))], [.int 0], zh, M)) rfl trivial ?_
                        cases g49
                        exact zF_as hk50 rfl
                      · intro k18 hk18 g49
                        try dsimp only at g49
                        refine zF_ne (t := 222) (u := (217, [(19, .int (if ((p_weeks >>> (v17_10 &&& 31)) &&& 1) = 1 then (M 91 (3 * p_thing).toNatClampNeg) else (M 91 (((3 * p_thing) + (M 92 p_thing.toNatClampNeg)) - 1).toNatClampNeg))), (0, .ref 86), (1, .int p_sort), (4, .int p_weeks), (5, .int p_n), (6, .int p_what), (7, .int (M 91 (3 * p_thing).toNatClampNeg)), (8, .int (M 91 (((3 * p_thing) + (M 92 p_thing.toNatClampNeg)) - 1).toNatClampNeg)), (9, .int (M 98 ((4 * p_sort) + p_thing).toNatClampNeg)), (10, .int (M 97 ((4 * p_sort) + p_thing).toNatClampNeg)), (11, .int (M 87 ((4 * p_shop) + p_thing).toNatClampNeg)), (12, .int v12_7), (13, .long v13_8), (15, .long v15_9), (17, .int v17_10), (18, .int w13)], [], zh, M)) rfl (fun c61 => ?_) (fun c61 => ?_)
                        · rw [if_neg c61] at g49
                          exact zF_as (hk18 () g49) rfl
                        · rw [if_pos c61] at g49
                          refine zF_go (n := 1) (ps := []) (s' := (219, [(19, .int (if ((p_weeks >>> (v17_10 &&& 31)) &&& 1) = 1 then (M 91 (3 * p_thing).toNatClampNeg) else (M 91 (((3 * p_thing) + (M 92 p_thing.toNatClampNeg)) - 1).toNatClampNeg))), (0, .ref 86), (1, .int p_sort), (4, .int p_weeks), (5, .int p_n), (6, .int p_what), (7, .int (M 91 (3 * p_thing).toNatClampNeg)), (8, .int (M 91 (((3 * p_thing) + (M 92 p_thing.toNatClampNeg)) - 1).toNatClampNeg)), (9, .int (M 98 ((4 * p_sort) + p_thing).toNatClampNeg)), (10, .int (M 97 ((4 * p_sort) + p_thing).toNatClampNeg)), (11, .int (M 87 ((4 * p_shop) + p_thing).toNatClampNeg)), (12, .int v12_7), (13, .long v13_8), (15, .long v15_9), (17, .int v17_10), (18, .int w13)], [.int v12_7], zh, M)) rfl trivial ?_
                          refine zF_ne (t := 226) (u := (222, [(19, .int (if ((p_weeks >>> (v17_10 &&& 31)) &&& 1) = 1 then (M 91 (3 * p_thing).toNatClampNeg) else (M 91 (((3 * p_thing) + (M 92 p_thing.toNatClampNeg)) - 1).toNatClampNeg))), (0, .ref 86), (1, .int p_sort), (4, .int p_weeks), (5, .int p_n), (6, .int p_what), (7, .int (M 91 (3 * p_thing).toNatClampNeg)), (8, .int (M 91 (((3 * p_thing) + (M 92 p_thing.toNatClampNeg)) - 1).toNatClampNeg)), (9, .int (M 98 ((4 * p_sort) + p_thing).toNatClampNeg)), (10, .int (M 97 ((4 * p_sort) + p_thing).toNatClampNeg)), (11, .int (M 87 ((4 * p_shop) + p_thing).toNatClampNeg)), (12, .int v12_7), (13, .long v13_8), (15, .long v15_9), (17, .int v17_10), (18, .int w13)], [], zh, M)) rfl (fun c62 => ?_) (fun c62 => ?_)
                          · rw [if_neg c62] at g49
                            refine zF_go (n := 2) (ps := []) (s' := (230, [(19, .int (if ((p_weeks >>> (v17_10 &&& 31)) &&& 1) = 1 then (M 91 (3 * p_thing).toNatClampNeg) else (M 91 (((3 * p_thing) + (M 92 p_thing.toNatClampNeg)) - 1).toNatClampNeg))), (0, .ref 86), (1, .int p_sort), (4, .int p_weeks), (5, .int p_n), (6, .int p_what), (7, .int (M 91 (3 * p_thing).toNatClampNeg)), (8, .int (M 91 (((3 * p_thing) + (M 92 p_thing.toNatClampNeg)) - 1).toNatClampNeg)), (9, .int (M 98 ((4 * p_sort) + p_thing).toNatClampNeg)), (10, .int (M 97 ((4 * p_sort) + p_thing).toNatClampNeg)), (11, .int (M 87 ((4 * p_shop) + p_thing).toNatClampNeg)), (12, .int v12_7), (13, .long v13_8), (15, .long v15_9), (17, .int v17_10), (18, .int w13)], [.int (M 97 ((4 * p_sort) + p_thing).toNatClampNeg), .int v12_7], zh, M)) rfl trivial ?_
                            refine zF_ge (t := 238) (u := (233, [(19, .int (if ((p_weeks >>> (v17_10 &&& 31)) &&& 1) = 1 then (M 91 (3 * p_thing).toNatClampNeg) else (M 91 (((3 * p_thing) + (M 92 p_thing.toNatClampNeg)) - 1).toNatClampNeg))), (0, .ref 86), (1, .int p_sort), (4, .int p_weeks), (5, .int p_n), (6, .int p_what), (7, .int (M 91 (3 * p_thing).toNatClampNeg)), (8, .int (M 91 (((3 * p_thing) + (M 92 p_thing.toNatClampNeg)) - 1).toNatClampNeg)), (9, .int (M 98 ((4 * p_sort) + p_thing).toNatClampNeg)), (10, .int (M 97 ((4 * p_sort) + p_thing).toNatClampNeg)), (11, .int (M 87 ((4 * p_shop) + p_thing).toNatClampNeg)), (12, .int v12_7), (13, .long v13_8), (15, .long v15_9), (17, .int v17_10), (18, .int w13)], [], zh, M)) rfl (fun c63 => ?_) (fun c63 => ?_)
                            · rw [if_neg c63] at g49
                              refine zF_go (n := 1) (ps := []) (s' := (240, [(19, .int (if ((p_weeks >>> (v17_10 &&& 31)) &&& 1) = 1 then (M 91 (3 * p_thing).toNatClampNeg) else (M 91 (((3 * p_thing) + (M 92 p_thing.toNatClampNeg)) - 1).toNatClampNeg))), (0, .ref 86), (1, .int p_sort), (4, .int p_weeks), (5, .int p_n), (6, .int p_what), (7, .int (M 91 (3 * p_thing).toNatClampNeg)), (8, .int (M 91 (((3 * p_thing) + (M 92 p_thing.toNatClampNeg)) - 1).toNatClampNeg)), (9, .int (M 98 ((4 * p_sort) + p_thing).toNatClampNeg)), (10, .int (M 97 ((4 * p_sort) + p_thing).toNatClampNeg)), (11, .int (M 87 ((4 * p_shop) + p_thing).toNatClampNeg)), (12, .int v12_7), (13, .long v13_8), (15, .long v15_9), (17, .int v17_10), (18, .int w13)], [.int (M 97 ((4 * p_sort) + p_thing).toNatClampNeg)], zh, M)) rfl trivial ?_
                              cases g49
                              exact zF_as hk50 rfl
                            · rw [if_pos c63] at g49
                              refine zF_go (n := 2) (ps := []) (s' := (240, [(19, .int (if ((p_weeks >>> (v17_10 &&& 31)) &&& 1) = 1 then (M 91 (3 * p_thing).toNatClampNeg) else (M 91 (((3 * p_thing) + (M 92 p_thing.toNatClampNeg)) - 1).toNatClampNeg))), (0, .ref 86), (1, .int p_sort), (4, .int p_weeks), (5, .int p_n), (6, .int p_what), (7, .int (M 91 (3 * p_thing).toNatClampNeg)), (8, .int (M 91 (((3 * p_thing) + (M 92 p_thing.toNatClampNeg)) - 1).toNatClampNeg)), (9, .int (M 98 ((4 * p_sort) + p_thing).toNatClampNeg)), (10, .int (M 97 ((4 * p_sort) + p_thing).toNatClampNeg)), (11, .int (M 87 ((4 * p_shop) + p_thing).toNatClampNeg)), (12, .int v12_7), (13, .long v13_8), (15, .long v15_9), (17, .int v17_10), (18, .int w13)], [.int v12_7], zh, M)) rfl trivial ?_
                              cases g49
                              exact zF_as hk50 rfl
                          · rw [if_pos c62] at g49
                            exact zF_as (hk18 () g49) rfl
                    refine zF_ne (t := 208) (u := (203, [(18, .int w13), (0, .ref 86), (1, .int p_sort), (4, .int p_weeks), (5, .int p_n), (6, .int p_what), (7, .int (M 91 (3 * p_thing).toNatClampNeg)), (8, .int (M 91 (((3 * p_thing) + (M 92 p_thing.toNatClampNeg)) - 1).toNatClampNeg)), (9, .int (M 98 ((4 * p_sort) + p_thing).toNatClampNeg)), (10, .int (M 97 ((4 * p_sort) + p_thing).toNatClampNeg)), (11, .int (M 87 ((4 * p_shop) + p_thing).toNatClampNeg)), (12, .int v12_7), (13, .long v13_8), (15, .long v15_9), (17, .int v17_10)], [], zh, M)) rfl (fun c64 => ?_) (fun c64 => ?_)
                    · skip
                      refine zF_go (n := 1) (ps := []) (s' := (210, [(18, .int w13), (0, .ref 86), (1, .int p_sort), (4, .int p_weeks), (5, .int p_n), (6, .int p_what), (7, .int (M 91 (3 * p_thing).toNatClampNeg)), (8, .int (M 91 (((3 * p_thing) + (M 92 p_thing.toNatClampNeg)) - 1).toNatClampNeg)), (9, .int (M 98 ((4 * p_sort) + p_thing).toNatClampNeg)), (10, .int (M 97 ((4 * p_sort) + p_thing).toNatClampNeg)), (11, .int (M 87 ((4 * p_shop) + p_thing).toNatClampNeg)), (12, .int v12_7), (13, .long v13_8), (15, .long v15_9), (17, .int v17_10)], [.int (M 91 (((3 * p_thing) + (M 92 p_thing.toNatClampNeg)) - 1).toNatClampNeg)], zh, M)) rfl trivial ?_
                      simp only [if_neg c64] at hk48
                      try simp only [if_neg c64]
                      exact zF_as hk48 rfl
                    · skip
                      refine zF_go (n := 2) (ps := []) (s' := (210, [(18, .int w13), (0, .ref 86), (1, .int p_sort), (4, .int p_weeks), (5, .int p_n), (6, .int p_what), (7, .int (M 91 (3 * p_thing).toNatClampNeg)), (8, .int (M 91 (((3 * p_thing) + (M 92 p_thing.toNatClampNeg)) - 1).toNatClampNeg)), (9, .int (M 98 ((4 * p_sort) + p_thing).toNatClampNeg)), (10, .int (M 97 ((4 * p_sort) + p_thing).toNatClampNeg)), (11, .int (M 87 ((4 * p_shop) + p_thing).toNatClampNeg)), (12, .int v12_7), (13, .long v13_8), (15, .long v15_9), (17, .int v17_10)], [.int (M 91 (3 * p_thing).toNatClampNeg)], zh, M)) rfl trivial ?_
                      simp only [if_pos c64] at hk48
                      try simp only [if_pos c64]
                      exact zF_as hk48 rfl
                  refine zlj_e g46 (fun k => ∀ (_ : Unit), k () = some w13 → zF S 197 (189, [(0, .ref 86), (1, .int p_sort), (4, .int p_weeks), (5, .int p_n), (6, .int p_what), (7, .int (M 91 (3 * p_thing).toNatClampNeg)), (8, .int (M 91 (((3 * p_thing) + (M 92 p_thing.toNatClampNeg)) - 1).toNatClampNeg)), (9, .int (M 98 ((4 * p_sort) + p_thing).toNatClampNeg)), (10, .int (M 97 ((4 * p_sort) + p_thing).toNatClampNeg)), (11, .int (M 87 ((4 * p_shop) + p_thing).toNatClampNeg)), (12, .int v12_7), (13, .long v13_8), (15, .long v15_9), (17, .int v17_10)], [], zh, M) (some (.long r)) (M)) ?_ ?_
                  · intro _ g46
                    try dsimp only at g46
                    refine zF_go (n := 1) (ps := []) (s' := (190, [(0, .ref 86), (1, .int p_sort), (4, .int p_weeks), (5, .int p_n), (6, .int p_what), (7, .int (M 91 (3 * p_thing).toNatClampNeg)), (8, .int (M 91 (((3 * p_thing) + (M 92 p_thing.toNatClampNeg)) - 1).toNatClampNeg)), (9, .int (M 98 ((4 * p_sort) + p_thing).toNatClampNeg)), (10, .int (M 97 ((4 * p_sort) + p_thing).toNatClampNeg)), (11, .int (M 87 ((4 * p_shop) + p_thing).toNatClampNeg)), (12, .int v12_7), (13, .long v13_8), (15, .long v15_9), (17, .int v17_10)], [.int 0], zh, M)) rfl trivial ?_
                    cases g46
                    exact zF_as hk47 rfl
                  · intro k14 hk14 g46
                    try dsimp only at g46
                    refine zF_ne (t := 189) (u := (178, [(0, .ref 86), (1, .int p_sort), (4, .int p_weeks), (5, .int p_n), (6, .int p_what), (7, .int (M 91 (3 * p_thing).toNatClampNeg)), (8, .int (M 91 (((3 * p_thing) + (M 92 p_thing.toNatClampNeg)) - 1).toNatClampNeg)), (9, .int (M 98 ((4 * p_sort) + p_thing).toNatClampNeg)), (10, .int (M 97 ((4 * p_sort) + p_thing).toNatClampNeg)), (11, .int (M 87 ((4 * p_shop) + p_thing).toNatClampNeg)), (12, .int v12_7), (13, .long v13_8), (15, .long v15_9), (17, .int v17_10)], [], zh, M)) rfl (fun c65 => ?_) (fun c65 => ?_)
                    · rw [if_neg c65] at g46
                      exact zF_as (hk14 () g46) rfl
                    · rw [if_pos c65] at g46
                      refine zF_go (n := 2) (ps := []) (s' := (182, [(0, .ref 86), (1, .int p_sort), (4, .int p_weeks), (5, .int p_n), (6, .int p_what), (7, .int (M 91 (3 * p_thing).toNatClampNeg)), (8, .int (M 91 (((3 * p_thing) + (M 92 p_thing.toNatClampNeg)) - 1).toNatClampNeg)), (9, .int (M 98 ((4 * p_sort) + p_thing).toNatClampNeg)), (10, .int (M 97 ((4 * p_sort) + p_thing).toNatClampNeg)), (11, .int (M 87 ((4 * p_shop) + p_thing).toNatClampNeg)), (12, .int v12_7), (13, .long v13_8), (15, .long v15_9), (17, .int v17_10)], [.int (M 91 (((3 * p_thing) + (M 92 p_thing.toNatClampNeg)) - 1).toNatClampNeg), .int (M 91 (3 * p_thing).toNatClampNeg)], zh, M)) rfl trivial ?_
                      refine zF_ge (t := 189) (u := (185, [(0, .ref 86), (1, .int p_sort), (4, .int p_weeks), (5, .int p_n), (6, .int p_what), (7, .int (M 91 (3 * p_thing).toNatClampNeg)), (8, .int (M 91 (((3 * p_thing) + (M 92 p_thing.toNatClampNeg)) - 1).toNatClampNeg)), (9, .int (M 98 ((4 * p_sort) + p_thing).toNatClampNeg)), (10, .int (M 97 ((4 * p_sort) + p_thing).toNatClampNeg)), (11, .int (M 87 ((4 * p_shop) + p_thing).toNatClampNeg)), (12, .int v12_7), (13, .long v13_8), (15, .long v15_9), (17, .int v17_10)], [], zh, M)) rfl (fun c66 => ?_) (fun c66 => ?_)
                      · rw [if_neg c66] at g46
                        exact zF_as (hk14 () g46) rfl
                      · rw [if_pos c66] at g46
                        refine zF_go (n := 2) (ps := []) (s' := (190, [(0, .ref 86), (1, .int p_sort), (4, .int p_weeks), (5, .int p_n), (6, .int p_what), (7, .int (M 91 (3 * p_thing).toNatClampNeg)), (8, .int (M 91 (((3 * p_thing) + (M 92 p_thing.toNatClampNeg)) - 1).toNatClampNeg)), (9, .int (M 98 ((4 * p_sort) + p_thing).toNatClampNeg)), (10, .int (M 97 ((4 * p_sort) + p_thing).toNatClampNeg)), (11, .int (M 87 ((4 * p_shop) + p_thing).toNatClampNeg)), (12, .int v12_7), (13, .long v13_8), (15, .long v15_9), (17, .int v17_10)], [.int 1], zh, M)) rfl trivial ?_
                        cases g46
                        exact zF_as hk47 rfl
              · rw [if_pos c36] at h
                refine zF_go (n := 1) (ps := []) (s' := (82, [], [.long (-1000000000000000002)], zh, M)) rfl trivial ?_
                cases h
                exact zF_ret rfl trivial
        · rw [if_pos c30] at h
          refine zF_go (n := 1) (ps := []) (s' := (39, [], [.long (-1000000000000000001)], zh, M)) rfl trivial ?_
          cases h
          exact zF_ret rfl trivial
noncomputable def qT_put (M : zM) (p_bits : Int32) : Option (Int32 × zM) :=
  zq (vp_in (M 18 0) 30) <| some (((zw (zw M 19 (M 18 0).toNatClampNeg p_bits) 18 0 ((M 18 0) + 1)) 18 0), (zw (zw M 19 (M 18 0).toNatClampNeg p_bits) 18 0 ((M 18 0) + 1)))
set_option maxRecDepth 20000 in
set_option maxHeartbeats 4000000 in
theorem qT_put_ok {S : zSc} {M : zM} {p_bits : Int32} {r : Int32 × zM} (h : qT_put M p_bits = some r) : zF S 55 (0, [(0, .ref 18), (1, .int p_bits)], [], zh, M) (some (.int r.1)) (r.2) := by
  unfold qT_put at h
  obtain ⟨g1, h⟩ := zq_some h
  refine zF_go (n := 14) (ps := [vp_in (M 18 0) 30]) (s' := (24, [(0, .ref 18), (1, .int p_bits)], [.int ((zw (zw M 19 (M 18 0).toNatClampNeg p_bits) 18 0 ((M 18 0) + 1)) 18 0)], zh, (zw (zw M 19 (M 18 0).toNatClampNeg p_bits) 18 0 ((M 18 0) + 1)))) rfl ⟨g1, trivial⟩ ?_
  cases h
  exact zF_ret rfl trivial
noncomputable def qS_slip (M : zM) (p_things : Int32) : Option (Int32 × zM) :=
  zb (qS_isOut p_things 0 15) fun x1 =>
  if x1 = 0 then
    (if (M 18 0) < 30 then
      (zb2 (qT_put M p_things) fun x2 M3 =>
      some (x2, M3))
    else
      (some ((-4), M)))
  else
    (some ((-2), M))
set_option maxRecDepth 20000 in
set_option maxHeartbeats 4000000 in
theorem qS_slip_ok {S : zSc} {M : zM} {p_things : Int32} {r : Int32 × zM} (h : qS_slip M p_things = some r) : zF S 117 (0, [(0, .ref 1), (1, .int p_things)], [], zh, M) (some (.int r.1)) (r.2) := by
  unfold qS_slip at h
  refine zF_go (n := 3) (ps := []) (s' := (4, [(0, .ref 1), (1, .int p_things)], [.int 15, .int 0, .int p_things], zh, M)) rfl trivial ?_
  obtain ⟨x1, e4, h⟩ := zb_some h
  refine zF_call (y' := 125) (as := [.int p_things, .int 0, .int 15]) (u := (7, [(0, .ref 1), (1, .int p_things)], [], zh, M)) rfl ⟨rfl, rfl⟩ rfl (qS_isOut_ok (S := S) (M := M) e4) ?_
  show zF S 117 (7, [(0, .ref 1), (1, .int p_things)], [.int x1], zh, M) _ _
  refine zF_eq (t := 13) (u := (10, [(0, .ref 1), (1, .int p_things)], [], zh, M)) rfl (fun c5 => ?_) (fun c5 => ?_)
  · rw [if_pos c5] at h
    refine zF_go (n := 5) (ps := []) (s' := (25, [(0, .ref 1), (1, .int p_things)], [.int 30, .int (M 18 0)], zh, M)) rfl trivial ?_
    refine zF_lt (t := 33) (u := (28, [(0, .ref 1), (1, .int p_things)], [], zh, M)) rfl (fun c6 => ?_) (fun c6 => ?_)
    · rw [if_pos c6] at h
      refine zF_go (n := 4) (ps := []) (s' := (41, [(0, .ref 1), (1, .int p_things)], [.int p_things, .ref 18], zh, M)) rfl trivial ?_
      obtain ⟨x2, M3, e7, h⟩ := zb2_some h
      refine zF_call (y' := 55) (as := [.ref 18, .int p_things]) (u := (44, [(0, .ref 1), (1, .int p_things)], [], zh, M)) rfl ⟨rfl, rfl⟩ rfl (qT_put_ok (S := S) (M := M) e7) ?_
      show zF S 117 (44, [(0, .ref 1), (1, .int p_things)], [.int x2], zh, M3) _ _
      cases h
      exact zF_ret rfl trivial
    · rw [if_neg c6] at h
      refine zF_go (n := 2) (ps := []) (s' := (44, [(0, .ref 1), (1, .int p_things)], [.int (-4)], zh, M)) rfl trivial ?_
      cases h
      exact zF_ret rfl trivial
  · rw [if_neg c5] at h
    refine zF_go (n := 1) (ps := []) (s' := (12, [(0, .ref 1), (1, .int p_things)], [.int (-2)], zh, M)) rfl trivial ?_
    cases h
    exact zF_ret rfl trivial
noncomputable def qM_slip (M : zM) (p_things : Int32) : Option (Int32 × zM) :=
  zb (qM_in p_things.toInt64 0 15) fun x1 =>
  if x1 = 0 then
    (some ((-2), M))
  else
    (if (M 86 29) = 30 then
      (some ((-4), M))
    else
      (zq (vp_in (M 86 29) 30) <| some (((zw (zw M 105 (M 86 29).toNatClampNeg p_things) 86 29 ((M 86 29) + 1)) 86 29), (zw (zw M 105 (M 86 29).toNatClampNeg p_things) 86 29 ((M 86 29) + 1)))))
set_option maxRecDepth 20000 in
set_option maxHeartbeats 4000000 in
theorem qM_slip_ok {S : zSc} {M : zM} {p_things : Int32} {r : Int32 × zM} (h : qM_slip M p_things = some r) : zF S 198 (0, [(0, .ref 86), (1, .int p_things)], [], zh, M) (some (.int r.1)) (r.2) := by
  unfold qM_slip at h
  refine zF_go (n := 4) (ps := []) (s' := (6, [(0, .ref 86), (1, .int p_things)], [.long 15, .long 0, .long p_things.toInt64], zh, M)) rfl trivial ?_
  obtain ⟨x1, e2, h⟩ := zb_some h
  refine zF_call (y' := 134) (as := [.long p_things.toInt64, .long 0, .long 15]) (u := (9, [(0, .ref 86), (1, .int p_things)], [], zh, M)) rfl ⟨rfl, rfl⟩ rfl (qM_in_ok (S := S) (M := M) e2) ?_
  show zF S 198 (9, [(0, .ref 86), (1, .int p_things)], [.int x1], zh, M) _ _
  refine zF_ne (t := 15) (u := (12, [(0, .ref 86), (1, .int p_things)], [], zh, M)) rfl (fun c3 => ?_) (fun c3 => ?_)
  · rw [if_neg c3] at h
    refine zF_go (n := 3) (ps := []) (s' := (21, [(0, .ref 86), (1, .int p_things)], [.int 30, .int (M 86 29)], zh, M)) rfl trivial ?_
    refine zF_ne (t := 27) (u := (24, [(0, .ref 86), (1, .int p_things)], [], zh, M)) rfl (fun c4 => ?_) (fun c4 => ?_)
    · rw [if_neg c4] at h
      obtain ⟨g5, h⟩ := zq_some h
      refine zF_go (n := 14) (ps := [vp_in (M 86 29) 30]) (s' := (51, [(0, .ref 86), (1, .int p_things)], [.int ((zw (zw M 105 (M 86 29).toNatClampNeg p_things) 86 29 ((M 86 29) + 1)) 86 29)], zh, (zw (zw M 105 (M 86 29).toNatClampNeg p_things) 86 29 ((M 86 29) + 1)))) rfl ⟨g5, trivial⟩ ?_
      cases h
      exact zF_ret rfl trivial
    · rw [if_pos c4] at h
      refine zF_go (n := 1) (ps := []) (s' := (26, [(0, .ref 86), (1, .int p_things)], [.int (-4)], zh, M)) rfl trivial ?_
      cases h
      exact zF_ret rfl trivial
  · rw [if_pos c3] at h
    refine zF_go (n := 1) (ps := []) (s' := (14, [(0, .ref 86), (1, .int p_things)], [.int (-2)], zh, M)) rfl trivial ?_
    cases h
    exact zF_ret rfl trivial
end ZT
