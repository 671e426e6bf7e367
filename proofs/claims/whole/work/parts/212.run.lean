section ZT
noncomputable def qL_law_L18 (S : zSc) (rec3 : (Int32 × zM) → Option (Int32 × zM)) (v : Int32 × zM) : Option (Int32 × zM) := match v with
  | (v3_1, M2) =>
    if ((Int32.ofNat S.1) - 7) < v3_1 then
      (some (1, M2))
    else
      (zq (vp_in v3_1 S.1) <| if ((S.2 v3_1.toNatClampNeg) &&& 63) = 0 then
        (zq (vp_in (v3_1 + 1) S.1) <| zq (vp_in (v3_1 + 2) S.1) <| zq (vp_in (v3_1 + 3) S.1) <| zb2 (qS_thing M2 (S.2 (v3_1 + 1).toNatClampNeg) (S.2 (v3_1 + 2).toNatClampNeg) (S.2 (v3_1 + 3).toNatClampNeg)) fun x4 M5 =>
        zq (vp_in (v3_1 + 1) S.1) <| zq (vp_in (v3_1 + 2) S.1) <| zq (vp_in (v3_1 + 3) S.1) <| zb2 (qM_thing M5 (S.2 (v3_1 + 1).toNatClampNeg) (S.2 (v3_1 + 2).toNatClampNeg) (S.2 (v3_1 + 3).toNatClampNeg)) fun x6 M7 =>
        if x4 = x6 then
          (rec3 ((v3_1 + 7), M7))
        else
          (some (0, M7)))
      else if ((S.2 v3_1.toNatClampNeg) &&& 63) = 1 then
        (zq (vp_in (v3_1 + 1) S.1) <| zq (vp_in (v3_1 + 2) S.1) <| zb2 (qS_step M2 (S.2 (v3_1 + 1).toNatClampNeg) (S.2 (v3_1 + 2).toNatClampNeg)) fun x8 M9 =>
        zq (vp_in (v3_1 + 1) S.1) <| zq (vp_in (v3_1 + 2) S.1) <| zb2 (qM_step M9 (S.2 (v3_1 + 1).toNatClampNeg) (S.2 (v3_1 + 2).toNatClampNeg)) fun x10 M11 =>
        if x8 = x10 then
          (rec3 ((v3_1 + 7), M11))
        else
          (some (0, M11)))
      else if ((S.2 v3_1.toNatClampNeg) &&& 63) = 2 then
        (zq (vp_in (v3_1 + 1) S.1) <| zq (vp_in (v3_1 + 2) S.1) <| zq (vp_in (v3_1 + 3) S.1) <| zq (vp_in (v3_1 + 4) S.1) <| zb2 (qS_set M2 (S.2 (v3_1 + 1).toNatClampNeg) (S.2 (v3_1 + 2).toNatClampNeg) (S.2 (v3_1 + 3).toNatClampNeg) (S.2 (v3_1 + 4).toNatClampNeg)) fun x12 M13 =>
        zq (vp_in (v3_1 + 1) S.1) <| zq (vp_in (v3_1 + 2) S.1) <| zq (vp_in (v3_1 + 3) S.1) <| zq (vp_in (v3_1 + 4) S.1) <| zb2 (qM_set M13 (S.2 (v3_1 + 1).toNatClampNeg) (S.2 (v3_1 + 2).toNatClampNeg) (S.2 (v3_1 + 3).toNatClampNeg) (S.2 (v3_1 + 4).toNatClampNeg)) fun x14 M15 =>
        if x12 = x14 then
          (rec3 ((v3_1 + 7), M15))
        else
          (some (0, M15)))
      else if ((S.2 v3_1.toNatClampNeg) &&& 63) = 3 then
        (zq (vp_in (v3_1 + 1) S.1) <| zq (vp_in (v3_1 + 2) S.1) <| zb2 (qS_show M2 (S.2 (v3_1 + 1).toNatClampNeg) (S.2 (v3_1 + 2).toNatClampNeg)) fun x16 M17 =>
        zq (vp_in (v3_1 + 1) S.1) <| zq (vp_in (v3_1 + 2) S.1) <| zb2 (qM_show M17 (S.2 (v3_1 + 1).toNatClampNeg) (S.2 (v3_1 + 2).toNatClampNeg)) fun x18 M19 =>
        if x16 = x18 then
          (rec3 ((v3_1 + 7), M19))
        else
          (some (0, M19)))
      else if ((S.2 v3_1.toNatClampNeg) &&& 63) = 4 then
        (zq (vp_in (v3_1 + 1) S.1) <| zq (vp_in (v3_1 + 2) S.1) <| zq (vp_in (v3_1 + 3) S.1) <| zq (vp_in (v3_1 + 4) S.1) <| zb2 (qS_sort M2 (S.2 (v3_1 + 1).toNatClampNeg) (S.2 (v3_1 + 2).toNatClampNeg) (S.2 (v3_1 + 3).toNatClampNeg) (S.2 (v3_1 + 4).toNatClampNeg)) fun x20 M21 =>
        zq (vp_in (v3_1 + 1) S.1) <| zq (vp_in (v3_1 + 2) S.1) <| zq (vp_in (v3_1 + 3) S.1) <| zq (vp_in (v3_1 + 4) S.1) <| zb2 (qM_sort M21 (S.2 (v3_1 + 1).toNatClampNeg) (S.2 (v3_1 + 2).toNatClampNeg) (S.2 (v3_1 + 3).toNatClampNeg) (S.2 (v3_1 + 4).toNatClampNeg)) fun x22 M23 =>
        if x20 = x22 then
          (rec3 ((v3_1 + 7), M23))
        else
          (some (0, M23)))
      else if ((S.2 v3_1.toNatClampNeg) &&& 63) = 5 then
        (zq (vp_in (v3_1 + 1) S.1) <| zq (vp_in (v3_1 + 2) S.1) <| zq (vp_in (v3_1 + 3) S.1) <| zb2 (qS_change M2 (S.2 (v3_1 + 1).toNatClampNeg) (S.2 (v3_1 + 2).toNatClampNeg) (S.2 (v3_1 + 3).toNatClampNeg)) fun x24 M25 =>
        zq (vp_in (v3_1 + 1) S.1) <| zq (vp_in (v3_1 + 2) S.1) <| zq (vp_in (v3_1 + 3) S.1) <| zb2 (qM_change M25 (S.2 (v3_1 + 1).toNatClampNeg) (S.2 (v3_1 + 2).toNatClampNeg) (S.2 (v3_1 + 3).toNatClampNeg)) fun x26 M27 =>
        if x24 = x26 then
          (rec3 ((v3_1 + 7), M27))
        else
          (some (0, M27)))
      else if ((S.2 v3_1.toNatClampNeg) &&& 63) = 6 then
        (zq (vp_in (v3_1 + 1) S.1) <| zb2 (qS_say M2 (S.2 (v3_1 + 1).toNatClampNeg)) fun x28 M29 =>
        zq (vp_in (v3_1 + 1) S.1) <| zb2 (qM_say M29 (S.2 (v3_1 + 1).toNatClampNeg)) fun x30 M31 =>
        if x28 = x30 then
          (rec3 ((v3_1 + 7), M31))
        else
          (some (0, M31)))
      else if ((S.2 v3_1.toNatClampNeg) &&& 63) = 7 then
        (zb2 (qS_wipe M2) fun x32 M33 =>
        zb2 (qM_wipe M33) fun x34 M35 =>
        if x32 = x34 then
          (rec3 ((v3_1 + 7), M35))
        else
          (some (0, M35)))
      else if ((S.2 v3_1.toNatClampNeg) &&& 63) = 8 then
        (zb2 (qS_fault M2) fun x36 M37 =>
        zb2 (qM_fault M37) fun x38 M39 =>
        if x36 = x38 then
          (rec3 ((v3_1 + 7), M39))
        else
          (some (0, M39)))
      else if ((S.2 v3_1.toNatClampNeg) &&& 63) = 9 then
        (zq (vp_in (v3_1 + 1) S.1) <| zb2 (qS_list M2 (S.2 (v3_1 + 1).toNatClampNeg)) fun x40 M41 =>
        zq (vp_in (v3_1 + 1) S.1) <| zb2 (qM_list M41 (S.2 (v3_1 + 1).toNatClampNeg)) fun x42 M43 =>
        if x40 = x42 then
          (rec3 ((v3_1 + 7), M43))
        else
          (some (0, M43)))
      else if ((S.2 v3_1.toNatClampNeg) &&& 63) = 10 then
        (zq (vp_in (v3_1 + 1) S.1) <| zq (vp_in (v3_1 + 2) S.1) <| zq (vp_in (v3_1 + 3) S.1) <| zb (qS_item M2 (S.2 (v3_1 + 1).toNatClampNeg) (S.2 (v3_1 + 2).toNatClampNeg) (S.2 (v3_1 + 3).toNatClampNeg)) fun x44 =>
        zq (vp_in (v3_1 + 1) S.1) <| zq (vp_in (v3_1 + 2) S.1) <| zq (vp_in (v3_1 + 3) S.1) <| zb (qM_item M2 (S.2 (v3_1 + 1).toNatClampNeg) (S.2 (v3_1 + 2).toNatClampNeg) (S.2 (v3_1 + 3).toNatClampNeg)) fun x45 =>
        if x44 = x45 then
          (rec3 ((v3_1 + 7), M2))
        else
          (some (0, M2)))
      else if ((S.2 v3_1.toNatClampNeg) &&& 63) = 11 then
        (zq (vp_in (v3_1 + 1) S.1) <| zb2 (qS_law M2 (S.2 (v3_1 + 1).toNatClampNeg)) fun x46 M47 =>
        zq (vp_in (v3_1 + 1) S.1) <| zb2 (qM_law M47 (S.2 (v3_1 + 1).toNatClampNeg)) fun x48 M49 =>
        if x46 = x48 then
          (rec3 ((v3_1 + 7), M49))
        else
          (some (0, M49)))
      else if ((S.2 v3_1.toNatClampNeg) &&& 63) = 12 then
        (zq (vp_in (v3_1 + 1) S.1) <| zq (vp_in (v3_1 + 2) S.1) <| zb2 (qS_thinks M2 (S.2 (v3_1 + 1).toNatClampNeg) (S.2 (v3_1 + 2).toNatClampNeg)) fun x50 M51 =>
        zq (vp_in (v3_1 + 1) S.1) <| zq (vp_in (v3_1 + 2) S.1) <| zb2 (qM_thinks M51 (S.2 (v3_1 + 1).toNatClampNeg) (S.2 (v3_1 + 2).toNatClampNeg)) fun x52 M53 =>
        if (lg_cmp x50 x52) = 0 then
          (rec3 ((v3_1 + 7), M53))
        else
          (some (0, M53)))
      else if ((S.2 v3_1.toNatClampNeg) &&& 63) = 13 then
        (zq (vp_in (v3_1 + 1) S.1) <| zb2 (qS_goes M2 (S.2 (v3_1 + 1).toNatClampNeg)) fun x54 M55 =>
        zq (vp_in (v3_1 + 1) S.1) <| zb (qM_goes M55 (S.2 (v3_1 + 1).toNatClampNeg)) fun x56 =>
        if x54 = x56 then
          (rec3 ((v3_1 + 7), M55))
        else
          (some (0, M55)))
      else if ((S.2 v3_1.toNatClampNeg) &&& 63) = 14 then
        (zq (vp_in (v3_1 + 1) S.1) <| zq (vp_in (v3_1 + 2) S.1) <| zq (vp_in (v3_1 + 3) S.1) <| zb2 (qS_buys M2 (S.2 (v3_1 + 1).toNatClampNeg) (S.2 (v3_1 + 2).toNatClampNeg) (S.2 (v3_1 + 3).toNatClampNeg)) fun x57 M58 =>
        zq (vp_in (v3_1 + 1) S.1) <| zq (vp_in (v3_1 + 2) S.1) <| zq (vp_in (v3_1 + 3) S.1) <| zb (qM_buys M58 (S.2 (v3_1 + 1).toNatClampNeg) (S.2 (v3_1 + 2).toNatClampNeg) (S.2 (v3_1 + 3).toNatClampNeg)) fun x59 =>
        if x57 = x59 then
          (rec3 ((v3_1 + 7), M58))
        else
          (some (0, M58)))
      else if ((S.2 v3_1.toNatClampNeg) &&& 63) = 15 then
        (zq (vp_in (v3_1 + 1) S.1) <| zb2 (qS_saves M2 (S.2 (v3_1 + 1).toNatClampNeg)) fun x60 M61 =>
        zq (vp_in (v3_1 + 1) S.1) <| zb (qM_saves M61 (S.2 (v3_1 + 1).toNatClampNeg)) fun x62 =>
        if (lg_cmp x60 x62) = 0 then
          (rec3 ((v3_1 + 7), M61))
        else
          (some (0, M61)))
      else if ((S.2 v3_1.toNatClampNeg) &&& 63) = 16 then
        (zq (vp_in (v3_1 + 1) S.1) <| zb2 (qS_left M2 (S.2 (v3_1 + 1).toNatClampNeg)) fun x63 M64 =>
        zq (vp_in (v3_1 + 1) S.1) <| zb (qM_left M64 (S.2 (v3_1 + 1).toNatClampNeg)) fun x65 =>
        if (lg_cmp x63 x65) = 0 then
          (rec3 ((v3_1 + 7), M64))
        else
          (some (0, M64)))
      else if ((S.2 v3_1.toNatClampNeg) &&& 63) = 17 then
        (zq (vp_in (v3_1 + 1) S.1) <| zb (qS_row M2 (S.2 (v3_1 + 1).toNatClampNeg)) fun x66 =>
        zq (vp_in (v3_1 + 1) S.1) <| zb (qM_row M2 (S.2 (v3_1 + 1).toNatClampNeg)) fun x67 =>
        if x66 = x67 then
          (rec3 ((v3_1 + 7), M2))
        else
          (some (0, M2)))
      else if ((S.2 v3_1.toNatClampNeg) &&& 63) = 18 then
        (zq (vp_in (v3_1 + 1) S.1) <| zb2 (qS_best M2 (S.2 (v3_1 + 1).toNatClampNeg)) fun x68 M69 =>
        zq (vp_in (v3_1 + 1) S.1) <| zb2 (qM_best M69 (S.2 (v3_1 + 1).toNatClampNeg)) fun x70 M71 =>
        if x68 = x70 then
          (rec3 ((v3_1 + 7), M71))
        else
          (some (0, M71)))
      else if ((S.2 v3_1.toNatClampNeg) &&& 63) = 19 then
        (zq (vp_in (v3_1 + 1) S.1) <| zq (vp_in (v3_1 + 2) S.1) <| zb2 (qS_most M2 (S.2 (v3_1 + 1).toNatClampNeg) (S.2 (v3_1 + 2).toNatClampNeg)) fun x72 M73 =>
        zq (vp_in (v3_1 + 1) S.1) <| zq (vp_in (v3_1 + 2) S.1) <| zb2 (qM_most M73 (S.2 (v3_1 + 1).toNatClampNeg) (S.2 (v3_1 + 2).toNatClampNeg)) fun x74 M75 =>
        if (lg_cmp x72 x74) = 0 then
          (rec3 ((v3_1 + 7), M75))
        else
          (some (0, M75)))
      else if ((S.2 v3_1.toNatClampNeg) &&& 63) = 20 then
        (zq (vp_in (v3_1 + 1) S.1) <| zb2 (qS_climb M2 (S.2 (v3_1 + 1).toNatClampNeg)) fun x76 M77 =>
        zq (vp_in (v3_1 + 1) S.1) <| zb2 (qM_climb M77 (S.2 (v3_1 + 1).toNatClampNeg)) fun x78 M79 =>
        if x76 = x78 then
          (rec3 ((v3_1 + 7), M79))
        else
          (some (0, M79)))
      else if ((S.2 v3_1.toNatClampNeg) &&& 63) = 21 then
        (zq (vp_in (v3_1 + 1) S.1) <| zb2 (qS_lures M2 (S.2 (v3_1 + 1).toNatClampNeg)) fun x80 M81 =>
        zq (vp_in (v3_1 + 1) S.1) <| zb2 (qM_lures M81 (S.2 (v3_1 + 1).toNatClampNeg)) fun x82 M83 =>
        if x80 = x82 then
          (rec3 ((v3_1 + 7), M83))
        else
          (some (0, M83)))
      else if ((S.2 v3_1.toNatClampNeg) &&& 63) = 22 then
        (zq (vp_in (v3_1 + 1) S.1) <| zq (vp_in (v3_1 + 2) S.1) <| zb2 (qS_brings M2 (S.2 (v3_1 + 1).toNatClampNeg) (S.2 (v3_1 + 2).toNatClampNeg)) fun x84 M85 =>
        zq (vp_in (v3_1 + 1) S.1) <| zq (vp_in (v3_1 + 2) S.1) <| zb2 (qM_brings M85 (S.2 (v3_1 + 1).toNatClampNeg) (S.2 (v3_1 + 2).toNatClampNeg)) fun x86 M87 =>
        if (lg_cmp x84 x86) = 0 then
          (rec3 ((v3_1 + 7), M87))
        else
          (some (0, M87)))
      else if ((S.2 v3_1.toNatClampNeg) &&& 63) = 23 then
        (zq (vp_in (v3_1 + 1) S.1) <| zb2 (qS_only M2 (S.2 (v3_1 + 1).toNatClampNeg)) fun x88 M89 =>
        zq (vp_in (v3_1 + 1) S.1) <| zb (qM_only M89 (S.2 (v3_1 + 1).toNatClampNeg)) fun x90 =>
        if x88 = x90 then
          (rec3 ((v3_1 + 7), M89))
        else
          (some (0, M89)))
      else if ((S.2 v3_1.toNatClampNeg) &&& 63) = 24 then
        (zq (vp_in (v3_1 + 1) S.1) <| zb2 (qS_rest M2 (S.2 (v3_1 + 1).toNatClampNeg)) fun x91 M92 =>
        zq (vp_in (v3_1 + 1) S.1) <| zb2 (qM_rest M92 (S.2 (v3_1 + 1).toNatClampNeg)) fun x93 M94 =>
        if x91 = x93 then
          (rec3 ((v3_1 + 7), M94))
        else
          (some (0, M94)))
      else if ((S.2 v3_1.toNatClampNeg) &&& 63) = 25 then
        (zq (vp_in (v3_1 + 1) S.1) <| zq (vp_in (v3_1 + 2) S.1) <| zb2 (qS_ring M2 (S.2 (v3_1 + 1).toNatClampNeg) (S.2 (v3_1 + 2).toNatClampNeg)) fun x95 M96 =>
        zq (vp_in (v3_1 + 1) S.1) <| zq (vp_in (v3_1 + 2) S.1) <| zb2 (qM_ring M96 (S.2 (v3_1 + 1).toNatClampNeg) (S.2 (v3_1 + 2).toNatClampNeg)) fun x97 M98 =>
        if x95 = x97 then
          (rec3 ((v3_1 + 7), M98))
        else
          (some (0, M98)))
      else if ((S.2 v3_1.toNatClampNeg) &&& 63) = 26 then
        (zq (vp_in (v3_1 + 1) S.1) <| zq (vp_in (v3_1 + 2) S.1) <| zb2 (qS_heads M2 (S.2 (v3_1 + 1).toNatClampNeg) (S.2 (v3_1 + 2).toNatClampNeg)) fun x99 M100 =>
        zq (vp_in (v3_1 + 1) S.1) <| zq (vp_in (v3_1 + 2) S.1) <| zb2 (qM_heads M100 (S.2 (v3_1 + 1).toNatClampNeg) (S.2 (v3_1 + 2).toNatClampNeg)) fun x101 M102 =>
        if x99 = x101 then
          (rec3 ((v3_1 + 7), M102))
        else
          (some (0, M102)))
      else if ((S.2 v3_1.toNatClampNeg) &&& 63) = 27 then
        (zq (vp_in (v3_1 + 1) S.1) <| zq (vp_in (v3_1 + 2) S.1) <| zb2 (qS_shown M2 (S.2 (v3_1 + 1).toNatClampNeg) (S.2 (v3_1 + 2).toNatClampNeg)) fun x103 M104 =>
        zq (vp_in (v3_1 + 1) S.1) <| zq (vp_in (v3_1 + 2) S.1) <| zb2 (qM_shown M104 (S.2 (v3_1 + 1).toNatClampNeg) (S.2 (v3_1 + 2).toNatClampNeg)) fun x105 M106 =>
        if x103 = x105 then
          (rec3 ((v3_1 + 7), M106))
        else
          (some (0, M106)))
      else if ((S.2 v3_1.toNatClampNeg) &&& 63) = 28 then
        (zb2 (qS_hurt M2) fun x107 M108 =>
        zb2 (qM_hurt M108) fun x109 M110 =>
        if x107 = x109 then
          (rec3 ((v3_1 + 7), M110))
        else
          (some (0, M110)))
      else if ((S.2 v3_1.toNatClampNeg) &&& 63) = 29 then
        (zq (vp_in (v3_1 + 1) S.1) <| zq (vp_in (v3_1 + 2) S.1) <| zq (vp_in (v3_1 + 3) S.1) <| zq (vp_in (v3_1 + 4) S.1) <| zq (vp_in (v3_1 + 5) S.1) <| zq (vp_in (v3_1 + 6) S.1) <| zb2 (qS_home M2 (S.2 (v3_1 + 1).toNatClampNeg) (S.2 (v3_1 + 2).toNatClampNeg) (S.2 (v3_1 + 3).toNatClampNeg) (S.2 (v3_1 + 4).toNatClampNeg) (S.2 (v3_1 + 5).toNatClampNeg) (S.2 (v3_1 + 6).toNatClampNeg)) fun x111 M112 =>
        zq (vp_in (v3_1 + 1) S.1) <| zq (vp_in (v3_1 + 2) S.1) <| zq (vp_in (v3_1 + 3) S.1) <| zq (vp_in (v3_1 + 4) S.1) <| zq (vp_in (v3_1 + 5) S.1) <| zq (vp_in (v3_1 + 6) S.1) <| zb (qM_home M112 (S.2 (v3_1 + 1).toNatClampNeg) (S.2 (v3_1 + 2).toNatClampNeg) (S.2 (v3_1 + 3).toNatClampNeg) (S.2 (v3_1 + 4).toNatClampNeg) (S.2 (v3_1 + 5).toNatClampNeg) (S.2 (v3_1 + 6).toNatClampNeg)) fun x113 =>
        if (lg_cmp x111 x113) = 0 then
          (rec3 ((v3_1 + 7), M112))
        else
          (some (0, M112)))
      else if ((S.2 v3_1.toNatClampNeg) &&& 63) = 30 then
        (zq (vp_in (v3_1 + 1) S.1) <| zb2 (qS_slip M2 (S.2 (v3_1 + 1).toNatClampNeg)) fun x114 M115 =>
        zq (vp_in (v3_1 + 1) S.1) <| zb2 (qM_slip M115 (S.2 (v3_1 + 1).toNatClampNeg)) fun x116 M117 =>
        if x114 = x116 then
          (rec3 ((v3_1 + 7), M117))
        else
          (some (0, M117)))
      else if ((S.2 v3_1.toNatClampNeg) &&& 63) = 31 then
        (zb2 (qS_burn M2) fun x118 M119 =>
        zb2 (qM_burn M119) fun x120 M121 =>
        if x118 = x120 then
          (rec3 ((v3_1 + 7), M121))
        else
          (some (0, M121)))
      else if ((S.2 v3_1.toNatClampNeg) &&& 63) = 32 then
        (zq (vp_in (v3_1 + 1) S.1) <| zq (vp_in (v3_1 + 2) S.1) <| zb (qS_with M2 (S.2 (v3_1 + 1).toNatClampNeg) (S.2 (v3_1 + 2).toNatClampNeg)) fun x122 =>
        zq (vp_in (v3_1 + 1) S.1) <| zq (vp_in (v3_1 + 2) S.1) <| zb (qM_with M2 (S.2 (v3_1 + 1).toNatClampNeg) (S.2 (v3_1 + 2).toNatClampNeg)) fun x123 =>
        if x122 = x123 then
          (rec3 ((v3_1 + 7), M2))
        else
          (some (0, M2)))
      else if ((S.2 v3_1.toNatClampNeg) &&& 63) = 33 then
        (zq (vp_in (v3_1 + 1) S.1) <| zq (vp_in (v3_1 + 2) S.1) <| zq (vp_in (v3_1 + 3) S.1) <| zb (qS_chance M2 (S.2 (v3_1 + 1).toNatClampNeg) (S.2 (v3_1 + 2).toNatClampNeg) (S.2 (v3_1 + 3).toNatClampNeg)) fun x124 =>
        zq (vp_in (v3_1 + 1) S.1) <| zq (vp_in (v3_1 + 2) S.1) <| zq (vp_in (v3_1 + 3) S.1) <| zb (qM_chance M2 (S.2 (v3_1 + 1).toNatClampNeg) (S.2 (v3_1 + 2).toNatClampNeg) (S.2 (v3_1 + 3).toNatClampNeg)) fun x125 =>
        if (lg_cmp x124 x125) = 0 then
          (rec3 ((v3_1 + 7), M2))
        else
          (some (0, M2)))
      else if ((S.2 v3_1.toNatClampNeg) &&& 63) = 34 then
        (zq (vp_in (v3_1 + 1) S.1) <| zq (vp_in (v3_1 + 2) S.1) <| zb2 (qS_edge M2 (S.2 (v3_1 + 1).toNatClampNeg) (S.2 (v3_1 + 2).toNatClampNeg)) fun x126 M127 =>
        zq (vp_in (v3_1 + 1) S.1) <| zq (vp_in (v3_1 + 2) S.1) <| zb2 (qM_edge M127 (S.2 (v3_1 + 1).toNatClampNeg) (S.2 (v3_1 + 2).toNatClampNeg)) fun x128 M129 =>
        if x126 = x128 then
          (rec3 ((v3_1 + 7), M129))
        else
          (some (0, M129)))
      else if ((S.2 v3_1.toNatClampNeg) &&& 63) = 35 then
        (zq (vp_in (v3_1 + 1) S.1) <| zb2 (qS_image M2 (S.2 (v3_1 + 1).toNatClampNeg)) fun x130 M131 =>
        zq (vp_in (v3_1 + 1) S.1) <| zb2 (qM_image M131 (S.2 (v3_1 + 1).toNatClampNeg)) fun x132 M133 =>
        if x130 = x132 then
          (rec3 ((v3_1 + 7), M133))
        else
          (some (0, M133)))
      else if ((S.2 v3_1.toNatClampNeg) &&& 63) = 36 then
        (zq (vp_in (v3_1 + 1) S.1) <| zb2 (qS_restore M2 (S.2 (v3_1 + 1).toNatClampNeg)) fun x134 M135 =>
        zq (vp_in (v3_1 + 1) S.1) <| zb2 (qM_restore M135 (S.2 (v3_1 + 1).toNatClampNeg)) fun x136 M137 =>
        if x134 = x136 then
          (rec3 ((v3_1 + 7), M137))
        else
          (some (0, M137)))
      else if ((S.2 v3_1.toNatClampNeg) &&& 63) = 37 then
        (zq (vp_in (v3_1 + 1) S.1) <| zb (qS_told M2 (S.2 (v3_1 + 1).toNatClampNeg)) fun x138 =>
        zq (vp_in (v3_1 + 1) S.1) <| zb (qM_told M2 (S.2 (v3_1 + 1).toNatClampNeg)) fun x139 =>
        if x138 = x139 then
          (rec3 ((v3_1 + 7), M2))
        else
          (some (0, M2)))
      else 
        (rec3 ((v3_1 + 7), M2)))
noncomputable def qL_law (S : zSc) (M : zM) : Option (Int32 × zM) :=
  zlp (qL_law_L18 S) zfu (0, M)
set_option maxRecDepth 20000 in
set_option maxHeartbeats 4000000 in
theorem qL_law_ok {S : zSc} {M : zM} {r : Int32 × zM} (h : qL_law S M = some r) : zF S 212 (18, [(3, .int 0), (2, .ref 86), (1, .ref 1), (0, .ref 0)], [], zh, M) (some (.int r.1)) (r.2) := by
  unfold qL_law at h
  refine zF_same (s' := (18, [(0, .ref 0), (1, .ref 1), (2, .ref 86), (3, .int 0)], [], zh, M)) rfl ?_
  refine zlp_ind (P := fun (v : Int32 × zM) r => zF S 212 (18, [(0, .ref 0), (1, .ref 1), (2, .ref 86), (3, .int v.1)], [], zh, v.2) (some (.int r.1)) (r.2)) ?_ _ _ _ h
  intro rec3 hrec3 v r h
  obtain ⟨v3_1, M2⟩ := v
  unfold qL_law_L18 at h
  dsimp only at h
  show zF S 212 (18, [(0, .ref 0), (1, .ref 1), (2, .ref 86), (3, .int v3_1)], [], zh, M2) _ _
  refine zF_go (n := 5) (ps := []) (s' := (24, [(0, .ref 0), (1, .ref 1), (2, .ref 86), (3, .int v3_1)], [.int ((Int32.ofNat S.1) - 7), .int v3_1], zh, M2)) rfl trivial ?_
  refine zF_gt (t := 1359) (u := (27, [(0, .ref 0), (1, .ref 1), (2, .ref 86), (3, .int v3_1)], [], zh, M2)) rfl (fun c140 => ?_) (fun c140 => ?_)
  · rw [if_pos c140] at h
    refine zF_go (n := 1) (ps := []) (s' := (1360, [(0, .ref 0), (1, .ref 1), (2, .ref 86), (3, .int v3_1)], [.int 1], zh, M2)) rfl trivial ?_
    cases h
    exact zF_ret rfl ⟨(Or.inr rfl), trivial⟩
  · rw [if_neg c140] at h
    obtain ⟨g141, h⟩ := zq_some h
    refine zF_go (n := 5) (ps := [vp_in v3_1 S.1]) (s' := (33, [(0, .ref 0), (1, .ref 1), (2, .ref 86), (3, .int v3_1)], [.int ((S.2 v3_1.toNatClampNeg) &&& 63)], zh, M2)) rfl ⟨g141, trivial⟩ ?_
    by_cases c142 : ((S.2 v3_1.toNatClampNeg) &&& 63) = 0
    · rw [if_pos c142] at h
      refine zF_sw (t := 200) (lv := [(0, .ref 0), (1, .ref 1), (2, .ref 86), (3, .int v3_1)]) (st := []) (M := M2) rfl (by rw [c142]; rfl) ?_
      obtain ⟨g143, h⟩ := zq_some h
      obtain ⟨g144, h⟩ := zq_some h
      obtain ⟨g145, h⟩ := zq_some h
      refine zF_go (n := 16) (ps := [vp_in (v3_1 + 1) S.1, vp_in (v3_1 + 2) S.1, vp_in (v3_1 + 3) S.1]) (s' := (216, [(0, .ref 0), (1, .ref 1), (2, .ref 86), (3, .int v3_1)], [.int (S.2 (v3_1 + 3).toNatClampNeg), .int (S.2 (v3_1 + 2).toNatClampNeg), .int (S.2 (v3_1 + 1).toNatClampNeg), .ref 1], zh, M2)) rfl ⟨g143, g144, g145, trivial⟩ ?_
      obtain ⟨x4, M5, e146, h⟩ := zb2_some h
      refine zF_call (y' := 87) (as := [.ref 1, .int (S.2 (v3_1 + 1).toNatClampNeg), .int (S.2 (v3_1 + 2).toNatClampNeg), .int (S.2 (v3_1 + 3).toNatClampNeg)]) (u := (219, [(0, .ref 0), (1, .ref 1), (2, .ref 86), (3, .int v3_1)], [], zh, M2)) rfl ⟨rfl, rfl⟩ rfl (qS_thing_ok (S := S) (M := M2) e146) ?_
      show zF S 212 (219, [(0, .ref 0), (1, .ref 1), (2, .ref 86), (3, .int v3_1)], [.int x4], zh, M5) _ _
      obtain ⟨g147, h⟩ := zq_some h
      obtain ⟨g148, h⟩ := zq_some h
      obtain ⟨g149, h⟩ := zq_some h
      refine zF_go (n := 16) (ps := [vp_in (v3_1 + 1) S.1, vp_in (v3_1 + 2) S.1, vp_in (v3_1 + 3) S.1]) (s' := (235, [(0, .ref 0), (1, .ref 1), (2, .ref 86), (3, .int v3_1)], [.int (S.2 (v3_1 + 3).toNatClampNeg), .int (S.2 (v3_1 + 2).toNatClampNeg), .int (S.2 (v3_1 + 1).toNatClampNeg), .ref 86, .int x4], zh, M5)) rfl ⟨g147, g148, g149, trivial⟩ ?_
      obtain ⟨x6, M7, e150, h⟩ := zb2_some h
      refine zF_call (y' := 140) (as := [.ref 86, .int (S.2 (v3_1 + 1).toNatClampNeg), .int (S.2 (v3_1 + 2).toNatClampNeg), .int (S.2 (v3_1 + 3).toNatClampNeg)]) (u := (238, [(0, .ref 0), (1, .ref 1), (2, .ref 86), (3, .int v3_1)], [.int x4], zh, M5)) rfl ⟨rfl, rfl⟩ rfl (qM_thing_ok (S := S) (M := M5) e150) ?_
      show zF S 212 (238, [(0, .ref 0), (1, .ref 1), (2, .ref 86), (3, .int v3_1)], [.int x6, .int x4], zh, M7) _ _
      refine zF_eq (t := 1353) (u := (241, [(0, .ref 0), (1, .ref 1), (2, .ref 86), (3, .int v3_1)], [], zh, M7)) rfl (fun c151 => ?_) (fun c151 => ?_)
      · rw [if_pos c151] at h
        refine zF_go (n := 2) (ps := []) (s' := (18, [(3, .int (v3_1 + 7)), (0, .ref 0), (1, .ref 1), (2, .ref 86)], [], zh, M7)) rfl trivial ?_
        exact zF_as (hrec3 _ _ h) rfl
      · rw [if_neg c151] at h
        refine zF_go (n := 1) (ps := []) (s' := (242, [(0, .ref 0), (1, .ref 1), (2, .ref 86), (3, .int v3_1)], [.int 0], zh, M7)) rfl trivial ?_
        cases h
        exact zF_ret rfl ⟨(Or.inl rfl), trivial⟩
    rw [if_neg c142] at h
    by_cases c152 : ((S.2 v3_1.toNatClampNeg) &&& 63) = 1
    · rw [if_pos c152] at h
      refine zF_sw (t := 243) (lv := [(0, .ref 0), (1, .ref 1), (2, .ref 86), (3, .int v3_1)]) (st := []) (M := M2) rfl (by rw [c152]; rfl) ?_
      obtain ⟨g153, h⟩ := zq_some h
      obtain ⟨g154, h⟩ := zq_some h
      refine zF_go (n := 11) (ps := [vp_in (v3_1 + 1) S.1, vp_in (v3_1 + 2) S.1]) (s' := (254, [(0, .ref 0), (1, .ref 1), (2, .ref 86), (3, .int v3_1)], [.int (S.2 (v3_1 + 2).toNatClampNeg), .int (S.2 (v3_1 + 1).toNatClampNeg), .ref 1], zh, M2)) rfl ⟨g153, g154, trivial⟩ ?_
      obtain ⟨x8, M9, e155, h⟩ := zb2_some h
      refine zF_call (y' := 88) (as := [.ref 1, .int (S.2 (v3_1 + 1).toNatClampNeg), .int (S.2 (v3_1 + 2).toNatClampNeg)]) (u := (257, [(0, .ref 0), (1, .ref 1), (2, .ref 86), (3, .int v3_1)], [], zh, M2)) rfl ⟨rfl, rfl⟩ rfl (qS_step_ok (S := S) (M := M2) e155) ?_
      show zF S 212 (257, [(0, .ref 0), (1, .ref 1), (2, .ref 86), (3, .int v3_1)], [.int x8], zh, M9) _ _
      obtain ⟨g156, h⟩ := zq_some h
      obtain ⟨g157, h⟩ := zq_some h
      refine zF_go (n := 11) (ps := [vp_in (v3_1 + 1) S.1, vp_in (v3_1 + 2) S.1]) (s' := (268, [(0, .ref 0), (1, .ref 1), (2, .ref 86), (3, .int v3_1)], [.int (S.2 (v3_1 + 2).toNatClampNeg), .int (S.2 (v3_1 + 1).toNatClampNeg), .ref 86, .int x8], zh, M9)) rfl ⟨g156, g157, trivial⟩ ?_
      obtain ⟨x10, M11, e158, h⟩ := zb2_some h
      refine zF_call (y' := 141) (as := [.ref 86, .int (S.2 (v3_1 + 1).toNatClampNeg), .int (S.2 (v3_1 + 2).toNatClampNeg)]) (u := (271, [(0, .ref 0), (1, .ref 1), (2, .ref 86), (3, .int v3_1)], [.int x8], zh, M9)) rfl ⟨rfl, rfl⟩ rfl (qM_step_ok (S := S) (M := M9) e158) ?_
      show zF S 212 (271, [(0, .ref 0), (1, .ref 1), (2, .ref 86), (3, .int v3_1)], [.int x10, .int x8], zh, M11) _ _
      refine zF_eq (t := 1353) (u := (274, [(0, .ref 0), (1, .ref 1), (2, .ref 86), (3, .int v3_1)], [], zh, M11)) rfl (fun c159 => ?_) (fun c159 => ?_)
      · rw [if_pos c159] at h
        refine zF_go (n := 2) (ps := []) (s' := (18, [(3, .int (v3_1 + 7)), (0, .ref 0), (1, .ref 1), (2, .ref 86)], [], zh, M11)) rfl trivial ?_
        exact zF_as (hrec3 _ _ h) rfl
      · rw [if_neg c159] at h
        refine zF_go (n := 1) (ps := []) (s' := (275, [(0, .ref 0), (1, .ref 1), (2, .ref 86), (3, .int v3_1)], [.int 0], zh, M11)) rfl trivial ?_
        cases h
        exact zF_ret rfl ⟨(Or.inl rfl), trivial⟩
    rw [if_neg c152] at h
    by_cases c160 : ((S.2 v3_1.toNatClampNeg) &&& 63) = 2
    · rw [if_pos c160] at h
      refine zF_sw (t := 276) (lv := [(0, .ref 0), (1, .ref 1), (2, .ref 86), (3, .int v3_1)]) (st := []) (M := M2) rfl (by rw [c160]; rfl) ?_
      obtain ⟨g161, h⟩ := zq_some h
      obtain ⟨g162, h⟩ := zq_some h
      obtain ⟨g163, h⟩ := zq_some h
      obtain ⟨g164, h⟩ := zq_some h
      refine zF_go (n := 21) (ps := [vp_in (v3_1 + 1) S.1, vp_in (v3_1 + 2) S.1, vp_in (v3_1 + 3) S.1, vp_in (v3_1 + 4) S.1]) (s' := (297, [(0, .ref 0), (1, .ref 1), (2, .ref 86), (3, .int v3_1)], [.int (S.2 (v3_1 + 4).toNatClampNeg), .int (S.2 (v3_1 + 3).toNatClampNeg), .int (S.2 (v3_1 + 2).toNatClampNeg), .int (S.2 (v3_1 + 1).toNatClampNeg), .ref 1], zh, M2)) rfl ⟨g161, g162, g163, g164, trivial⟩ ?_
      obtain ⟨x12, M13, e165, h⟩ := zb2_some h
      refine zF_call (y' := 89) (as := [.ref 1, .int (S.2 (v3_1 + 1).toNatClampNeg), .int (S.2 (v3_1 + 2).toNatClampNeg), .int (S.2 (v3_1 + 3).toNatClampNeg), .int (S.2 (v3_1 + 4).toNatClampNeg)]) (u := (300, [(0, .ref 0), (1, .ref 1), (2, .ref 86), (3, .int v3_1)], [], zh, M2)) rfl ⟨rfl, rfl⟩ rfl (qS_set_ok (S := S) (M := M2) e165) ?_
      show zF S 212 (300, [(0, .ref 0), (1, .ref 1), (2, .ref 86), (3, .int v3_1)], [.int x12], zh, M13) _ _
      obtain ⟨g166, h⟩ := zq_some h
      obtain ⟨g167, h⟩ := zq_some h
      obtain ⟨g168, h⟩ := zq_some h
      obtain ⟨g169, h⟩ := zq_some h
      refine zF_go (n := 21) (ps := [vp_in (v3_1 + 1) S.1, vp_in (v3_1 + 2) S.1, vp_in (v3_1 + 3) S.1, vp_in (v3_1 + 4) S.1]) (s' := (321, [(0, .ref 0), (1, .ref 1), (2, .ref 86), (3, .int v3_1)], [.int (S.2 (v3_1 + 4).toNatClampNeg), .int (S.2 (v3_1 + 3).toNatClampNeg), .int (S.2 (v3_1 + 2).toNatClampNeg), .int (S.2 (v3_1 + 1).toNatClampNeg), .ref 86, .int x12], zh, M13)) rfl ⟨g166, g167, g168, g169, trivial⟩ ?_
      obtain ⟨x14, M15, e170, h⟩ := zb2_some h
      refine zF_call (y' := 142) (as := [.ref 86, .int (S.2 (v3_1 + 1).toNatClampNeg), .int (S.2 (v3_1 + 2).toNatClampNeg), .int (S.2 (v3_1 + 3).toNatClampNeg), .int (S.2 (v3_1 + 4).toNatClampNeg)]) (u := (324, [(0, .ref 0), (1, .ref 1), (2, .ref 86), (3, .int v3_1)], [.int x12], zh, M13)) rfl ⟨rfl, rfl⟩ rfl (qM_set_ok (S := S) (M := M13) e170) ?_
      show zF S 212 (324, [(0, .ref 0), (1, .ref 1), (2, .ref 86), (3, .int v3_1)], [.int x14, .int x12], zh, M15) _ _
      refine zF_eq (t := 1353) (u := (327, [(0, .ref 0), (1, .ref 1), (2, .ref 86), (3, .int v3_1)], [], zh, M15)) rfl (fun c171 => ?_) (fun c171 => ?_)
      · rw [if_pos c171] at h
        refine zF_go (n := 2) (ps := []) (s' := (18, [(3, .int (v3_1 + 7)), (0, .ref 0), (1, .ref 1), (2, .ref 86)], [], zh, M15)) rfl trivial ?_
        exact zF_as (hrec3 _ _ h) rfl
      · rw [if_neg c171] at h
        refine zF_go (n := 1) (ps := []) (s' := (328, [(0, .ref 0), (1, .ref 1), (2, .ref 86), (3, .int v3_1)], [.int 0], zh, M15)) rfl trivial ?_
        cases h
        exact zF_ret rfl ⟨(Or.inl rfl), trivial⟩
    rw [if_neg c160] at h
    by_cases c172 : ((S.2 v3_1.toNatClampNeg) &&& 63) = 3
    · rw [if_pos c172] at h
      refine zF_sw (t := 329) (lv := [(0, .ref 0), (1, .ref 1), (2, .ref 86), (3, .int v3_1)]) (st := []) (M := M2) rfl (by rw [c172]; rfl) ?_
      obtain ⟨g173, h⟩ := zq_some h
      obtain ⟨g174, h⟩ := zq_some h
      refine zF_go (n := 11) (ps := [vp_in (v3_1 + 1) S.1, vp_in (v3_1 + 2) S.1]) (s' := (340, [(0, .ref 0), (1, .ref 1), (2, .ref 86), (3, .int v3_1)], [.int (S.2 (v3_1 + 2).toNatClampNeg), .int (S.2 (v3_1 + 1).toNatClampNeg), .ref 1], zh, M2)) rfl ⟨g173, g174, trivial⟩ ?_
      obtain ⟨x16, M17, e175, h⟩ := zb2_some h
      refine zF_call (y' := 90) (as := [.ref 1, .int (S.2 (v3_1 + 1).toNatClampNeg), .int (S.2 (v3_1 + 2).toNatClampNeg)]) (u := (343, [(0, .ref 0), (1, .ref 1), (2, .ref 86), (3, .int v3_1)], [], zh, M2)) rfl ⟨rfl, rfl⟩ rfl (qS_show_ok (S := S) (M := M2) e175) ?_
      show zF S 212 (343, [(0, .ref 0), (1, .ref 1), (2, .ref 86), (3, .int v3_1)], [.int x16], zh, M17) _ _
      obtain ⟨g176, h⟩ := zq_some h
      obtain ⟨g177, h⟩ := zq_some h
      refine zF_go (n := 11) (ps := [vp_in (v3_1 + 1) S.1, vp_in (v3_1 + 2) S.1]) (s' := (354, [(0, .ref 0), (1, .ref 1), (2, .ref 86), (3, .int v3_1)], [.int (S.2 (v3_1 + 2).toNatClampNeg), .int (S.2 (v3_1 + 1).toNatClampNeg), .ref 86, .int x16], zh, M17)) rfl ⟨g176, g177, trivial⟩ ?_
      obtain ⟨x18, M19, e178, h⟩ := zb2_some h
      refine zF_call (y' := 143) (as := [.ref 86, .int (S.2 (v3_1 + 1).toNatClampNeg), .int (S.2 (v3_1 + 2).toNatClampNeg)]) (u := (357, [(0, .ref 0), (1, .ref 1), (2, .ref 86), (3, .int v3_1)], [.int x16], zh, M17)) rfl ⟨rfl, rfl⟩ rfl (qM_show_ok (S := S) (M := M17) e178) ?_
      show zF S 212 (357, [(0, .ref 0), (1, .ref 1), (2, .ref 86), (3, .int v3_1)], [.int x18, .int x16], zh, M19) _ _
      refine zF_eq (t := 1353) (u := (360, [(0, .ref 0), (1, .ref 1), (2, .ref 86), (3, .int v3_1)], [], zh, M19)) rfl (fun c179 => ?_) (fun c179 => ?_)
      · rw [if_pos c179] at h
        refine zF_go (n := 2) (ps := []) (s' := (18, [(3, .int (v3_1 + 7)), (0, .ref 0), (1, .ref 1), (2, .ref 86)], [], zh, M19)) rfl trivial ?_
        exact zF_as (hrec3 _ _ h) rfl
      · rw [if_neg c179] at h
        refine zF_go (n := 1) (ps := []) (s' := (361, [(0, .ref 0), (1, .ref 1), (2, .ref 86), (3, .int v3_1)], [.int 0], zh, M19)) rfl trivial ?_
        cases h
        exact zF_ret rfl ⟨(Or.inl rfl), trivial⟩
    rw [if_neg c172] at h
    by_cases c180 : ((S.2 v3_1.toNatClampNeg) &&& 63) = 4
    · rw [if_pos c180] at h
      refine zF_sw (t := 362) (lv := [(0, .ref 0), (1, .ref 1), (2, .ref 86), (3, .int v3_1)]) (st := []) (M := M2) rfl (by rw [c180]; rfl) ?_
      obtain ⟨g181, h⟩ := zq_some h
      obtain ⟨g182, h⟩ := zq_some h
      obtain ⟨g183, h⟩ := zq_some h
      obtain ⟨g184, h⟩ := zq_some h
      refine zF_go (n := 21) (ps := [vp_in (v3_1 + 1) S.1, vp_in (v3_1 + 2) S.1, vp_in (v3_1 + 3) S.1, vp_in (v3_1 + 4) S.1]) (s' := (383, [(0, .ref 0), (1, .ref 1), (2, .ref 86), (3, .int v3_1)], [.int (S.2 (v3_1 + 4).toNatClampNeg), .int (S.2 (v3_1 + 3).toNatClampNeg), .int (S.2 (v3_1 + 2).toNatClampNeg), .int (S.2 (v3_1 + 1).toNatClampNeg), .ref 1], zh, M2)) rfl ⟨g181, g182, g183, g184, trivial⟩ ?_
      obtain ⟨x20, M21, e185, h⟩ := zb2_some h
      refine zF_call (y' := 91) (as := [.ref 1, .int (S.2 (v3_1 + 1).toNatClampNeg), .int (S.2 (v3_1 + 2).toNatClampNeg), .int (S.2 (v3_1 + 3).toNatClampNeg), .int (S.2 (v3_1 + 4).toNatClampNeg)]) (u := (386, [(0, .ref 0), (1, .ref 1), (2, .ref 86), (3, .int v3_1)], [], zh, M2)) rfl ⟨rfl, rfl⟩ rfl (qS_sort_ok (S := S) (M := M2) e185) ?_
      show zF S 212 (386, [(0, .ref 0), (1, .ref 1), (2, .ref 86), (3, .int v3_1)], [.int x20], zh, M21) _ _
      obtain ⟨g186, h⟩ := zq_some h
      obtain ⟨g187, h⟩ := zq_some h
      obtain ⟨g188, h⟩ := zq_some h
      obtain ⟨g189, h⟩ := zq_some h
      refine zF_go (n := 21) (ps := [vp_in (v3_1 + 1) S.1, vp_in (v3_1 + 2) S.1, vp_in (v3_1 + 3) S.1, vp_in (v3_1 + 4) S.1]) (s' := (407, [(0, .ref 0), (1, .ref 1), (2, .ref 86), (3, .int v3_1)], [.int (S.2 (v3_1 + 4).toNatClampNeg), .int (S.2 (v3_1 + 3).toNatClampNeg), .int (S.2 (v3_1 + 2).toNatClampNeg), .int (S.2 (v3_1 + 1).toNatClampNeg), .ref 86, .int x20], zh, M21)) rfl ⟨g186, g187, g188, g189, trivial⟩ ?_
      obtain ⟨x22, M23, e190, h⟩ := zb2_some h
      refine zF_call (y' := 148) (as := [.ref 86, .int (S.2 (v3_1 + 1).toNatClampNeg), .int (S.2 (v3_1 + 2).toNatClampNeg), .int (S.2 (v3_1 + 3).toNatClampNeg), .int (S.2 (v3_1 + 4).toNatClampNeg)]) (u := (410, [(0, .ref 0), (1, .ref 1), (2, .ref 86), (3, .int v3_1)], [.int x20], zh, M21)) rfl ⟨rfl, rfl⟩ rfl (qM_sort_ok (S := S) (M := M21) e190) ?_
      show zF S 212 (410, [(0, .ref 0), (1, .ref 1), (2, .ref 86), (3, .int v3_1)], [.int x22, .int x20], zh, M23) _ _
      refine zF_eq (t := 1353) (u := (413, [(0, .ref 0), (1, .ref 1), (2, .ref 86), (3, .int v3_1)], [], zh, M23)) rfl (fun c191 => ?_) (fun c191 => ?_)
      · rw [if_pos c191] at h
        refine zF_go (n := 2) (ps := []) (s' := (18, [(3, .int (v3_1 + 7)), (0, .ref 0), (1, .ref 1), (2, .ref 86)], [], zh, M23)) rfl trivial ?_
        exact zF_as (hrec3 _ _ h) rfl
      · rw [if_neg c191] at h
        refine zF_go (n := 1) (ps := []) (s' := (414, [(0, .ref 0), (1, .ref 1), (2, .ref 86), (3, .int v3_1)], [.int 0], zh, M23)) rfl trivial ?_
        cases h
        exact zF_ret rfl ⟨(Or.inl rfl), trivial⟩
    rw [if_neg c180] at h
    by_cases c192 : ((S.2 v3_1.toNatClampNeg) &&& 63) = 5
    · rw [if_pos c192] at h
      refine zF_sw (t := 415) (lv := [(0, .ref 0), (1, .ref 1), (2, .ref 86), (3, .int v3_1)]) (st := []) (M := M2) rfl (by rw [c192]; rfl) ?_
      obtain ⟨g193, h⟩ := zq_some h
      obtain ⟨g194, h⟩ := zq_some h
      obtain ⟨g195, h⟩ := zq_some h
      refine zF_go (n := 16) (ps := [vp_in (v3_1 + 1) S.1, vp_in (v3_1 + 2) S.1, vp_in (v3_1 + 3) S.1]) (s' := (431, [(0, .ref 0), (1, .ref 1), (2, .ref 86), (3, .int v3_1)], [.int (S.2 (v3_1 + 3).toNatClampNeg), .int (S.2 (v3_1 + 2).toNatClampNeg), .int (S.2 (v3_1 + 1).toNatClampNeg), .ref 1], zh, M2)) rfl ⟨g193, g194, g195, trivial⟩ ?_
      obtain ⟨x24, M25, e196, h⟩ := zb2_some h
      refine zF_call (y' := 92) (as := [.ref 1, .int (S.2 (v3_1 + 1).toNatClampNeg), .int (S.2 (v3_1 + 2).toNatClampNeg), .int (S.2 (v3_1 + 3).toNatClampNeg)]) (u := (434, [(0, .ref 0), (1, .ref 1), (2, .ref 86), (3, .int v3_1)], [], zh, M2)) rfl ⟨rfl, rfl⟩ rfl (qS_change_ok (S := S) (M := M2) e196) ?_
      show zF S 212 (434, [(0, .ref 0), (1, .ref 1), (2, .ref 86), (3, .int v3_1)], [.int x24], zh, M25) _ _
      obtain ⟨g197, h⟩ := zq_some h
      obtain ⟨g198, h⟩ := zq_some h
      obtain ⟨g199, h⟩ := zq_some h
      refine zF_go (n := 16) (ps := [vp_in (v3_1 + 1) S.1, vp_in (v3_1 + 2) S.1, vp_in (v3_1 + 3) S.1]) (s' := (450, [(0, .ref 0), (1, .ref 1), (2, .ref 86), (3, .int v3_1)], [.int (S.2 (v3_1 + 3).toNatClampNeg), .int (S.2 (v3_1 + 2).toNatClampNeg), .int (S.2 (v3_1 + 1).toNatClampNeg), .ref 86, .int x24], zh, M25)) rfl ⟨g197, g198, g199, trivial⟩ ?_
      obtain ⟨x26, M27, e200, h⟩ := zb2_some h
      refine zF_call (y' := 149) (as := [.ref 86, .int (S.2 (v3_1 + 1).toNatClampNeg), .int (S.2 (v3_1 + 2).toNatClampNeg), .int (S.2 (v3_1 + 3).toNatClampNeg)]) (u := (453, [(0, .ref 0), (1, .ref 1), (2, .ref 86), (3, .int v3_1)], [.int x24], zh, M25)) rfl ⟨rfl, rfl⟩ rfl (qM_change_ok (S := S) (M := M25) e200) ?_
      show zF S 212 (453, [(0, .ref 0), (1, .ref 1), (2, .ref 86), (3, .int v3_1)], [.int x26, .int x24], zh, M27) _ _
      refine zF_eq (t := 1353) (u := (456, [(0, .ref 0), (1, .ref 1), (2, .ref 86), (3, .int v3_1)], [], zh, M27)) rfl (fun c201 => ?_) (fun c201 => ?_)
      · rw [if_pos c201] at h
        refine zF_go (n := 2) (ps := []) (s' := (18, [(3, .int (v3_1 + 7)), (0, .ref 0), (1, .ref 1), (2, .ref 86)], [], zh, M27)) rfl trivial ?_
        exact zF_as (hrec3 _ _ h) rfl
      · rw [if_neg c201] at h
        refine zF_go (n := 1) (ps := []) (s' := (457, [(0, .ref 0), (1, .ref 1), (2, .ref 86), (3, .int v3_1)], [.int 0], zh, M27)) rfl trivial ?_
        cases h
        exact zF_ret rfl ⟨(Or.inl rfl), trivial⟩
    rw [if_neg c192] at h
    by_cases c202 : ((S.2 v3_1.toNatClampNeg) &&& 63) = 6
    · rw [if_pos c202] at h
      refine zF_sw (t := 458) (lv := [(0, .ref 0), (1, .ref 1), (2, .ref 86), (3, .int v3_1)]) (st := []) (M := M2) rfl (by rw [c202]; rfl) ?_
      obtain ⟨g203, h⟩ := zq_some h
      refine zF_go (n := 6) (ps := [vp_in (v3_1 + 1) S.1]) (s' := (464, [(0, .ref 0), (1, .ref 1), (2, .ref 86), (3, .int v3_1)], [.int (S.2 (v3_1 + 1).toNatClampNeg), .ref 1], zh, M2)) rfl ⟨g203, trivial⟩ ?_
      obtain ⟨x28, M29, e204, h⟩ := zb2_some h
      refine zF_call (y' := 93) (as := [.ref 1, .int (S.2 (v3_1 + 1).toNatClampNeg)]) (u := (467, [(0, .ref 0), (1, .ref 1), (2, .ref 86), (3, .int v3_1)], [], zh, M2)) rfl ⟨rfl, rfl⟩ rfl (qS_say_ok (S := S) (M := M2) e204) ?_
      show zF S 212 (467, [(0, .ref 0), (1, .ref 1), (2, .ref 86), (3, .int v3_1)], [.int x28], zh, M29) _ _
      obtain ⟨g205, h⟩ := zq_some h
      refine zF_go (n := 6) (ps := [vp_in (v3_1 + 1) S.1]) (s' := (473, [(0, .ref 0), (1, .ref 1), (2, .ref 86), (3, .int v3_1)], [.int (S.2 (v3_1 + 1).toNatClampNeg), .ref 86, .int x28], zh, M29)) rfl ⟨g205, trivial⟩ ?_
      obtain ⟨x30, M31, e206, h⟩ := zb2_some h
      refine zF_call (y' := 150) (as := [.ref 86, .int (S.2 (v3_1 + 1).toNatClampNeg)]) (u := (476, [(0, .ref 0), (1, .ref 1), (2, .ref 86), (3, .int v3_1)], [.int x28], zh, M29)) rfl ⟨rfl, rfl⟩ rfl (qM_say_ok (S := S) (M := M29) e206) ?_
      show zF S 212 (476, [(0, .ref 0), (1, .ref 1), (2, .ref 86), (3, .int v3_1)], [.int x30, .int x28], zh, M31) _ _
      refine zF_eq (t := 1353) (u := (479, [(0, .ref 0), (1, .ref 1), (2, .ref 86), (3, .int v3_1)], [], zh, M31)) rfl (fun c207 => ?_) (fun c207 => ?_)
      · rw [if_pos c207] at h
        refine zF_go (n := 2) (ps := []) (s' := (18, [(3, .int (v3_1 + 7)), (0, .ref 0), (1, .ref 1), (2, .ref 86)], [], zh, M31)) rfl trivial ?_
        exact zF_as (hrec3 _ _ h) rfl
      · rw [if_neg c207] at h
        refine zF_go (n := 1) (ps := []) (s' := (480, [(0, .ref 0), (1, .ref 1), (2, .ref 86), (3, .int v3_1)], [.int 0], zh, M31)) rfl trivial ?_
        cases h
        exact zF_ret rfl ⟨(Or.inl rfl), trivial⟩
    rw [if_neg c202] at h
    by_cases c208 : ((S.2 v3_1.toNatClampNeg) &&& 63) = 7
    · rw [if_pos c208] at h
      refine zF_sw (t := 481) (lv := [(0, .ref 0), (1, .ref 1), (2, .ref 86), (3, .int v3_1)]) (st := []) (M := M2) rfl (by rw [c208]; rfl) ?_
      refine zF_go (n := 1) (ps := []) (s' := (482, [(0, .ref 0), (1, .ref 1), (2, .ref 86), (3, .int v3_1)], [.ref 1], zh, M2)) rfl trivial ?_
      obtain ⟨x32, M33, e209, h⟩ := zb2_some h
      refine zF_call (y' := 94) (as := [.ref 1]) (u := (485, [(0, .ref 0), (1, .ref 1), (2, .ref 86), (3, .int v3_1)], [], zh, M2)) rfl ⟨rfl, rfl⟩ rfl (qS_wipe_ok (S := S) (M := M2) e209) ?_
      show zF S 212 (485, [(0, .ref 0), (1, .ref 1), (2, .ref 86), (3, .int v3_1)], [.int x32], zh, M33) _ _
      refine zF_go (n := 1) (ps := []) (s' := (486, [(0, .ref 0), (1, .ref 1), (2, .ref 86), (3, .int v3_1)], [.ref 86, .int x32], zh, M33)) rfl trivial ?_
      obtain ⟨x34, M35, e210, h⟩ := zb2_some h
      refine zF_call (y' := 151) (as := [.ref 86]) (u := (489, [(0, .ref 0), (1, .ref 1), (2, .ref 86), (3, .int v3_1)], [.int x32], zh, M33)) rfl ⟨rfl, rfl⟩ rfl (qM_wipe_ok (S := S) (M := M33) e210) ?_
      show zF S 212 (489, [(0, .ref 0), (1, .ref 1), (2, .ref 86), (3, .int v3_1)], [.int x34, .int x32], zh, M35) _ _
      refine zF_eq (t := 1353) (u := (492, [(0, .ref 0), (1, .ref 1), (2, .ref 86), (3, .int v3_1)], [], zh, M35)) rfl (fun c211 => ?_) (fun c211 => ?_)
      · rw [if_pos c211] at h
        refine zF_go (n := 2) (ps := []) (s' := (18, [(3, .int (v3_1 + 7)), (0, .ref 0), (1, .ref 1), (2, .ref 86)], [], zh, M35)) rfl trivial ?_
        exact zF_as (hrec3 _ _ h) rfl
      · rw [if_neg c211] at h
        refine zF_go (n := 1) (ps := []) (s' := (493, [(0, .ref 0), (1, .ref 1), (2, .ref 86), (3, .int v3_1)], [.int 0], zh, M35)) rfl trivial ?_
        cases h
        exact zF_ret rfl ⟨(Or.inl rfl), trivial⟩
    rw [if_neg c208] at h
    by_cases c212 : ((S.2 v3_1.toNatClampNeg) &&& 63) = 8
    · rw [if_pos c212] at h
      refine zF_sw (t := 494) (lv := [(0, .ref 0), (1, .ref 1), (2, .ref 86), (3, .int v3_1)]) (st := []) (M := M2) rfl (by rw [c212]; rfl) ?_
      refine zF_go (n := 1) (ps := []) (s' := (495, [(0, .ref 0), (1, .ref 1), (2, .ref 86), (3, .int v3_1)], [.ref 1], zh, M2)) rfl trivial ?_
      obtain ⟨x36, M37, e213, h⟩ := zb2_some h
      refine zF_call (y' := 95) (as := [.ref 1]) (u := (498, [(0, .ref 0), (1, .ref 1), (2, .ref 86), (3, .int v3_1)], [], zh, M2)) rfl ⟨rfl, rfl⟩ rfl (qS_fault_ok (S := S) (M := M2) e213) ?_
      show zF S 212 (498, [(0, .ref 0), (1, .ref 1), (2, .ref 86), (3, .int v3_1)], [.int x36], zh, M37) _ _
      refine zF_go (n := 1) (ps := []) (s' := (499, [(0, .ref 0), (1, .ref 1), (2, .ref 86), (3, .int v3_1)], [.ref 86, .int x36], zh, M37)) rfl trivial ?_
      obtain ⟨x38, M39, e214, h⟩ := zb2_some h
      refine zF_call (y' := 153) (as := [.ref 86]) (u := (502, [(0, .ref 0), (1, .ref 1), (2, .ref 86), (3, .int v3_1)], [.int x36], zh, M37)) rfl ⟨rfl, rfl⟩ rfl (qM_fault_ok (S := S) (M := M37) e214) ?_
      show zF S 212 (502, [(0, .ref 0), (1, .ref 1), (2, .ref 86), (3, .int v3_1)], [.int x38, .int x36], zh, M39) _ _
      refine zF_eq (t := 1353) (u := (505, [(0, .ref 0), (1, .ref 1), (2, .ref 86), (3, .int v3_1)], [], zh, M39)) rfl (fun c215 => ?_) (fun c215 => ?_)
      · rw [if_pos c215] at h
        refine zF_go (n := 2) (ps := []) (s' := (18, [(3, .int (v3_1 + 7)), (0, .ref 0), (1, .ref 1), (2, .ref 86)], [], zh, M39)) rfl trivial ?_
        exact zF_as (hrec3 _ _ h) rfl
      · rw [if_neg c215] at h
        refine zF_go (n := 1) (ps := []) (s' := (506, [(0, .ref 0), (1, .ref 1), (2, .ref 86), (3, .int v3_1)], [.int 0], zh, M39)) rfl trivial ?_
        cases h
        exact zF_ret rfl ⟨(Or.inl rfl), trivial⟩
    rw [if_neg c212] at h
    by_cases c216 : ((S.2 v3_1.toNatClampNeg) &&& 63) = 9
    · rw [if_pos c216] at h
      refine zF_sw (t := 507) (lv := [(0, .ref 0), (1, .ref 1), (2, .ref 86), (3, .int v3_1)]) (st := []) (M := M2) rfl (by rw [c216]; rfl) ?_
      obtain ⟨g217, h⟩ := zq_some h
      refine zF_go (n := 6) (ps := [vp_in (v3_1 + 1) S.1]) (s' := (513, [(0, .ref 0), (1, .ref 1), (2, .ref 86), (3, .int v3_1)], [.int (S.2 (v3_1 + 1).toNatClampNeg), .ref 1], zh, M2)) rfl ⟨g217, trivial⟩ ?_
      obtain ⟨x40, M41, e218, h⟩ := zb2_some h
      refine zF_call (y' := 96) (as := [.ref 1, .int (S.2 (v3_1 + 1).toNatClampNeg)]) (u := (516, [(0, .ref 0), (1, .ref 1), (2, .ref 86), (3, .int v3_1)], [], zh, M2)) rfl ⟨rfl, rfl⟩ rfl (qS_list_ok (S := S) (M := M2) e218) ?_
      show zF S 212 (516, [(0, .ref 0), (1, .ref 1), (2, .ref 86), (3, .int v3_1)], [.int x40], zh, M41) _ _
      obtain ⟨g219, h⟩ := zq_some h
      refine zF_go (n := 6) (ps := [vp_in (v3_1 + 1) S.1]) (s' := (522, [(0, .ref 0), (1, .ref 1), (2, .ref 86), (3, .int v3_1)], [.int (S.2 (v3_1 + 1).toNatClampNeg), .ref 86, .int x40], zh, M41)) rfl ⟨g219, trivial⟩ ?_
      obtain ⟨x42, M43, e220, h⟩ := zb2_some h
      refine zF_call (y' := 154) (as := [.ref 86, .int (S.2 (v3_1 + 1).toNatClampNeg)]) (u := (525, [(0, .ref 0), (1, .ref 1), (2, .ref 86), (3, .int v3_1)], [.int x40], zh, M41)) rfl ⟨rfl, rfl⟩ rfl (qM_list_ok (S := S) (M := M41) e220) ?_
      show zF S 212 (525, [(0, .ref 0), (1, .ref 1), (2, .ref 86), (3, .int v3_1)], [.int x42, .int x40], zh, M43) _ _
      refine zF_eq (t := 1353) (u := (528, [(0, .ref 0), (1, .ref 1), (2, .ref 86), (3, .int v3_1)], [], zh, M43)) rfl (fun c221 => ?_) (fun c221 => ?_)
      · rw [if_pos c221] at h
        refine zF_go (n := 2) (ps := []) (s' := (18, [(3, .int (v3_1 + 7)), (0, .ref 0), (1, .ref 1), (2, .ref 86)], [], zh, M43)) rfl trivial ?_
        exact zF_as (hrec3 _ _ h) rfl
      · rw [if_neg c221] at h
        refine zF_go (n := 1) (ps := []) (s' := (529, [(0, .ref 0), (1, .ref 1), (2, .ref 86), (3, .int v3_1)], [.int 0], zh, M43)) rfl trivial ?_
        cases h
        exact zF_ret rfl ⟨(Or.inl rfl), trivial⟩
    rw [if_neg c216] at h
    by_cases c222 : ((S.2 v3_1.toNatClampNeg) &&& 63) = 10
    · rw [if_pos c222] at h
      refine zF_sw (t := 530) (lv := [(0, .ref 0), (1, .ref 1), (2, .ref 86), (3, .int v3_1)]) (st := []) (M := M2) rfl (by rw [c222]; rfl) ?_
      obtain ⟨g223, h⟩ := zq_some h
      obtain ⟨g224, h⟩ := zq_some h
      obtain ⟨g225, h⟩ := zq_some h
      refine zF_go (n := 16) (ps := [vp_in (v3_1 + 1) S.1, vp_in (v3_1 + 2) S.1, vp_in (v3_1 + 3) S.1]) (s' := (546, [(0, .ref 0), (1, .ref 1), (2, .ref 86), (3, .int v3_1)], [.int (S.2 (v3_1 + 3).toNatClampNeg), .int (S.2 (v3_1 + 2).toNatClampNeg), .int (S.2 (v3_1 + 1).toNatClampNeg), .ref 1], zh, M2)) rfl ⟨g223, g224, g225, trivial⟩ ?_
      obtain ⟨x44, e226, h⟩ := zb_some h
      refine zF_call (y' := 97) (as := [.ref 1, .int (S.2 (v3_1 + 1).toNatClampNeg), .int (S.2 (v3_1 + 2).toNatClampNeg), .int (S.2 (v3_1 + 3).toNatClampNeg)]) (u := (549, [(0, .ref 0), (1, .ref 1), (2, .ref 86), (3, .int v3_1)], [], zh, M2)) rfl ⟨rfl, rfl⟩ rfl (qS_item_ok (S := S) (M := M2) e226) ?_
      show zF S 212 (549, [(0, .ref 0), (1, .ref 1), (2, .ref 86), (3, .int v3_1)], [.int x44], zh, M2) _ _
      obtain ⟨g227, h⟩ := zq_some h
      obtain ⟨g228, h⟩ := zq_some h
      obtain ⟨g229, h⟩ := zq_some h
      refine zF_go (n := 16) (ps := [vp_in (v3_1 + 1) S.1, vp_in (v3_1 + 2) S.1, vp_in (v3_1 + 3) S.1]) (s' := (565, [(0, .ref 0), (1, .ref 1), (2, .ref 86), (3, .int v3_1)], [.int (S.2 (v3_1 + 3).toNatClampNeg), .int (S.2 (v3_1 + 2).toNatClampNeg), .int (S.2 (v3_1 + 1).toNatClampNeg), .ref 86, .int x44], zh, M2)) rfl ⟨g227, g228, g229, trivial⟩ ?_
      obtain ⟨x45, e230, h⟩ := zb_some h
      refine zF_call (y' := 155) (as := [.ref 86, .int (S.2 (v3_1 + 1).toNatClampNeg), .int (S.2 (v3_1 + 2).toNatClampNeg), .int (S.2 (v3_1 + 3).toNatClampNeg)]) (u := (568, [(0, .ref 0), (1, .ref 1), (2, .ref 86), (3, .int v3_1)], [.int x44], zh, M2)) rfl ⟨rfl, rfl⟩ rfl (qM_item_ok (S := S) (M := M2) e230) ?_
      show zF S 212 (568, [(0, .ref 0), (1, .ref 1), (2, .ref 86), (3, .int v3_1)], [.int x45, .int x44], zh, M2) _ _
      refine zF_eq (t := 1353) (u := (571, [(0, .ref 0), (1, .ref 1), (2, .ref 86), (3, .int v3_1)], [], zh, M2)) rfl (fun c231 => ?_) (fun c231 => ?_)
      · rw [if_pos c231] at h
        refine zF_go (n := 2) (ps := []) (s' := (18, [(3, .int (v3_1 + 7)), (0, .ref 0), (1, .ref 1), (2, .ref 86)], [], zh, M2)) rfl trivial ?_
        exact zF_as (hrec3 _ _ h) rfl
      · rw [if_neg c231] at h
        refine zF_go (n := 1) (ps := []) (s' := (572, [(0, .ref 0), (1, .ref 1), (2, .ref 86), (3, .int v3_1)], [.int 0], zh, M2)) rfl trivial ?_
        cases h
        exact zF_ret rfl ⟨(Or.inl rfl), trivial⟩
    rw [if_neg c222] at h
    by_cases c232 : ((S.2 v3_1.toNatClampNeg) &&& 63) = 11
    · rw [if_pos c232] at h
      refine zF_sw (t := 573) (lv := [(0, .ref 0), (1, .ref 1), (2, .ref 86), (3, .int v3_1)]) (st := []) (M := M2) rfl (by rw [c232]; rfl) ?_
      obtain ⟨g233, h⟩ := zq_some h
      refine zF_go (n := 6) (ps := [vp_in (v3_1 + 1) S.1]) (s' := (579, [(0, .ref 0), (1, .ref 1), (2, .ref 86), (3, .int v3_1)], [.int (S.2 (v3_1 + 1).toNatClampNeg), .ref 1], zh, M2)) rfl ⟨g233, trivial⟩ ?_
      obtain ⟨x46, M47, e234, h⟩ := zb2_some h
      refine zF_call (y' := 98) (as := [.ref 1, .int (S.2 (v3_1 + 1).toNatClampNeg)]) (u := (582, [(0, .ref 0), (1, .ref 1), (2, .ref 86), (3, .int v3_1)], [], zh, M2)) rfl ⟨rfl, rfl⟩ rfl (qS_law_ok (S := S) (M := M2) e234) ?_
      show zF S 212 (582, [(0, .ref 0), (1, .ref 1), (2, .ref 86), (3, .int v3_1)], [.int x46], zh, M47) _ _
      obtain ⟨g235, h⟩ := zq_some h
      refine zF_go (n := 6) (ps := [vp_in (v3_1 + 1) S.1]) (s' := (588, [(0, .ref 0), (1, .ref 1), (2, .ref 86), (3, .int v3_1)], [.int (S.2 (v3_1 + 1).toNatClampNeg), .ref 86, .int x46], zh, M47)) rfl ⟨g235, trivial⟩ ?_
      obtain ⟨x48, M49, e236, h⟩ := zb2_some h
      refine zF_call (y' := 156) (as := [.ref 86, .int (S.2 (v3_1 + 1).toNatClampNeg)]) (u := (591, [(0, .ref 0), (1, .ref 1), (2, .ref 86), (3, .int v3_1)], [.int x46], zh, M47)) rfl ⟨rfl, rfl⟩ rfl (qM_law_ok (S := S) (M := M47) e236) ?_
      show zF S 212 (591, [(0, .ref 0), (1, .ref 1), (2, .ref 86), (3, .int v3_1)], [.int x48, .int x46], zh, M49) _ _
      refine zF_eq (t := 1353) (u := (594, [(0, .ref 0), (1, .ref 1), (2, .ref 86), (3, .int v3_1)], [], zh, M49)) rfl (fun c237 => ?_) (fun c237 => ?_)
      · rw [if_pos c237] at h
        refine zF_go (n := 2) (ps := []) (s' := (18, [(3, .int (v3_1 + 7)), (0, .ref 0), (1, .ref 1), (2, .ref 86)], [], zh, M49)) rfl trivial ?_
        exact zF_as (hrec3 _ _ h) rfl
      · rw [if_neg c237] at h
        refine zF_go (n := 1) (ps := []) (s' := (595, [(0, .ref 0), (1, .ref 1), (2, .ref 86), (3, .int v3_1)], [.int 0], zh, M49)) rfl trivial ?_
        cases h
        exact zF_ret rfl ⟨(Or.inl rfl), trivial⟩
    rw [if_neg c232] at h
    by_cases c238 : ((S.2 v3_1.toNatClampNeg) &&& 63) = 12
    · rw [if_pos c238] at h
      refine zF_sw (t := 596) (lv := [(0, .ref 0), (1, .ref 1), (2, .ref 86), (3, .int v3_1)]) (st := []) (M := M2) rfl (by rw [c238]; rfl) ?_
      obtain ⟨g239, h⟩ := zq_some h
      obtain ⟨g240, h⟩ := zq_some h
      refine zF_go (n := 11) (ps := [vp_in (v3_1 + 1) S.1, vp_in (v3_1 + 2) S.1]) (s' := (607, [(0, .ref 0), (1, .ref 1), (2, .ref 86), (3, .int v3_1)], [.int (S.2 (v3_1 + 2).toNatClampNeg), .int (S.2 (v3_1 + 1).toNatClampNeg), .ref 1], zh, M2)) rfl ⟨g239, g240, trivial⟩ ?_
      obtain ⟨x50, M51, e241, h⟩ := zb2_some h
      refine zF_call (y' := 99) (as := [.ref 1, .int (S.2 (v3_1 + 1).toNatClampNeg), .int (S.2 (v3_1 + 2).toNatClampNeg)]) (u := (610, [(0, .ref 0), (1, .ref 1), (2, .ref 86), (3, .int v3_1)], [], zh, M2)) rfl ⟨rfl, rfl⟩ rfl (qS_thinks_ok (S := S) (M := M2) e241) ?_
      show zF S 212 (610, [(0, .ref 0), (1, .ref 1), (2, .ref 86), (3, .int v3_1)], [.long x50], zh, M51) _ _
      obtain ⟨g242, h⟩ := zq_some h
      obtain ⟨g243, h⟩ := zq_some h
      refine zF_go (n := 11) (ps := [vp_in (v3_1 + 1) S.1, vp_in (v3_1 + 2) S.1]) (s' := (621, [(0, .ref 0), (1, .ref 1), (2, .ref 86), (3, .int v3_1)], [.int (S.2 (v3_1 + 2).toNatClampNeg), .int (S.2 (v3_1 + 1).toNatClampNeg), .ref 86, .long x50], zh, M51)) rfl ⟨g242, g243, trivial⟩ ?_
      obtain ⟨x52, M53, e244, h⟩ := zb2_some h
      refine zF_call (y' := 164) (as := [.ref 86, .int (S.2 (v3_1 + 1).toNatClampNeg), .int (S.2 (v3_1 + 2).toNatClampNeg)]) (u := (624, [(0, .ref 0), (1, .ref 1), (2, .ref 86), (3, .int v3_1)], [.long x50], zh, M51)) rfl ⟨rfl, rfl⟩ rfl (qM_thinks_ok (S := S) (M := M51) e244) ?_
      show zF S 212 (624, [(0, .ref 0), (1, .ref 1), (2, .ref 86), (3, .int v3_1)], [.long x52, .long x50], zh, M53) _ _
      refine zF_go (n := 1) (ps := []) (s' := (625, [(0, .ref 0), (1, .ref 1), (2, .ref 86), (3, .int v3_1)], [.int (lg_cmp x50 x52)], zh, M53)) rfl trivial ?_
      refine zF_eq (t := 1353) (u := (628, [(0, .ref 0), (1, .ref 1), (2, .ref 86), (3, .int v3_1)], [], zh, M53)) rfl (fun c245 => ?_) (fun c245 => ?_)
      · rw [if_pos c245] at h
        refine zF_go (n := 2) (ps := []) (s' := (18, [(3, .int (v3_1 + 7)), (0, .ref 0), (1, .ref 1), (2, .ref 86)], [], zh, M53)) rfl trivial ?_
        exact zF_as (hrec3 _ _ h) rfl
      · rw [if_neg c245] at h
        refine zF_go (n := 1) (ps := []) (s' := (629, [(0, .ref 0), (1, .ref 1), (2, .ref 86), (3, .int v3_1)], [.int 0], zh, M53)) rfl trivial ?_
        cases h
        exact zF_ret rfl ⟨(Or.inl rfl), trivial⟩
    rw [if_neg c238] at h
    by_cases c246 : ((S.2 v3_1.toNatClampNeg) &&& 63) = 13
    · rw [if_pos c246] at h
      refine zF_sw (t := 630) (lv := [(0, .ref 0), (1, .ref 1), (2, .ref 86), (3, .int v3_1)]) (st := []) (M := M2) rfl (by rw [c246]; rfl) ?_
      obtain ⟨g247, h⟩ := zq_some h
      refine zF_go (n := 6) (ps := [vp_in (v3_1 + 1) S.1]) (s' := (636, [(0, .ref 0), (1, .ref 1), (2, .ref 86), (3, .int v3_1)], [.int (S.2 (v3_1 + 1).toNatClampNeg), .ref 1], zh, M2)) rfl ⟨g247, trivial⟩ ?_
      obtain ⟨x54, M55, e248, h⟩ := zb2_some h
      refine zF_call (y' := 100) (as := [.ref 1, .int (S.2 (v3_1 + 1).toNatClampNeg)]) (u := (639, [(0, .ref 0), (1, .ref 1), (2, .ref 86), (3, .int v3_1)], [], zh, M2)) rfl ⟨rfl, rfl⟩ rfl (qS_goes_ok (S := S) (M := M2) e248) ?_
      show zF S 212 (639, [(0, .ref 0), (1, .ref 1), (2, .ref 86), (3, .int v3_1)], [.int x54], zh, M55) _ _
      obtain ⟨g249, h⟩ := zq_some h
      refine zF_go (n := 6) (ps := [vp_in (v3_1 + 1) S.1]) (s' := (645, [(0, .ref 0), (1, .ref 1), (2, .ref 86), (3, .int v3_1)], [.int (S.2 (v3_1 + 1).toNatClampNeg), .ref 86, .int x54], zh, M55)) rfl ⟨g249, trivial⟩ ?_
      obtain ⟨x56, e250, h⟩ := zb_some h
      refine zF_call (y' := 166) (as := [.ref 86, .int (S.2 (v3_1 + 1).toNatClampNeg)]) (u := (648, [(0, .ref 0), (1, .ref 1), (2, .ref 86), (3, .int v3_1)], [.int x54], zh, M55)) rfl ⟨rfl, rfl⟩ rfl (qM_goes_ok (S := S) (M := M55) e250) ?_
      show zF S 212 (648, [(0, .ref 0), (1, .ref 1), (2, .ref 86), (3, .int v3_1)], [.int x56, .int x54], zh, M55) _ _
      refine zF_eq (t := 1353) (u := (651, [(0, .ref 0), (1, .ref 1), (2, .ref 86), (3, .int v3_1)], [], zh, M55)) rfl (fun c251 => ?_) (fun c251 => ?_)
      · rw [if_pos c251] at h
        refine zF_go (n := 2) (ps := []) (s' := (18, [(3, .int (v3_1 + 7)), (0, .ref 0), (1, .ref 1), (2, .ref 86)], [], zh, M55)) rfl trivial ?_
        exact zF_as (hrec3 _ _ h) rfl
      · rw [if_neg c251] at h
        refine zF_go (n := 1) (ps := []) (s' := (652, [(0, .ref 0), (1, .ref 1), (2, .ref 86), (3, .int v3_1)], [.int 0], zh, M55)) rfl trivial ?_
        cases h
        exact zF_ret rfl ⟨(Or.inl rfl), trivial⟩
    rw [if_neg c246] at h
    by_cases c252 : ((S.2 v3_1.toNatClampNeg) &&& 63) = 14
    · rw [if_pos c252] at h
      refine zF_sw (t := 653) (lv := [(0, .ref 0), (1, .ref 1), (2, .ref 86), (3, .int v3_1)]) (st := []) (M := M2) rfl (by rw [c252]; rfl) ?_
      obtain ⟨g253, h⟩ := zq_some h
      obtain ⟨g254, h⟩ := zq_some h
      obtain ⟨g255, h⟩ := zq_some h
      refine zF_go (n := 16) (ps := [vp_in (v3_1 + 1) S.1, vp_in (v3_1 + 2) S.1, vp_in (v3_1 + 3) S.1]) (s' := (669, [(0, .ref 0), (1, .ref 1), (2, .ref 86), (3, .int v3_1)], [.int (S.2 (v3_1 + 3).toNatClampNeg), .int (S.2 (v3_1 + 2).toNatClampNeg), .int (S.2 (v3_1 + 1).toNatClampNeg), .ref 1], zh, M2)) rfl ⟨g253, g254, g255, trivial⟩ ?_
      obtain ⟨x57, M58, e256, h⟩ := zb2_some h
      refine zF_call (y' := 101) (as := [.ref 1, .int (S.2 (v3_1 + 1).toNatClampNeg), .int (S.2 (v3_1 + 2).toNatClampNeg), .int (S.2 (v3_1 + 3).toNatClampNeg)]) (u := (672, [(0, .ref 0), (1, .ref 1), (2, .ref 86), (3, .int v3_1)], [], zh, M2)) rfl ⟨rfl, rfl⟩ rfl (qS_buys_ok (S := S) (M := M2) e256) ?_
      show zF S 212 (672, [(0, .ref 0), (1, .ref 1), (2, .ref 86), (3, .int v3_1)], [.int x57], zh, M58) _ _
      obtain ⟨g257, h⟩ := zq_some h
      obtain ⟨g258, h⟩ := zq_some h
      obtain ⟨g259, h⟩ := zq_some h
      refine zF_go (n := 16) (ps := [vp_in (v3_1 + 1) S.1, vp_in (v3_1 + 2) S.1, vp_in (v3_1 + 3) S.1]) (s' := (688, [(0, .ref 0), (1, .ref 1), (2, .ref 86), (3, .int v3_1)], [.int (S.2 (v3_1 + 3).toNatClampNeg), .int (S.2 (v3_1 + 2).toNatClampNeg), .int (S.2 (v3_1 + 1).toNatClampNeg), .ref 86, .int x57], zh, M58)) rfl ⟨g257, g258, g259, trivial⟩ ?_
      obtain ⟨x59, e260, h⟩ := zb_some h
      refine zF_call (y' := 168) (as := [.ref 86, .int (S.2 (v3_1 + 1).toNatClampNeg), .int (S.2 (v3_1 + 2).toNatClampNeg), .int (S.2 (v3_1 + 3).toNatClampNeg)]) (u := (691, [(0, .ref 0), (1, .ref 1), (2, .ref 86), (3, .int v3_1)], [.int x57], zh, M58)) rfl ⟨rfl, rfl⟩ rfl (qM_buys_ok (S := S) (M := M58) e260) ?_
      show zF S 212 (691, [(0, .ref 0), (1, .ref 1), (2, .ref 86), (3, .int v3_1)], [.int x59, .int x57], zh, M58) _ _
      refine zF_eq (t := 1353) (u := (694, [(0, .ref 0), (1, .ref 1), (2, .ref 86), (3, .int v3_1)], [], zh, M58)) rfl (fun c261 => ?_) (fun c261 => ?_)
      · rw [if_pos c261] at h
        refine zF_go (n := 2) (ps := []) (s' := (18, [(3, .int (v3_1 + 7)), (0, .ref 0), (1, .ref 1), (2, .ref 86)], [], zh, M58)) rfl trivial ?_
        exact zF_as (hrec3 _ _ h) rfl
      · rw [if_neg c261] at h
        refine zF_go (n := 1) (ps := []) (s' := (695, [(0, .ref 0), (1, .ref 1), (2, .ref 86), (3, .int v3_1)], [.int 0], zh, M58)) rfl trivial ?_
        cases h
        exact zF_ret rfl ⟨(Or.inl rfl), trivial⟩
    rw [if_neg c252] at h
    by_cases c262 : ((S.2 v3_1.toNatClampNeg) &&& 63) = 15
    · rw [if_pos c262] at h
      refine zF_sw (t := 696) (lv := [(0, .ref 0), (1, .ref 1), (2, .ref 86), (3, .int v3_1)]) (st := []) (M := M2) rfl (by rw [c262]; rfl) ?_
      obtain ⟨g263, h⟩ := zq_some h
      refine zF_go (n := 6) (ps := [vp_in (v3_1 + 1) S.1]) (s' := (702, [(0, .ref 0), (1, .ref 1), (2, .ref 86), (3, .int v3_1)], [.int (S.2 (v3_1 + 1).toNatClampNeg), .ref 1], zh, M2)) rfl ⟨g263, trivial⟩ ?_
      obtain ⟨x60, M61, e264, h⟩ := zb2_some h
      refine zF_call (y' := 102) (as := [.ref 1, .int (S.2 (v3_1 + 1).toNatClampNeg)]) (u := (705, [(0, .ref 0), (1, .ref 1), (2, .ref 86), (3, .int v3_1)], [], zh, M2)) rfl ⟨rfl, rfl⟩ rfl (qS_saves_ok (S := S) (M := M2) e264) ?_
      show zF S 212 (705, [(0, .ref 0), (1, .ref 1), (2, .ref 86), (3, .int v3_1)], [.long x60], zh, M61) _ _
      obtain ⟨g265, h⟩ := zq_some h
      refine zF_go (n := 6) (ps := [vp_in (v3_1 + 1) S.1]) (s' := (711, [(0, .ref 0), (1, .ref 1), (2, .ref 86), (3, .int v3_1)], [.int (S.2 (v3_1 + 1).toNatClampNeg), .ref 86, .long x60], zh, M61)) rfl ⟨g265, trivial⟩ ?_
      obtain ⟨x62, e266, h⟩ := zb_some h
      refine zF_call (y' := 170) (as := [.ref 86, .int (S.2 (v3_1 + 1).toNatClampNeg)]) (u := (714, [(0, .ref 0), (1, .ref 1), (2, .ref 86), (3, .int v3_1)], [.long x60], zh, M61)) rfl ⟨rfl, rfl⟩ rfl (qM_saves_ok (S := S) (M := M61) e266) ?_
      show zF S 212 (714, [(0, .ref 0), (1, .ref 1), (2, .ref 86), (3, .int v3_1)], [.long x62, .long x60], zh, M61) _ _
      refine zF_go (n := 1) (ps := []) (s' := (715, [(0, .ref 0), (1, .ref 1), (2, .ref 86), (3, .int v3_1)], [.int (lg_cmp x60 x62)], zh, M61)) rfl trivial ?_
      refine zF_eq (t := 1353) (u := (718, [(0, .ref 0), (1, .ref 1), (2, .ref 86), (3, .int v3_1)], [], zh, M61)) rfl (fun c267 => ?_) (fun c267 => ?_)
      · rw [if_pos c267] at h
        refine zF_go (n := 2) (ps := []) (s' := (18, [(3, .int (v3_1 + 7)), (0, .ref 0), (1, .ref 1), (2, .ref 86)], [], zh, M61)) rfl trivial ?_
        exact zF_as (hrec3 _ _ h) rfl
      · rw [if_neg c267] at h
        refine zF_go (n := 1) (ps := []) (s' := (719, [(0, .ref 0), (1, .ref 1), (2, .ref 86), (3, .int v3_1)], [.int 0], zh, M61)) rfl trivial ?_
        cases h
        exact zF_ret rfl ⟨(Or.inl rfl), trivial⟩
    rw [if_neg c262] at h
    by_cases c268 : ((S.2 v3_1.toNatClampNeg) &&& 63) = 16
    · rw [if_pos c268] at h
      refine zF_sw (t := 720) (lv := [(0, .ref 0), (1, .ref 1), (2, .ref 86), (3, .int v3_1)]) (st := []) (M := M2) rfl (by rw [c268]; rfl) ?_
      obtain ⟨g269, h⟩ := zq_some h
      refine zF_go (n := 6) (ps := [vp_in (v3_1 + 1) S.1]) (s' := (726, [(0, .ref 0), (1, .ref 1), (2, .ref 86), (3, .int v3_1)], [.int (S.2 (v3_1 + 1).toNatClampNeg), .ref 1], zh, M2)) rfl ⟨g269, trivial⟩ ?_
      obtain ⟨x63, M64, e270, h⟩ := zb2_some h
      refine zF_call (y' := 103) (as := [.ref 1, .int (S.2 (v3_1 + 1).toNatClampNeg)]) (u := (729, [(0, .ref 0), (1, .ref 1), (2, .ref 86), (3, .int v3_1)], [], zh, M2)) rfl ⟨rfl, rfl⟩ rfl (qS_left_ok (S := S) (M := M2) e270) ?_
      show zF S 212 (729, [(0, .ref 0), (1, .ref 1), (2, .ref 86), (3, .int v3_1)], [.long x63], zh, M64) _ _
      obtain ⟨g271, h⟩ := zq_some h
      refine zF_go (n := 6) (ps := [vp_in (v3_1 + 1) S.1]) (s' := (735, [(0, .ref 0), (1, .ref 1), (2, .ref 86), (3, .int v3_1)], [.int (S.2 (v3_1 + 1).toNatClampNeg), .ref 86, .long x63], zh, M64)) rfl ⟨g271, trivial⟩ ?_
      obtain ⟨x65, e272, h⟩ := zb_some h
      refine zF_call (y' := 173) (as := [.ref 86, .int (S.2 (v3_1 + 1).toNatClampNeg)]) (u := (738, [(0, .ref 0), (1, .ref 1), (2, .ref 86), (3, .int v3_1)], [.long x63], zh, M64)) rfl ⟨rfl, rfl⟩ rfl (qM_left_ok (S := S) (M := M64) e272) ?_
      show zF S 212 (738, [(0, .ref 0), (1, .ref 1), (2, .ref 86), (3, .int v3_1)], [.long x65, .long x63], zh, M64) _ _
      refine zF_go (n := 1) (ps := []) (s' := (739, [(0, .ref 0), (1, .ref 1), (2, .ref 86), (3, .int v3_1)], [.int (lg_cmp x63 x65)], zh, M64)) rfl trivial ?_
      refine zF_eq (t := 1353) (u := (742, [(0, .ref 0), (1, .ref 1), (2, .ref 86), (3, .int v3_1)], [], zh, M64)) rfl (fun c273 => ?_) (fun c273 => ?_)
      · rw [if_pos c273] at h
        refine zF_go (n := 2) (ps := []) (s' := (18, [(3, .int (v3_1 + 7)), (0, .ref 0), (1, .ref 1), (2, .ref 86)], [], zh, M64)) rfl trivial ?_
        exact zF_as (hrec3 _ _ h) rfl
      · rw [if_neg c273] at h
        refine zF_go (n := 1) (ps := []) (s' := (743, [(0, .ref 0), (1, .ref 1), (2, .ref 86), (3, .int v3_1)], [.int 0], zh, M64)) rfl trivial ?_
        cases h
        exact zF_ret rfl ⟨(Or.inl rfl), trivial⟩
    rw [if_neg c268] at h
    by_cases c274 : ((S.2 v3_1.toNatClampNeg) &&& 63) = 17
    · rw [if_pos c274] at h
      refine zF_sw (t := 744) (lv := [(0, .ref 0), (1, .ref 1), (2, .ref 86), (3, .int v3_1)]) (st := []) (M := M2) rfl (by rw [c274]; rfl) ?_
      obtain ⟨g275, h⟩ := zq_some h
      refine zF_go (n := 6) (ps := [vp_in (v3_1 + 1) S.1]) (s' := (750, [(0, .ref 0), (1, .ref 1), (2, .ref 86), (3, .int v3_1)], [.int (S.2 (v3_1 + 1).toNatClampNeg), .ref 1], zh, M2)) rfl ⟨g275, trivial⟩ ?_
      obtain ⟨x66, e276, h⟩ := zb_some h
      refine zF_call (y' := 104) (as := [.ref 1, .int (S.2 (v3_1 + 1).toNatClampNeg)]) (u := (753, [(0, .ref 0), (1, .ref 1), (2, .ref 86), (3, .int v3_1)], [], zh, M2)) rfl ⟨rfl, rfl⟩ rfl (qS_row_ok (S := S) (M := M2) e276) ?_
      show zF S 212 (753, [(0, .ref 0), (1, .ref 1), (2, .ref 86), (3, .int v3_1)], [.int x66], zh, M2) _ _
      obtain ⟨g277, h⟩ := zq_some h
      refine zF_go (n := 6) (ps := [vp_in (v3_1 + 1) S.1]) (s' := (759, [(0, .ref 0), (1, .ref 1), (2, .ref 86), (3, .int v3_1)], [.int (S.2 (v3_1 + 1).toNatClampNeg), .ref 86, .int x66], zh, M2)) rfl ⟨g277, trivial⟩ ?_
      obtain ⟨x67, e278, h⟩ := zb_some h
      refine zF_call (y' := 177) (as := [.ref 86, .int (S.2 (v3_1 + 1).toNatClampNeg)]) (u := (762, [(0, .ref 0), (1, .ref 1), (2, .ref 86), (3, .int v3_1)], [.int x66], zh, M2)) rfl ⟨rfl, rfl⟩ rfl (qM_row_ok (S := S) (M := M2) e278) ?_
      show zF S 212 (762, [(0, .ref 0), (1, .ref 1), (2, .ref 86), (3, .int v3_1)], [.int x67, .int x66], zh, M2) _ _
      refine zF_eq (t := 1353) (u := (765, [(0, .ref 0), (1, .ref 1), (2, .ref 86), (3, .int v3_1)], [], zh, M2)) rfl (fun c279 => ?_) (fun c279 => ?_)
      · rw [if_pos c279] at h
        refine zF_go (n := 2) (ps := []) (s' := (18, [(3, .int (v3_1 + 7)), (0, .ref 0), (1, .ref 1), (2, .ref 86)], [], zh, M2)) rfl trivial ?_
        exact zF_as (hrec3 _ _ h) rfl
      · rw [if_neg c279] at h
        refine zF_go (n := 1) (ps := []) (s' := (766, [(0, .ref 0), (1, .ref 1), (2, .ref 86), (3, .int v3_1)], [.int 0], zh, M2)) rfl trivial ?_
        cases h
        exact zF_ret rfl ⟨(Or.inl rfl), trivial⟩
    rw [if_neg c274] at h
    by_cases c280 : ((S.2 v3_1.toNatClampNeg) &&& 63) = 18
    · rw [if_pos c280] at h
      refine zF_sw (t := 767) (lv := [(0, .ref 0), (1, .ref 1), (2, .ref 86), (3, .int v3_1)]) (st := []) (M := M2) rfl (by rw [c280]; rfl) ?_
      obtain ⟨g281, h⟩ := zq_some h
      refine zF_go (n := 6) (ps := [vp_in (v3_1 + 1) S.1]) (s' := (773, [(0, .ref 0), (1, .ref 1), (2, .ref 86), (3, .int v3_1)], [.int (S.2 (v3_1 + 1).toNatClampNeg), .ref 1], zh, M2)) rfl ⟨g281, trivial⟩ ?_
      obtain ⟨x68, M69, e282, h⟩ := zb2_some h
      refine zF_call (y' := 105) (as := [.ref 1, .int (S.2 (v3_1 + 1).toNatClampNeg)]) (u := (776, [(0, .ref 0), (1, .ref 1), (2, .ref 86), (3, .int v3_1)], [], zh, M2)) rfl ⟨rfl, rfl⟩ rfl (qS_best_ok (S := S) (M := M2) e282) ?_
      show zF S 212 (776, [(0, .ref 0), (1, .ref 1), (2, .ref 86), (3, .int v3_1)], [.int x68], zh, M69) _ _
      obtain ⟨g283, h⟩ := zq_some h
      refine zF_go (n := 6) (ps := [vp_in (v3_1 + 1) S.1]) (s' := (782, [(0, .ref 0), (1, .ref 1), (2, .ref 86), (3, .int v3_1)], [.int (S.2 (v3_1 + 1).toNatClampNeg), .ref 86, .int x68], zh, M69)) rfl ⟨g283, trivial⟩ ?_
      obtain ⟨x70, M71, e284, h⟩ := zb2_some h
      refine zF_call (y' := 180) (as := [.ref 86, .int (S.2 (v3_1 + 1).toNatClampNeg)]) (u := (785, [(0, .ref 0), (1, .ref 1), (2, .ref 86), (3, .int v3_1)], [.int x68], zh, M69)) rfl ⟨rfl, rfl⟩ rfl (qM_best_ok (S := S) (M := M69) e284) ?_
      show zF S 212 (785, [(0, .ref 0), (1, .ref 1), (2, .ref 86), (3, .int v3_1)], [.int x70, .int x68], zh, M71) _ _
      refine zF_eq (t := 1353) (u := (788, [(0, .ref 0), (1, .ref 1), (2, .ref 86), (3, .int v3_1)], [], zh, M71)) rfl (fun c285 => ?_) (fun c285 => ?_)
      · rw [if_pos c285] at h
        refine zF_go (n := 2) (ps := []) (s' := (18, [(3, .int (v3_1 + 7)), (0, .ref 0), (1, .ref 1), (2, .ref 86)], [], zh, M71)) rfl trivial ?_
        exact zF_as (hrec3 _ _ h) rfl
      · rw [if_neg c285] at h
        refine zF_go (n := 1) (ps := []) (s' := (789, [(0, .ref 0), (1, .ref 1), (2, .ref 86), (3, .int v3_1)], [.int 0], zh, M71)) rfl trivial ?_
        cases h
        exact zF_ret rfl ⟨(Or.inl rfl), trivial⟩
    rw [if_neg c280] at h
    by_cases c286 : ((S.2 v3_1.toNatClampNeg) &&& 63) = 19
    · rw [if_pos c286] at h
      refine zF_sw (t := 790) (lv := [(0, .ref 0), (1, .ref 1), (2, .ref 86), (3, .int v3_1)]) (st := []) (M := M2) rfl (by rw [c286]; rfl) ?_
      obtain ⟨g287, h⟩ := zq_some h
      obtain ⟨g288, h⟩ := zq_some h
      refine zF_go (n := 11) (ps := [vp_in (v3_1 + 1) S.1, vp_in (v3_1 + 2) S.1]) (s' := (801, [(0, .ref 0), (1, .ref 1), (2, .ref 86), (3, .int v3_1)], [.int (S.2 (v3_1 + 2).toNatClampNeg), .int (S.2 (v3_1 + 1).toNatClampNeg), .ref 1], zh, M2)) rfl ⟨g287, g288, trivial⟩ ?_
      obtain ⟨x72, M73, e289, h⟩ := zb2_some h
      refine zF_call (y' := 106) (as := [.ref 1, .int (S.2 (v3_1 + 1).toNatClampNeg), .int (S.2 (v3_1 + 2).toNatClampNeg)]) (u := (804, [(0, .ref 0), (1, .ref 1), (2, .ref 86), (3, .int v3_1)], [], zh, M2)) rfl ⟨rfl, rfl⟩ rfl (qS_most_ok (S := S) (M := M2) e289) ?_
      show zF S 212 (804, [(0, .ref 0), (1, .ref 1), (2, .ref 86), (3, .int v3_1)], [.long x72], zh, M73) _ _
      obtain ⟨g290, h⟩ := zq_some h
      obtain ⟨g291, h⟩ := zq_some h
      refine zF_go (n := 11) (ps := [vp_in (v3_1 + 1) S.1, vp_in (v3_1 + 2) S.1]) (s' := (815, [(0, .ref 0), (1, .ref 1), (2, .ref 86), (3, .int v3_1)], [.int (S.2 (v3_1 + 2).toNatClampNeg), .int (S.2 (v3_1 + 1).toNatClampNeg), .ref 86, .long x72], zh, M73)) rfl ⟨g290, g291, trivial⟩ ?_
      obtain ⟨x74, M75, e292, h⟩ := zb2_some h
      refine zF_call (y' := 184) (as := [.ref 86, .int (S.2 (v3_1 + 1).toNatClampNeg), .int (S.2 (v3_1 + 2).toNatClampNeg)]) (u := (818, [(0, .ref 0), (1, .ref 1), (2, .ref 86), (3, .int v3_1)], [.long x72], zh, M73)) rfl ⟨rfl, rfl⟩ rfl (qM_most_ok (S := S) (M := M73) e292) ?_
      show zF S 212 (818, [(0, .ref 0), (1, .ref 1), (2, .ref 86), (3, .int v3_1)], [.long x74, .long x72], zh, M75) _ _
      refine zF_go (n := 1) (ps := []) (s' := (819, [(0, .ref 0), (1, .ref 1), (2, .ref 86), (3, .int v3_1)], [.int (lg_cmp x72 x74)], zh, M75)) rfl trivial ?_
      refine zF_eq (t := 1353) (u := (822, [(0, .ref 0), (1, .ref 1), (2, .ref 86), (3, .int v3_1)], [], zh, M75)) rfl (fun c293 => ?_) (fun c293 => ?_)
      · rw [if_pos c293] at h
        refine zF_go (n := 2) (ps := []) (s' := (18, [(3, .int (v3_1 + 7)), (0, .ref 0), (1, .ref 1), (2, .ref 86)], [], zh, M75)) rfl trivial ?_
        exact zF_as (hrec3 _ _ h) rfl
      · rw [if_neg c293] at h
        refine zF_go (n := 1) (ps := []) (s' := (823, [(0, .ref 0), (1, .ref 1), (2, .ref 86), (3, .int v3_1)], [.int 0], zh, M75)) rfl trivial ?_
        cases h
        exact zF_ret rfl ⟨(Or.inl rfl), trivial⟩
    rw [if_neg c286] at h
    by_cases c294 : ((S.2 v3_1.toNatClampNeg) &&& 63) = 20
    · rw [if_pos c294] at h
      refine zF_sw (t := 824) (lv := [(0, .ref 0), (1, .ref 1), (2, .ref 86), (3, .int v3_1)]) (st := []) (M := M2) rfl (by rw [c294]; rfl) ?_
      obtain ⟨g295, h⟩ := zq_some h
      refine zF_go (n := 6) (ps := [vp_in (v3_1 + 1) S.1]) (s' := (830, [(0, .ref 0), (1, .ref 1), (2, .ref 86), (3, .int v3_1)], [.int (S.2 (v3_1 + 1).toNatClampNeg), .ref 1], zh, M2)) rfl ⟨g295, trivial⟩ ?_
      obtain ⟨x76, M77, e296, h⟩ := zb2_some h
      refine zF_call (y' := 107) (as := [.ref 1, .int (S.2 (v3_1 + 1).toNatClampNeg)]) (u := (833, [(0, .ref 0), (1, .ref 1), (2, .ref 86), (3, .int v3_1)], [], zh, M2)) rfl ⟨rfl, rfl⟩ rfl (qS_climb_ok (S := S) (M := M2) e296) ?_
      show zF S 212 (833, [(0, .ref 0), (1, .ref 1), (2, .ref 86), (3, .int v3_1)], [.int x76], zh, M77) _ _
      obtain ⟨g297, h⟩ := zq_some h
      refine zF_go (n := 6) (ps := [vp_in (v3_1 + 1) S.1]) (s' := (839, [(0, .ref 0), (1, .ref 1), (2, .ref 86), (3, .int v3_1)], [.int (S.2 (v3_1 + 1).toNatClampNeg), .ref 86, .int x76], zh, M77)) rfl ⟨g297, trivial⟩ ?_
      obtain ⟨x78, M79, e298, h⟩ := zb2_some h
      refine zF_call (y' := 182) (as := [.ref 86, .int (S.2 (v3_1 + 1).toNatClampNeg)]) (u := (842, [(0, .ref 0), (1, .ref 1), (2, .ref 86), (3, .int v3_1)], [.int x76], zh, M77)) rfl ⟨rfl, rfl⟩ rfl (qM_climb_ok (S := S) (M := M77) e298) ?_
      show zF S 212 (842, [(0, .ref 0), (1, .ref 1), (2, .ref 86), (3, .int v3_1)], [.int x78, .int x76], zh, M79) _ _
      refine zF_eq (t := 1353) (u := (845, [(0, .ref 0), (1, .ref 1), (2, .ref 86), (3, .int v3_1)], [], zh, M79)) rfl (fun c299 => ?_) (fun c299 => ?_)
      · rw [if_pos c299] at h
        refine zF_go (n := 2) (ps := []) (s' := (18, [(3, .int (v3_1 + 7)), (0, .ref 0), (1, .ref 1), (2, .ref 86)], [], zh, M79)) rfl trivial ?_
        exact zF_as (hrec3 _ _ h) rfl
      · rw [if_neg c299] at h
        refine zF_go (n := 1) (ps := []) (s' := (846, [(0, .ref 0), (1, .ref 1), (2, .ref 86), (3, .int v3_1)], [.int 0], zh, M79)) rfl trivial ?_
        cases h
        exact zF_ret rfl ⟨(Or.inl rfl), trivial⟩
    rw [if_neg c294] at h
    by_cases c300 : ((S.2 v3_1.toNatClampNeg) &&& 63) = 21
    · rw [if_pos c300] at h
      refine zF_sw (t := 847) (lv := [(0, .ref 0), (1, .ref 1), (2, .ref 86), (3, .int v3_1)]) (st := []) (M := M2) rfl (by rw [c300]; rfl) ?_
      obtain ⟨g301, h⟩ := zq_some h
      refine zF_go (n := 6) (ps := [vp_in (v3_1 + 1) S.1]) (s' := (853, [(0, .ref 0), (1, .ref 1), (2, .ref 86), (3, .int v3_1)], [.int (S.2 (v3_1 + 1).toNatClampNeg), .ref 1], zh, M2)) rfl ⟨g301, trivial⟩ ?_
      obtain ⟨x80, M81, e302, h⟩ := zb2_some h
      refine zF_call (y' := 108) (as := [.ref 1, .int (S.2 (v3_1 + 1).toNatClampNeg)]) (u := (856, [(0, .ref 0), (1, .ref 1), (2, .ref 86), (3, .int v3_1)], [], zh, M2)) rfl ⟨rfl, rfl⟩ rfl (qS_lures_ok (S := S) (M := M2) e302) ?_
      show zF S 212 (856, [(0, .ref 0), (1, .ref 1), (2, .ref 86), (3, .int v3_1)], [.int x80], zh, M81) _ _
      obtain ⟨g303, h⟩ := zq_some h
      refine zF_go (n := 6) (ps := [vp_in (v3_1 + 1) S.1]) (s' := (862, [(0, .ref 0), (1, .ref 1), (2, .ref 86), (3, .int v3_1)], [.int (S.2 (v3_1 + 1).toNatClampNeg), .ref 86, .int x80], zh, M81)) rfl ⟨g303, trivial⟩ ?_
      obtain ⟨x82, M83, e304, h⟩ := zb2_some h
      refine zF_call (y' := 185) (as := [.ref 86, .int (S.2 (v3_1 + 1).toNatClampNeg)]) (u := (865, [(0, .ref 0), (1, .ref 1), (2, .ref 86), (3, .int v3_1)], [.int x80], zh, M81)) rfl ⟨rfl, rfl⟩ rfl (qM_lures_ok (S := S) (M := M81) e304) ?_
      show zF S 212 (865, [(0, .ref 0), (1, .ref 1), (2, .ref 86), (3, .int v3_1)], [.int x82, .int x80], zh, M83) _ _
      refine zF_eq (t := 1353) (u := (868, [(0, .ref 0), (1, .ref 1), (2, .ref 86), (3, .int v3_1)], [], zh, M83)) rfl (fun c305 => ?_) (fun c305 => ?_)
      · rw [if_pos c305] at h
        refine zF_go (n := 2) (ps := []) (s' := (18, [(3, .int (v3_1 + 7)), (0, .ref 0), (1, .ref 1), (2, .ref 86)], [], zh, M83)) rfl trivial ?_
        exact zF_as (hrec3 _ _ h) rfl
      · rw [if_neg c305] at h
        refine zF_go (n := 1) (ps := []) (s' := (869, [(0, .ref 0), (1, .ref 1), (2, .ref 86), (3, .int v3_1)], [.int 0], zh, M83)) rfl trivial ?_
        cases h
        exact zF_ret rfl ⟨(Or.inl rfl), trivial⟩
    rw [if_neg c300] at h
    by_cases c306 : ((S.2 v3_1.toNatClampNeg) &&& 63) = 22
    · rw [if_pos c306] at h
      refine zF_sw (t := 870) (lv := [(0, .ref 0), (1, .ref 1), (2, .ref 86), (3, .int v3_1)]) (st := []) (M := M2) rfl (by rw [c306]; rfl) ?_
      obtain ⟨g307, h⟩ := zq_some h
      obtain ⟨g308, h⟩ := zq_some h
      refine zF_go (n := 11) (ps := [vp_in (v3_1 + 1) S.1, vp_in (v3_1 + 2) S.1]) (s' := (881, [(0, .ref 0), (1, .ref 1), (2, .ref 86), (3, .int v3_1)], [.int (S.2 (v3_1 + 2).toNatClampNeg), .int (S.2 (v3_1 + 1).toNatClampNeg), .ref 1], zh, M2)) rfl ⟨g307, g308, trivial⟩ ?_
      obtain ⟨x84, M85, e309, h⟩ := zb2_some h
      refine zF_call (y' := 109) (as := [.ref 1, .int (S.2 (v3_1 + 1).toNatClampNeg), .int (S.2 (v3_1 + 2).toNatClampNeg)]) (u := (884, [(0, .ref 0), (1, .ref 1), (2, .ref 86), (3, .int v3_1)], [], zh, M2)) rfl ⟨rfl, rfl⟩ rfl (qS_brings_ok (S := S) (M := M2) e309) ?_
      show zF S 212 (884, [(0, .ref 0), (1, .ref 1), (2, .ref 86), (3, .int v3_1)], [.long x84], zh, M85) _ _
      obtain ⟨g310, h⟩ := zq_some h
      obtain ⟨g311, h⟩ := zq_some h
      refine zF_go (n := 11) (ps := [vp_in (v3_1 + 1) S.1, vp_in (v3_1 + 2) S.1]) (s' := (895, [(0, .ref 0), (1, .ref 1), (2, .ref 86), (3, .int v3_1)], [.int (S.2 (v3_1 + 2).toNatClampNeg), .int (S.2 (v3_1 + 1).toNatClampNeg), .ref 86, .long x84], zh, M85)) rfl ⟨g310, g311, trivial⟩ ?_
      obtain ⟨x86, M87, e312, h⟩ := zb2_some h
      refine zF_call (y' := 186) (as := [.ref 86, .int (S.2 (v3_1 + 1).toNatClampNeg), .int (S.2 (v3_1 + 2).toNatClampNeg)]) (u := (898, [(0, .ref 0), (1, .ref 1), (2, .ref 86), (3, .int v3_1)], [.long x84], zh, M85)) rfl ⟨rfl, rfl⟩ rfl (qM_brings_ok (S := S) (M := M85) e312) ?_
      show zF S 212 (898, [(0, .ref 0), (1, .ref 1), (2, .ref 86), (3, .int v3_1)], [.long x86, .long x84], zh, M87) _ _
      refine zF_go (n := 1) (ps := []) (s' := (899, [(0, .ref 0), (1, .ref 1), (2, .ref 86), (3, .int v3_1)], [.int (lg_cmp x84 x86)], zh, M87)) rfl trivial ?_
      refine zF_eq (t := 1353) (u := (902, [(0, .ref 0), (1, .ref 1), (2, .ref 86), (3, .int v3_1)], [], zh, M87)) rfl (fun c313 => ?_) (fun c313 => ?_)
      · rw [if_pos c313] at h
        refine zF_go (n := 2) (ps := []) (s' := (18, [(3, .int (v3_1 + 7)), (0, .ref 0), (1, .ref 1), (2, .ref 86)], [], zh, M87)) rfl trivial ?_
        exact zF_as (hrec3 _ _ h) rfl
      · rw [if_neg c313] at h
        refine zF_go (n := 1) (ps := []) (s' := (903, [(0, .ref 0), (1, .ref 1), (2, .ref 86), (3, .int v3_1)], [.int 0], zh, M87)) rfl trivial ?_
        cases h
        exact zF_ret rfl ⟨(Or.inl rfl), trivial⟩
    rw [if_neg c306] at h
    by_cases c314 : ((S.2 v3_1.toNatClampNeg) &&& 63) = 23
    · rw [if_pos c314] at h
      refine zF_sw (t := 904) (lv := [(0, .ref 0), (1, .ref 1), (2, .ref 86), (3, .int v3_1)]) (st := []) (M := M2) rfl (by rw [c314]; rfl) ?_
      obtain ⟨g315, h⟩ := zq_some h
      refine zF_go (n := 6) (ps := [vp_in (v3_1 + 1) S.1]) (s' := (910, [(0, .ref 0), (1, .ref 1), (2, .ref 86), (3, .int v3_1)], [.int (S.2 (v3_1 + 1).toNatClampNeg), .ref 1], zh, M2)) rfl ⟨g315, trivial⟩ ?_
      obtain ⟨x88, M89, e316, h⟩ := zb2_some h
      refine zF_call (y' := 110) (as := [.ref 1, .int (S.2 (v3_1 + 1).toNatClampNeg)]) (u := (913, [(0, .ref 0), (1, .ref 1), (2, .ref 86), (3, .int v3_1)], [], zh, M2)) rfl ⟨rfl, rfl⟩ rfl (qS_only_ok (S := S) (M := M2) e316) ?_
      show zF S 212 (913, [(0, .ref 0), (1, .ref 1), (2, .ref 86), (3, .int v3_1)], [.int x88], zh, M89) _ _
      obtain ⟨g317, h⟩ := zq_some h
      refine zF_go (n := 6) (ps := [vp_in (v3_1 + 1) S.1]) (s' := (919, [(0, .ref 0), (1, .ref 1), (2, .ref 86), (3, .int v3_1)], [.int (S.2 (v3_1 + 1).toNatClampNeg), .ref 86, .int x88], zh, M89)) rfl ⟨g317, trivial⟩ ?_
      obtain ⟨x90, e318, h⟩ := zb_some h
      refine zF_call (y' := 187) (as := [.ref 86, .int (S.2 (v3_1 + 1).toNatClampNeg)]) (u := (922, [(0, .ref 0), (1, .ref 1), (2, .ref 86), (3, .int v3_1)], [.int x88], zh, M89)) rfl ⟨rfl, rfl⟩ rfl (qM_only_ok (S := S) (M := M89) e318) ?_
      show zF S 212 (922, [(0, .ref 0), (1, .ref 1), (2, .ref 86), (3, .int v3_1)], [.int x90, .int x88], zh, M89) _ _
      refine zF_eq (t := 1353) (u := (925, [(0, .ref 0), (1, .ref 1), (2, .ref 86), (3, .int v3_1)], [], zh, M89)) rfl (fun c319 => ?_) (fun c319 => ?_)
      · rw [if_pos c319] at h
        refine zF_go (n := 2) (ps := []) (s' := (18, [(3, .int (v3_1 + 7)), (0, .ref 0), (1, .ref 1), (2, .ref 86)], [], zh, M89)) rfl trivial ?_
        exact zF_as (hrec3 _ _ h) rfl
      · rw [if_neg c319] at h
        refine zF_go (n := 1) (ps := []) (s' := (926, [(0, .ref 0), (1, .ref 1), (2, .ref 86), (3, .int v3_1)], [.int 0], zh, M89)) rfl trivial ?_
        cases h
        exact zF_ret rfl ⟨(Or.inl rfl), trivial⟩
    rw [if_neg c314] at h
    by_cases c320 : ((S.2 v3_1.toNatClampNeg) &&& 63) = 24
    · rw [if_pos c320] at h
      refine zF_sw (t := 927) (lv := [(0, .ref 0), (1, .ref 1), (2, .ref 86), (3, .int v3_1)]) (st := []) (M := M2) rfl (by rw [c320]; rfl) ?_
      obtain ⟨g321, h⟩ := zq_some h
      refine zF_go (n := 6) (ps := [vp_in (v3_1 + 1) S.1]) (s' := (933, [(0, .ref 0), (1, .ref 1), (2, .ref 86), (3, .int v3_1)], [.int (S.2 (v3_1 + 1).toNatClampNeg), .ref 1], zh, M2)) rfl ⟨g321, trivial⟩ ?_
      obtain ⟨x91, M92, e322, h⟩ := zb2_some h
      refine zF_call (y' := 111) (as := [.ref 1, .int (S.2 (v3_1 + 1).toNatClampNeg)]) (u := (936, [(0, .ref 0), (1, .ref 1), (2, .ref 86), (3, .int v3_1)], [], zh, M2)) rfl ⟨rfl, rfl⟩ rfl (qS_rest_ok (S := S) (M := M2) e322) ?_
      show zF S 212 (936, [(0, .ref 0), (1, .ref 1), (2, .ref 86), (3, .int v3_1)], [.int x91], zh, M92) _ _
      obtain ⟨g323, h⟩ := zq_some h
      refine zF_go (n := 6) (ps := [vp_in (v3_1 + 1) S.1]) (s' := (942, [(0, .ref 0), (1, .ref 1), (2, .ref 86), (3, .int v3_1)], [.int (S.2 (v3_1 + 1).toNatClampNeg), .ref 86, .int x91], zh, M92)) rfl ⟨g323, trivial⟩ ?_
      obtain ⟨x93, M94, e324, h⟩ := zb2_some h
      refine zF_call (y' := 191) (as := [.ref 86, .int (S.2 (v3_1 + 1).toNatClampNeg)]) (u := (945, [(0, .ref 0), (1, .ref 1), (2, .ref 86), (3, .int v3_1)], [.int x91], zh, M92)) rfl ⟨rfl, rfl⟩ rfl (qM_rest_ok (S := S) (M := M92) e324) ?_
      show zF S 212 (945, [(0, .ref 0), (1, .ref 1), (2, .ref 86), (3, .int v3_1)], [.int x93, .int x91], zh, M94) _ _
      refine zF_eq (t := 1353) (u := (948, [(0, .ref 0), (1, .ref 1), (2, .ref 86), (3, .int v3_1)], [], zh, M94)) rfl (fun c325 => ?_) (fun c325 => ?_)
      · rw [if_pos c325] at h
        refine zF_go (n := 2) (ps := []) (s' := (18, [(3, .int (v3_1 + 7)), (0, .ref 0), (1, .ref 1), (2, .ref 86)], [], zh, M94)) rfl trivial ?_
        exact zF_as (hrec3 _ _ h) rfl
      · rw [if_neg c325] at h
        refine zF_go (n := 1) (ps := []) (s' := (949, [(0, .ref 0), (1, .ref 1), (2, .ref 86), (3, .int v3_1)], [.int 0], zh, M94)) rfl trivial ?_
        cases h
        exact zF_ret rfl ⟨(Or.inl rfl), trivial⟩
    rw [if_neg c320] at h
    by_cases c326 : ((S.2 v3_1.toNatClampNeg) &&& 63) = 25
    · rw [if_pos c326] at h
      refine zF_sw (t := 950) (lv := [(0, .ref 0), (1, .ref 1), (2, .ref 86), (3, .int v3_1)]) (st := []) (M := M2) rfl (by rw [c326]; rfl) ?_
      obtain ⟨g327, h⟩ := zq_some h
      obtain ⟨g328, h⟩ := zq_some h
      refine zF_go (n := 11) (ps := [vp_in (v3_1 + 1) S.1, vp_in (v3_1 + 2) S.1]) (s' := (961, [(0, .ref 0), (1, .ref 1), (2, .ref 86), (3, .int v3_1)], [.int (S.2 (v3_1 + 2).toNatClampNeg), .int (S.2 (v3_1 + 1).toNatClampNeg), .ref 1], zh, M2)) rfl ⟨g327, g328, trivial⟩ ?_
      obtain ⟨x95, M96, e329, h⟩ := zb2_some h
      refine zF_call (y' := 112) (as := [.ref 1, .int (S.2 (v3_1 + 1).toNatClampNeg), .int (S.2 (v3_1 + 2).toNatClampNeg)]) (u := (964, [(0, .ref 0), (1, .ref 1), (2, .ref 86), (3, .int v3_1)], [], zh, M2)) rfl ⟨rfl, rfl⟩ rfl (qS_ring_ok (S := S) (M := M2) e329) ?_
      show zF S 212 (964, [(0, .ref 0), (1, .ref 1), (2, .ref 86), (3, .int v3_1)], [.int x95], zh, M96) _ _
      obtain ⟨g330, h⟩ := zq_some h
      obtain ⟨g331, h⟩ := zq_some h
      refine zF_go (n := 11) (ps := [vp_in (v3_1 + 1) S.1, vp_in (v3_1 + 2) S.1]) (s' := (975, [(0, .ref 0), (1, .ref 1), (2, .ref 86), (3, .int v3_1)], [.int (S.2 (v3_1 + 2).toNatClampNeg), .int (S.2 (v3_1 + 1).toNatClampNeg), .ref 86, .int x95], zh, M96)) rfl ⟨g330, g331, trivial⟩ ?_
      obtain ⟨x97, M98, e332, h⟩ := zb2_some h
      refine zF_call (y' := 193) (as := [.ref 86, .int (S.2 (v3_1 + 1).toNatClampNeg), .int (S.2 (v3_1 + 2).toNatClampNeg)]) (u := (978, [(0, .ref 0), (1, .ref 1), (2, .ref 86), (3, .int v3_1)], [.int x95], zh, M96)) rfl ⟨rfl, rfl⟩ rfl (qM_ring_ok (S := S) (M := M96) e332) ?_
      show zF S 212 (978, [(0, .ref 0), (1, .ref 1), (2, .ref 86), (3, .int v3_1)], [.int x97, .int x95], zh, M98) _ _
      refine zF_eq (t := 1353) (u := (981, [(0, .ref 0), (1, .ref 1), (2, .ref 86), (3, .int v3_1)], [], zh, M98)) rfl (fun c333 => ?_) (fun c333 => ?_)
      · rw [if_pos c333] at h
        refine zF_go (n := 2) (ps := []) (s' := (18, [(3, .int (v3_1 + 7)), (0, .ref 0), (1, .ref 1), (2, .ref 86)], [], zh, M98)) rfl trivial ?_
        exact zF_as (hrec3 _ _ h) rfl
      · rw [if_neg c333] at h
        refine zF_go (n := 1) (ps := []) (s' := (982, [(0, .ref 0), (1, .ref 1), (2, .ref 86), (3, .int v3_1)], [.int 0], zh, M98)) rfl trivial ?_
        cases h
        exact zF_ret rfl ⟨(Or.inl rfl), trivial⟩
    rw [if_neg c326] at h
    by_cases c334 : ((S.2 v3_1.toNatClampNeg) &&& 63) = 26
    · rw [if_pos c334] at h
      refine zF_sw (t := 983) (lv := [(0, .ref 0), (1, .ref 1), (2, .ref 86), (3, .int v3_1)]) (st := []) (M := M2) rfl (by rw [c334]; rfl) ?_
      obtain ⟨g335, h⟩ := zq_some h
      obtain ⟨g336, h⟩ := zq_some h
      refine zF_go (n := 11) (ps := [vp_in (v3_1 + 1) S.1, vp_in (v3_1 + 2) S.1]) (s' := (994, [(0, .ref 0), (1, .ref 1), (2, .ref 86), (3, .int v3_1)], [.int (S.2 (v3_1 + 2).toNatClampNeg), .int (S.2 (v3_1 + 1).toNatClampNeg), .ref 1], zh, M2)) rfl ⟨g335, g336, trivial⟩ ?_
      obtain ⟨x99, M100, e337, h⟩ := zb2_some h
      refine zF_call (y' := 113) (as := [.ref 1, .int (S.2 (v3_1 + 1).toNatClampNeg), .int (S.2 (v3_1 + 2).toNatClampNeg)]) (u := (997, [(0, .ref 0), (1, .ref 1), (2, .ref 86), (3, .int v3_1)], [], zh, M2)) rfl ⟨rfl, rfl⟩ rfl (qS_heads_ok (S := S) (M := M2) e337) ?_
      show zF S 212 (997, [(0, .ref 0), (1, .ref 1), (2, .ref 86), (3, .int v3_1)], [.int x99], zh, M100) _ _
      obtain ⟨g338, h⟩ := zq_some h
      obtain ⟨g339, h⟩ := zq_some h
      refine zF_go (n := 11) (ps := [vp_in (v3_1 + 1) S.1, vp_in (v3_1 + 2) S.1]) (s' := (1008, [(0, .ref 0), (1, .ref 1), (2, .ref 86), (3, .int v3_1)], [.int (S.2 (v3_1 + 2).toNatClampNeg), .int (S.2 (v3_1 + 1).toNatClampNeg), .ref 86, .int x99], zh, M100)) rfl ⟨g338, g339, trivial⟩ ?_
      obtain ⟨x101, M102, e340, h⟩ := zb2_some h
      refine zF_call (y' := 194) (as := [.ref 86, .int (S.2 (v3_1 + 1).toNatClampNeg), .int (S.2 (v3_1 + 2).toNatClampNeg)]) (u := (1011, [(0, .ref 0), (1, .ref 1), (2, .ref 86), (3, .int v3_1)], [.int x99], zh, M100)) rfl ⟨rfl, rfl⟩ rfl (qM_heads_ok (S := S) (M := M100) e340) ?_
      show zF S 212 (1011, [(0, .ref 0), (1, .ref 1), (2, .ref 86), (3, .int v3_1)], [.int x101, .int x99], zh, M102) _ _
      refine zF_eq (t := 1353) (u := (1014, [(0, .ref 0), (1, .ref 1), (2, .ref 86), (3, .int v3_1)], [], zh, M102)) rfl (fun c341 => ?_) (fun c341 => ?_)
      · rw [if_pos c341] at h
        refine zF_go (n := 2) (ps := []) (s' := (18, [(3, .int (v3_1 + 7)), (0, .ref 0), (1, .ref 1), (2, .ref 86)], [], zh, M102)) rfl trivial ?_
        exact zF_as (hrec3 _ _ h) rfl
      · rw [if_neg c341] at h
        refine zF_go (n := 1) (ps := []) (s' := (1015, [(0, .ref 0), (1, .ref 1), (2, .ref 86), (3, .int v3_1)], [.int 0], zh, M102)) rfl trivial ?_
        cases h
        exact zF_ret rfl ⟨(Or.inl rfl), trivial⟩
    rw [if_neg c334] at h
    by_cases c342 : ((S.2 v3_1.toNatClampNeg) &&& 63) = 27
    · rw [if_pos c342] at h
      refine zF_sw (t := 1016) (lv := [(0, .ref 0), (1, .ref 1), (2, .ref 86), (3, .int v3_1)]) (st := []) (M := M2) rfl (by rw [c342]; rfl) ?_
      obtain ⟨g343, h⟩ := zq_some h
      obtain ⟨g344, h⟩ := zq_some h
      refine zF_go (n := 11) (ps := [vp_in (v3_1 + 1) S.1, vp_in (v3_1 + 2) S.1]) (s' := (1027, [(0, .ref 0), (1, .ref 1), (2, .ref 86), (3, .int v3_1)], [.int (S.2 (v3_1 + 2).toNatClampNeg), .int (S.2 (v3_1 + 1).toNatClampNeg), .ref 1], zh, M2)) rfl ⟨g343, g344, trivial⟩ ?_
      obtain ⟨x103, M104, e345, h⟩ := zb2_some h
      refine zF_call (y' := 114) (as := [.ref 1, .int (S.2 (v3_1 + 1).toNatClampNeg), .int (S.2 (v3_1 + 2).toNatClampNeg)]) (u := (1030, [(0, .ref 0), (1, .ref 1), (2, .ref 86), (3, .int v3_1)], [], zh, M2)) rfl ⟨rfl, rfl⟩ rfl (qS_shown_ok (S := S) (M := M2) e345) ?_
      show zF S 212 (1030, [(0, .ref 0), (1, .ref 1), (2, .ref 86), (3, .int v3_1)], [.int x103], zh, M104) _ _
      obtain ⟨g346, h⟩ := zq_some h
      obtain ⟨g347, h⟩ := zq_some h
      refine zF_go (n := 11) (ps := [vp_in (v3_1 + 1) S.1, vp_in (v3_1 + 2) S.1]) (s' := (1041, [(0, .ref 0), (1, .ref 1), (2, .ref 86), (3, .int v3_1)], [.int (S.2 (v3_1 + 2).toNatClampNeg), .int (S.2 (v3_1 + 1).toNatClampNeg), .ref 86, .int x103], zh, M104)) rfl ⟨g346, g347, trivial⟩ ?_
      obtain ⟨x105, M106, e348, h⟩ := zb2_some h
      refine zF_call (y' := 195) (as := [.ref 86, .int (S.2 (v3_1 + 1).toNatClampNeg), .int (S.2 (v3_1 + 2).toNatClampNeg)]) (u := (1044, [(0, .ref 0), (1, .ref 1), (2, .ref 86), (3, .int v3_1)], [.int x103], zh, M104)) rfl ⟨rfl, rfl⟩ rfl (qM_shown_ok (S := S) (M := M104) e348) ?_
      show zF S 212 (1044, [(0, .ref 0), (1, .ref 1), (2, .ref 86), (3, .int v3_1)], [.int x105, .int x103], zh, M106) _ _
      refine zF_eq (t := 1353) (u := (1047, [(0, .ref 0), (1, .ref 1), (2, .ref 86), (3, .int v3_1)], [], zh, M106)) rfl (fun c349 => ?_) (fun c349 => ?_)
      · rw [if_pos c349] at h
        refine zF_go (n := 2) (ps := []) (s' := (18, [(3, .int (v3_1 + 7)), (0, .ref 0), (1, .ref 1), (2, .ref 86)], [], zh, M106)) rfl trivial ?_
        exact zF_as (hrec3 _ _ h) rfl
      · rw [if_neg c349] at h
        refine zF_go (n := 1) (ps := []) (s' := (1048, [(0, .ref 0), (1, .ref 1), (2, .ref 86), (3, .int v3_1)], [.int 0], zh, M106)) rfl trivial ?_
        cases h
        exact zF_ret rfl ⟨(Or.inl rfl), trivial⟩
    rw [if_neg c342] at h
    by_cases c350 : ((S.2 v3_1.toNatClampNeg) &&& 63) = 28
    · rw [if_pos c350] at h
      refine zF_sw (t := 1049) (lv := [(0, .ref 0), (1, .ref 1), (2, .ref 86), (3, .int v3_1)]) (st := []) (M := M2) rfl (by rw [c350]; rfl) ?_
      refine zF_go (n := 1) (ps := []) (s' := (1050, [(0, .ref 0), (1, .ref 1), (2, .ref 86), (3, .int v3_1)], [.ref 1], zh, M2)) rfl trivial ?_
      obtain ⟨x107, M108, e351, h⟩ := zb2_some h
      refine zF_call (y' := 115) (as := [.ref 1]) (u := (1053, [(0, .ref 0), (1, .ref 1), (2, .ref 86), (3, .int v3_1)], [], zh, M2)) rfl ⟨rfl, rfl⟩ rfl (qS_hurt_ok (S := S) (M := M2) e351) ?_
      show zF S 212 (1053, [(0, .ref 0), (1, .ref 1), (2, .ref 86), (3, .int v3_1)], [.int x107], zh, M108) _ _
      refine zF_go (n := 1) (ps := []) (s' := (1054, [(0, .ref 0), (1, .ref 1), (2, .ref 86), (3, .int v3_1)], [.ref 86, .int x107], zh, M108)) rfl trivial ?_
      obtain ⟨x109, M110, e352, h⟩ := zb2_some h
      refine zF_call (y' := 196) (as := [.ref 86]) (u := (1057, [(0, .ref 0), (1, .ref 1), (2, .ref 86), (3, .int v3_1)], [.int x107], zh, M108)) rfl ⟨rfl, rfl⟩ rfl (qM_hurt_ok (S := S) (M := M108) e352) ?_
      show zF S 212 (1057, [(0, .ref 0), (1, .ref 1), (2, .ref 86), (3, .int v3_1)], [.int x109, .int x107], zh, M110) _ _
      refine zF_eq (t := 1353) (u := (1060, [(0, .ref 0), (1, .ref 1), (2, .ref 86), (3, .int v3_1)], [], zh, M110)) rfl (fun c353 => ?_) (fun c353 => ?_)
      · rw [if_pos c353] at h
        refine zF_go (n := 2) (ps := []) (s' := (18, [(3, .int (v3_1 + 7)), (0, .ref 0), (1, .ref 1), (2, .ref 86)], [], zh, M110)) rfl trivial ?_
        exact zF_as (hrec3 _ _ h) rfl
      · rw [if_neg c353] at h
        refine zF_go (n := 1) (ps := []) (s' := (1061, [(0, .ref 0), (1, .ref 1), (2, .ref 86), (3, .int v3_1)], [.int 0], zh, M110)) rfl trivial ?_
        cases h
        exact zF_ret rfl ⟨(Or.inl rfl), trivial⟩
    rw [if_neg c350] at h
    by_cases c354 : ((S.2 v3_1.toNatClampNeg) &&& 63) = 29
    · rw [if_pos c354] at h
      refine zF_sw (t := 1062) (lv := [(0, .ref 0), (1, .ref 1), (2, .ref 86), (3, .int v3_1)]) (st := []) (M := M2) rfl (by rw [c354]; rfl) ?_
      obtain ⟨g355, h⟩ := zq_some h
      obtain ⟨g356, h⟩ := zq_some h
      obtain ⟨g357, h⟩ := zq_some h
      obtain ⟨g358, h⟩ := zq_some h
      obtain ⟨g359, h⟩ := zq_some h
      obtain ⟨g360, h⟩ := zq_some h
      refine zF_go (n := 31) (ps := [vp_in (v3_1 + 1) S.1, vp_in (v3_1 + 2) S.1, vp_in (v3_1 + 3) S.1, vp_in (v3_1 + 4) S.1, vp_in (v3_1 + 5) S.1, vp_in (v3_1 + 6) S.1]) (s' := (1094, [(0, .ref 0), (1, .ref 1), (2, .ref 86), (3, .int v3_1)], [.int (S.2 (v3_1 + 6).toNatClampNeg), .int (S.2 (v3_1 + 5).toNatClampNeg), .int (S.2 (v3_1 + 4).toNatClampNeg), .int (S.2 (v3_1 + 3).toNatClampNeg), .int (S.2 (v3_1 + 2).toNatClampNeg), .int (S.2 (v3_1 + 1).toNatClampNeg), .ref 1], zh, M2)) rfl ⟨g355, g356, g357, g358, g359, g360, trivial⟩ ?_
      obtain ⟨x111, M112, e361, h⟩ := zb2_some h
      refine zF_call (y' := 116) (as := [.ref 1, .int (S.2 (v3_1 + 1).toNatClampNeg), .int (S.2 (v3_1 + 2).toNatClampNeg), .int (S.2 (v3_1 + 3).toNatClampNeg), .int (S.2 (v3_1 + 4).toNatClampNeg), .int (S.2 (v3_1 + 5).toNatClampNeg), .int (S.2 (v3_1 + 6).toNatClampNeg)]) (u := (1097, [(0, .ref 0), (1, .ref 1), (2, .ref 86), (3, .int v3_1)], [], zh, M2)) rfl ⟨rfl, rfl⟩ rfl (qS_home_ok (S := S) (M := M2) e361) ?_
      show zF S 212 (1097, [(0, .ref 0), (1, .ref 1), (2, .ref 86), (3, .int v3_1)], [.long x111], zh, M112) _ _
      obtain ⟨g362, h⟩ := zq_some h
      obtain ⟨g363, h⟩ := zq_some h
      obtain ⟨g364, h⟩ := zq_some h
      obtain ⟨g365, h⟩ := zq_some h
      obtain ⟨g366, h⟩ := zq_some h
      obtain ⟨g367, h⟩ := zq_some h
      refine zF_go (n := 31) (ps := [vp_in (v3_1 + 1) S.1, vp_in (v3_1 + 2) S.1, vp_in (v3_1 + 3) S.1, vp_in (v3_1 + 4) S.1, vp_in (v3_1 + 5) S.1, vp_in (v3_1 + 6) S.1]) (s' := (1129, [(0, .ref 0), (1, .ref 1), (2, .ref 86), (3, .int v3_1)], [.int (S.2 (v3_1 + 6).toNatClampNeg), .int (S.2 (v3_1 + 5).toNatClampNeg), .int (S.2 (v3_1 + 4).toNatClampNeg), .int (S.2 (v3_1 + 3).toNatClampNeg), .int (S.2 (v3_1 + 2).toNatClampNeg), .int (S.2 (v3_1 + 1).toNatClampNeg), .ref 86, .long x111], zh, M112)) rfl ⟨g362, g363, g364, g365, g366, g367, trivial⟩ ?_
      obtain ⟨x113, e368, h⟩ := zb_some h
      refine zF_call (y' := 197) (as := [.ref 86, .int (S.2 (v3_1 + 1).toNatClampNeg), .int (S.2 (v3_1 + 2).toNatClampNeg), .int (S.2 (v3_1 + 3).toNatClampNeg), .int (S.2 (v3_1 + 4).toNatClampNeg), .int (S.2 (v3_1 + 5).toNatClampNeg), .int (S.2 (v3_1 + 6).toNatClampNeg)]) (u := (1132, [(0, .ref 0), (1, .ref 1), (2, .ref 86), (3, .int v3_1)], [.long x111], zh, M112)) rfl ⟨rfl, rfl⟩ rfl (qM_home_ok (S := S) (M := M112) e368) ?_
      show zF S 212 (1132, [(0, .ref 0), (1, .ref 1), (2, .ref 86), (3, .int v3_1)], [.long x113, .long x111], zh, M112) _ _
      refine zF_go (n := 1) (ps := []) (s' := (1133, [(0, .ref 0), (1, .ref 1), (2, .ref 86), (3, .int v3_1)], [.int (lg_cmp x111 x113)], zh, M112)) rfl trivial ?_
      refine zF_eq (t := 1353) (u := (1136, [(0, .ref 0), (1, .ref 1), (2, .ref 86), (3, .int v3_1)], [], zh, M112)) rfl (fun c369 => ?_) (fun c369 => ?_)
      · rw [if_pos c369] at h
        refine zF_go (n := 2) (ps := []) (s' := (18, [(3, .int (v3_1 + 7)), (0, .ref 0), (1, .ref 1), (2, .ref 86)], [], zh, M112)) rfl trivial ?_
        exact zF_as (hrec3 _ _ h) rfl
      · rw [if_neg c369] at h
        refine zF_go (n := 1) (ps := []) (s' := (1137, [(0, .ref 0), (1, .ref 1), (2, .ref 86), (3, .int v3_1)], [.int 0], zh, M112)) rfl trivial ?_
        cases h
        exact zF_ret rfl ⟨(Or.inl rfl), trivial⟩
    rw [if_neg c354] at h
    by_cases c370 : ((S.2 v3_1.toNatClampNeg) &&& 63) = 30
    · rw [if_pos c370] at h
      refine zF_sw (t := 1138) (lv := [(0, .ref 0), (1, .ref 1), (2, .ref 86), (3, .int v3_1)]) (st := []) (M := M2) rfl (by rw [c370]; rfl) ?_
      obtain ⟨g371, h⟩ := zq_some h
      refine zF_go (n := 6) (ps := [vp_in (v3_1 + 1) S.1]) (s' := (1144, [(0, .ref 0), (1, .ref 1), (2, .ref 86), (3, .int v3_1)], [.int (S.2 (v3_1 + 1).toNatClampNeg), .ref 1], zh, M2)) rfl ⟨g371, trivial⟩ ?_
      obtain ⟨x114, M115, e372, h⟩ := zb2_some h
      refine zF_call (y' := 117) (as := [.ref 1, .int (S.2 (v3_1 + 1).toNatClampNeg)]) (u := (1147, [(0, .ref 0), (1, .ref 1), (2, .ref 86), (3, .int v3_1)], [], zh, M2)) rfl ⟨rfl, rfl⟩ rfl (qS_slip_ok (S := S) (M := M2) e372) ?_
      show zF S 212 (1147, [(0, .ref 0), (1, .ref 1), (2, .ref 86), (3, .int v3_1)], [.int x114], zh, M115) _ _
      obtain ⟨g373, h⟩ := zq_some h
      refine zF_go (n := 6) (ps := [vp_in (v3_1 + 1) S.1]) (s' := (1153, [(0, .ref 0), (1, .ref 1), (2, .ref 86), (3, .int v3_1)], [.int (S.2 (v3_1 + 1).toNatClampNeg), .ref 86, .int x114], zh, M115)) rfl ⟨g373, trivial⟩ ?_
      obtain ⟨x116, M117, e374, h⟩ := zb2_some h
      refine zF_call (y' := 198) (as := [.ref 86, .int (S.2 (v3_1 + 1).toNatClampNeg)]) (u := (1156, [(0, .ref 0), (1, .ref 1), (2, .ref 86), (3, .int v3_1)], [.int x114], zh, M115)) rfl ⟨rfl, rfl⟩ rfl (qM_slip_ok (S := S) (M := M115) e374) ?_
      show zF S 212 (1156, [(0, .ref 0), (1, .ref 1), (2, .ref 86), (3, .int v3_1)], [.int x116, .int x114], zh, M117) _ _
      refine zF_eq (t := 1353) (u := (1159, [(0, .ref 0), (1, .ref 1), (2, .ref 86), (3, .int v3_1)], [], zh, M117)) rfl (fun c375 => ?_) (fun c375 => ?_)
      · rw [if_pos c375] at h
        refine zF_go (n := 2) (ps := []) (s' := (18, [(3, .int (v3_1 + 7)), (0, .ref 0), (1, .ref 1), (2, .ref 86)], [], zh, M117)) rfl trivial ?_
        exact zF_as (hrec3 _ _ h) rfl
      · rw [if_neg c375] at h
        refine zF_go (n := 1) (ps := []) (s' := (1160, [(0, .ref 0), (1, .ref 1), (2, .ref 86), (3, .int v3_1)], [.int 0], zh, M117)) rfl trivial ?_
        cases h
        exact zF_ret rfl ⟨(Or.inl rfl), trivial⟩
    rw [if_neg c370] at h
    by_cases c376 : ((S.2 v3_1.toNatClampNeg) &&& 63) = 31
    · rw [if_pos c376] at h
      refine zF_sw (t := 1161) (lv := [(0, .ref 0), (1, .ref 1), (2, .ref 86), (3, .int v3_1)]) (st := []) (M := M2) rfl (by rw [c376]; rfl) ?_
      refine zF_go (n := 1) (ps := []) (s' := (1162, [(0, .ref 0), (1, .ref 1), (2, .ref 86), (3, .int v3_1)], [.ref 1], zh, M2)) rfl trivial ?_
      obtain ⟨x118, M119, e377, h⟩ := zb2_some h
      refine zF_call (y' := 118) (as := [.ref 1]) (u := (1165, [(0, .ref 0), (1, .ref 1), (2, .ref 86), (3, .int v3_1)], [], zh, M2)) rfl ⟨rfl, rfl⟩ rfl (qS_burn_ok (S := S) (M := M2) e377) ?_
      show zF S 212 (1165, [(0, .ref 0), (1, .ref 1), (2, .ref 86), (3, .int v3_1)], [.int x118], zh, M119) _ _
      refine zF_go (n := 1) (ps := []) (s' := (1166, [(0, .ref 0), (1, .ref 1), (2, .ref 86), (3, .int v3_1)], [.ref 86, .int x118], zh, M119)) rfl trivial ?_
      obtain ⟨x120, M121, e378, h⟩ := zb2_some h
      refine zF_call (y' := 199) (as := [.ref 86]) (u := (1169, [(0, .ref 0), (1, .ref 1), (2, .ref 86), (3, .int v3_1)], [.int x118], zh, M119)) rfl ⟨rfl, rfl⟩ rfl (qM_burn_ok (S := S) (M := M119) e378) ?_
      show zF S 212 (1169, [(0, .ref 0), (1, .ref 1), (2, .ref 86), (3, .int v3_1)], [.int x120, .int x118], zh, M121) _ _
      refine zF_eq (t := 1353) (u := (1172, [(0, .ref 0), (1, .ref 1), (2, .ref 86), (3, .int v3_1)], [], zh, M121)) rfl (fun c379 => ?_) (fun c379 => ?_)
      · rw [if_pos c379] at h
        refine zF_go (n := 2) (ps := []) (s' := (18, [(3, .int (v3_1 + 7)), (0, .ref 0), (1, .ref 1), (2, .ref 86)], [], zh, M121)) rfl trivial ?_
        exact zF_as (hrec3 _ _ h) rfl
      · rw [if_neg c379] at h
        refine zF_go (n := 1) (ps := []) (s' := (1173, [(0, .ref 0), (1, .ref 1), (2, .ref 86), (3, .int v3_1)], [.int 0], zh, M121)) rfl trivial ?_
        cases h
        exact zF_ret rfl ⟨(Or.inl rfl), trivial⟩
    rw [if_neg c376] at h
    by_cases c380 : ((S.2 v3_1.toNatClampNeg) &&& 63) = 32
    · rw [if_pos c380] at h
      refine zF_sw (t := 1174) (lv := [(0, .ref 0), (1, .ref 1), (2, .ref 86), (3, .int v3_1)]) (st := []) (M := M2) rfl (by rw [c380]; rfl) ?_
      obtain ⟨g381, h⟩ := zq_some h
      obtain ⟨g382, h⟩ := zq_some h
      refine zF_go (n := 11) (ps := [vp_in (v3_1 + 1) S.1, vp_in (v3_1 + 2) S.1]) (s' := (1185, [(0, .ref 0), (1, .ref 1), (2, .ref 86), (3, .int v3_1)], [.int (S.2 (v3_1 + 2).toNatClampNeg), .int (S.2 (v3_1 + 1).toNatClampNeg), .ref 1], zh, M2)) rfl ⟨g381, g382, trivial⟩ ?_
      obtain ⟨x122, e383, h⟩ := zb_some h
      refine zF_call (y' := 119) (as := [.ref 1, .int (S.2 (v3_1 + 1).toNatClampNeg), .int (S.2 (v3_1 + 2).toNatClampNeg)]) (u := (1188, [(0, .ref 0), (1, .ref 1), (2, .ref 86), (3, .int v3_1)], [], zh, M2)) rfl ⟨rfl, rfl⟩ rfl (qS_with_ok (S := S) (M := M2) e383) ?_
      show zF S 212 (1188, [(0, .ref 0), (1, .ref 1), (2, .ref 86), (3, .int v3_1)], [.int x122], zh, M2) _ _
      obtain ⟨g384, h⟩ := zq_some h
      obtain ⟨g385, h⟩ := zq_some h
      refine zF_go (n := 11) (ps := [vp_in (v3_1 + 1) S.1, vp_in (v3_1 + 2) S.1]) (s' := (1199, [(0, .ref 0), (1, .ref 1), (2, .ref 86), (3, .int v3_1)], [.int (S.2 (v3_1 + 2).toNatClampNeg), .int (S.2 (v3_1 + 1).toNatClampNeg), .ref 86, .int x122], zh, M2)) rfl ⟨g384, g385, trivial⟩ ?_
      obtain ⟨x123, e386, h⟩ := zb_some h
      refine zF_call (y' := 201) (as := [.ref 86, .int (S.2 (v3_1 + 1).toNatClampNeg), .int (S.2 (v3_1 + 2).toNatClampNeg)]) (u := (1202, [(0, .ref 0), (1, .ref 1), (2, .ref 86), (3, .int v3_1)], [.int x122], zh, M2)) rfl ⟨rfl, rfl⟩ rfl (qM_with_ok (S := S) (M := M2) e386) ?_
      show zF S 212 (1202, [(0, .ref 0), (1, .ref 1), (2, .ref 86), (3, .int v3_1)], [.int x123, .int x122], zh, M2) _ _
      refine zF_eq (t := 1353) (u := (1205, [(0, .ref 0), (1, .ref 1), (2, .ref 86), (3, .int v3_1)], [], zh, M2)) rfl (fun c387 => ?_) (fun c387 => ?_)
      · rw [if_pos c387] at h
        refine zF_go (n := 2) (ps := []) (s' := (18, [(3, .int (v3_1 + 7)), (0, .ref 0), (1, .ref 1), (2, .ref 86)], [], zh, M2)) rfl trivial ?_
        exact zF_as (hrec3 _ _ h) rfl
      · rw [if_neg c387] at h
        refine zF_go (n := 1) (ps := []) (s' := (1206, [(0, .ref 0), (1, .ref 1), (2, .ref 86), (3, .int v3_1)], [.int 0], zh, M2)) rfl trivial ?_
        cases h
        exact zF_ret rfl ⟨(Or.inl rfl), trivial⟩
    rw [if_neg c380] at h
    by_cases c388 : ((S.2 v3_1.toNatClampNeg) &&& 63) = 33
    · rw [if_pos c388] at h
      refine zF_sw (t := 1207) (lv := [(0, .ref 0), (1, .ref 1), (2, .ref 86), (3, .int v3_1)]) (st := []) (M := M2) rfl (by rw [c388]; rfl) ?_
      obtain ⟨g389, h⟩ := zq_some h
      obtain ⟨g390, h⟩ := zq_some h
      obtain ⟨g391, h⟩ := zq_some h
      refine zF_go (n := 16) (ps := [vp_in (v3_1 + 1) S.1, vp_in (v3_1 + 2) S.1, vp_in (v3_1 + 3) S.1]) (s' := (1223, [(0, .ref 0), (1, .ref 1), (2, .ref 86), (3, .int v3_1)], [.int (S.2 (v3_1 + 3).toNatClampNeg), .int (S.2 (v3_1 + 2).toNatClampNeg), .int (S.2 (v3_1 + 1).toNatClampNeg), .ref 1], zh, M2)) rfl ⟨g389, g390, g391, trivial⟩ ?_
      obtain ⟨x124, e392, h⟩ := zb_some h
      refine zF_call (y' := 120) (as := [.ref 1, .int (S.2 (v3_1 + 1).toNatClampNeg), .int (S.2 (v3_1 + 2).toNatClampNeg), .int (S.2 (v3_1 + 3).toNatClampNeg)]) (u := (1226, [(0, .ref 0), (1, .ref 1), (2, .ref 86), (3, .int v3_1)], [], zh, M2)) rfl ⟨rfl, rfl⟩ rfl (qS_chance_ok (S := S) (M := M2) e392) ?_
      show zF S 212 (1226, [(0, .ref 0), (1, .ref 1), (2, .ref 86), (3, .int v3_1)], [.long x124], zh, M2) _ _
      obtain ⟨g393, h⟩ := zq_some h
      obtain ⟨g394, h⟩ := zq_some h
      obtain ⟨g395, h⟩ := zq_some h
      refine zF_go (n := 16) (ps := [vp_in (v3_1 + 1) S.1, vp_in (v3_1 + 2) S.1, vp_in (v3_1 + 3) S.1]) (s' := (1242, [(0, .ref 0), (1, .ref 1), (2, .ref 86), (3, .int v3_1)], [.int (S.2 (v3_1 + 3).toNatClampNeg), .int (S.2 (v3_1 + 2).toNatClampNeg), .int (S.2 (v3_1 + 1).toNatClampNeg), .ref 86, .long x124], zh, M2)) rfl ⟨g393, g394, g395, trivial⟩ ?_
      obtain ⟨x125, e396, h⟩ := zb_some h
      refine zF_call (y' := 203) (as := [.ref 86, .int (S.2 (v3_1 + 1).toNatClampNeg), .int (S.2 (v3_1 + 2).toNatClampNeg), .int (S.2 (v3_1 + 3).toNatClampNeg)]) (u := (1245, [(0, .ref 0), (1, .ref 1), (2, .ref 86), (3, .int v3_1)], [.long x124], zh, M2)) rfl ⟨rfl, rfl⟩ rfl (qM_chance_ok (S := S) (M := M2) e396) ?_
      show zF S 212 (1245, [(0, .ref 0), (1, .ref 1), (2, .ref 86), (3, .int v3_1)], [.long x125, .long x124], zh, M2) _ _
      refine zF_go (n := 1) (ps := []) (s' := (1246, [(0, .ref 0), (1, .ref 1), (2, .ref 86), (3, .int v3_1)], [.int (lg_cmp x124 x125)], zh, M2)) rfl trivial ?_
      refine zF_eq (t := 1353) (u := (1249, [(0, .ref 0), (1, .ref 1), (2, .ref 86), (3, .int v3_1)], [], zh, M2)) rfl (fun c397 => ?_) (fun c397 => ?_)
      · rw [if_pos c397] at h
        refine zF_go (n := 2) (ps := []) (s' := (18, [(3, .int (v3_1 + 7)), (0, .ref 0), (1, .ref 1), (2, .ref 86)], [], zh, M2)) rfl trivial ?_
        exact zF_as (hrec3 _ _ h) rfl
      · rw [if_neg c397] at h
        refine zF_go (n := 1) (ps := []) (s' := (1250, [(0, .ref 0), (1, .ref 1), (2, .ref 86), (3, .int v3_1)], [.int 0], zh, M2)) rfl trivial ?_
        cases h
        exact zF_ret rfl ⟨(Or.inl rfl), trivial⟩
    rw [if_neg c388] at h
    by_cases c398 : ((S.2 v3_1.toNatClampNeg) &&& 63) = 34
    · rw [if_pos c398] at h
      refine zF_sw (t := 1251) (lv := [(0, .ref 0), (1, .ref 1), (2, .ref 86), (3, .int v3_1)]) (st := []) (M := M2) rfl (by rw [c398]; rfl) ?_
      obtain ⟨g399, h⟩ := zq_some h
      obtain ⟨g400, h⟩ := zq_some h
      refine zF_go (n := 11) (ps := [vp_in (v3_1 + 1) S.1, vp_in (v3_1 + 2) S.1]) (s' := (1262, [(0, .ref 0), (1, .ref 1), (2, .ref 86), (3, .int v3_1)], [.int (S.2 (v3_1 + 2).toNatClampNeg), .int (S.2 (v3_1 + 1).toNatClampNeg), .ref 1], zh, M2)) rfl ⟨g399, g400, trivial⟩ ?_
      obtain ⟨x126, M127, e401, h⟩ := zb2_some h
      refine zF_call (y' := 121) (as := [.ref 1, .int (S.2 (v3_1 + 1).toNatClampNeg), .int (S.2 (v3_1 + 2).toNatClampNeg)]) (u := (1265, [(0, .ref 0), (1, .ref 1), (2, .ref 86), (3, .int v3_1)], [], zh, M2)) rfl ⟨rfl, rfl⟩ rfl (qS_edge_ok (S := S) (M := M2) e401) ?_
      show zF S 212 (1265, [(0, .ref 0), (1, .ref 1), (2, .ref 86), (3, .int v3_1)], [.int x126], zh, M127) _ _
      obtain ⟨g402, h⟩ := zq_some h
      obtain ⟨g403, h⟩ := zq_some h
      refine zF_go (n := 11) (ps := [vp_in (v3_1 + 1) S.1, vp_in (v3_1 + 2) S.1]) (s' := (1276, [(0, .ref 0), (1, .ref 1), (2, .ref 86), (3, .int v3_1)], [.int (S.2 (v3_1 + 2).toNatClampNeg), .int (S.2 (v3_1 + 1).toNatClampNeg), .ref 86, .int x126], zh, M127)) rfl ⟨g402, g403, trivial⟩ ?_
      obtain ⟨x128, M129, e404, h⟩ := zb2_some h
      refine zF_call (y' := 204) (as := [.ref 86, .int (S.2 (v3_1 + 1).toNatClampNeg), .int (S.2 (v3_1 + 2).toNatClampNeg)]) (u := (1279, [(0, .ref 0), (1, .ref 1), (2, .ref 86), (3, .int v3_1)], [.int x126], zh, M127)) rfl ⟨rfl, rfl⟩ rfl (qM_edge_ok (S := S) (M := M127) e404) ?_
      show zF S 212 (1279, [(0, .ref 0), (1, .ref 1), (2, .ref 86), (3, .int v3_1)], [.int x128, .int x126], zh, M129) _ _
      refine zF_eq (t := 1353) (u := (1282, [(0, .ref 0), (1, .ref 1), (2, .ref 86), (3, .int v3_1)], [], zh, M129)) rfl (fun c405 => ?_) (fun c405 => ?_)
      · rw [if_pos c405] at h
        refine zF_go (n := 2) (ps := []) (s' := (18, [(3, .int (v3_1 + 7)), (0, .ref 0), (1, .ref 1), (2, .ref 86)], [], zh, M129)) rfl trivial ?_
        exact zF_as (hrec3 _ _ h) rfl
      · rw [if_neg c405] at h
        refine zF_go (n := 1) (ps := []) (s' := (1283, [(0, .ref 0), (1, .ref 1), (2, .ref 86), (3, .int v3_1)], [.int 0], zh, M129)) rfl trivial ?_
        cases h
        exact zF_ret rfl ⟨(Or.inl rfl), trivial⟩
    rw [if_neg c398] at h
    by_cases c406 : ((S.2 v3_1.toNatClampNeg) &&& 63) = 35
    · rw [if_pos c406] at h
      refine zF_sw (t := 1284) (lv := [(0, .ref 0), (1, .ref 1), (2, .ref 86), (3, .int v3_1)]) (st := []) (M := M2) rfl (by rw [c406]; rfl) ?_
      obtain ⟨g407, h⟩ := zq_some h
      refine zF_go (n := 6) (ps := [vp_in (v3_1 + 1) S.1]) (s' := (1290, [(0, .ref 0), (1, .ref 1), (2, .ref 86), (3, .int v3_1)], [.int (S.2 (v3_1 + 1).toNatClampNeg), .ref 1], zh, M2)) rfl ⟨g407, trivial⟩ ?_
      obtain ⟨x130, M131, e408, h⟩ := zb2_some h
      refine zF_call (y' := 122) (as := [.ref 1, .int (S.2 (v3_1 + 1).toNatClampNeg)]) (u := (1293, [(0, .ref 0), (1, .ref 1), (2, .ref 86), (3, .int v3_1)], [], zh, M2)) rfl ⟨rfl, rfl⟩ rfl (qS_image_ok (S := S) (M := M2) e408) ?_
      show zF S 212 (1293, [(0, .ref 0), (1, .ref 1), (2, .ref 86), (3, .int v3_1)], [.int x130], zh, M131) _ _
      obtain ⟨g409, h⟩ := zq_some h
      refine zF_go (n := 6) (ps := [vp_in (v3_1 + 1) S.1]) (s' := (1299, [(0, .ref 0), (1, .ref 1), (2, .ref 86), (3, .int v3_1)], [.int (S.2 (v3_1 + 1).toNatClampNeg), .ref 86, .int x130], zh, M131)) rfl ⟨g409, trivial⟩ ?_
      obtain ⟨x132, M133, e410, h⟩ := zb2_some h
      refine zF_call (y' := 207) (as := [.ref 86, .int (S.2 (v3_1 + 1).toNatClampNeg)]) (u := (1302, [(0, .ref 0), (1, .ref 1), (2, .ref 86), (3, .int v3_1)], [.int x130], zh, M131)) rfl ⟨rfl, rfl⟩ rfl (qM_image_ok (S := S) (M := M131) e410) ?_
      show zF S 212 (1302, [(0, .ref 0), (1, .ref 1), (2, .ref 86), (3, .int v3_1)], [.int x132, .int x130], zh, M133) _ _
      refine zF_eq (t := 1353) (u := (1305, [(0, .ref 0), (1, .ref 1), (2, .ref 86), (3, .int v3_1)], [], zh, M133)) rfl (fun c411 => ?_) (fun c411 => ?_)
      · rw [if_pos c411] at h
        refine zF_go (n := 2) (ps := []) (s' := (18, [(3, .int (v3_1 + 7)), (0, .ref 0), (1, .ref 1), (2, .ref 86)], [], zh, M133)) rfl trivial ?_
        exact zF_as (hrec3 _ _ h) rfl
      · rw [if_neg c411] at h
        refine zF_go (n := 1) (ps := []) (s' := (1306, [(0, .ref 0), (1, .ref 1), (2, .ref 86), (3, .int v3_1)], [.int 0], zh, M133)) rfl trivial ?_
        cases h
        exact zF_ret rfl ⟨(Or.inl rfl), trivial⟩
    rw [if_neg c406] at h
    by_cases c412 : ((S.2 v3_1.toNatClampNeg) &&& 63) = 36
    · rw [if_pos c412] at h
      refine zF_sw (t := 1307) (lv := [(0, .ref 0), (1, .ref 1), (2, .ref 86), (3, .int v3_1)]) (st := []) (M := M2) rfl (by rw [c412]; rfl) ?_
      obtain ⟨g413, h⟩ := zq_some h
      refine zF_go (n := 6) (ps := [vp_in (v3_1 + 1) S.1]) (s' := (1313, [(0, .ref 0), (1, .ref 1), (2, .ref 86), (3, .int v3_1)], [.int (S.2 (v3_1 + 1).toNatClampNeg), .ref 1], zh, M2)) rfl ⟨g413, trivial⟩ ?_
      obtain ⟨x134, M135, e414, h⟩ := zb2_some h
      refine zF_call (y' := 123) (as := [.ref 1, .int (S.2 (v3_1 + 1).toNatClampNeg)]) (u := (1316, [(0, .ref 0), (1, .ref 1), (2, .ref 86), (3, .int v3_1)], [], zh, M2)) rfl ⟨rfl, rfl⟩ rfl (qS_restore_ok (S := S) (M := M2) e414) ?_
      show zF S 212 (1316, [(0, .ref 0), (1, .ref 1), (2, .ref 86), (3, .int v3_1)], [.int x134], zh, M135) _ _
      obtain ⟨g415, h⟩ := zq_some h
      refine zF_go (n := 6) (ps := [vp_in (v3_1 + 1) S.1]) (s' := (1322, [(0, .ref 0), (1, .ref 1), (2, .ref 86), (3, .int v3_1)], [.int (S.2 (v3_1 + 1).toNatClampNeg), .ref 86, .int x134], zh, M135)) rfl ⟨g415, trivial⟩ ?_
      obtain ⟨x136, M137, e416, h⟩ := zb2_some h
      refine zF_call (y' := 208) (as := [.ref 86, .int (S.2 (v3_1 + 1).toNatClampNeg)]) (u := (1325, [(0, .ref 0), (1, .ref 1), (2, .ref 86), (3, .int v3_1)], [.int x134], zh, M135)) rfl ⟨rfl, rfl⟩ rfl (qM_restore_ok (S := S) (M := M135) e416) ?_
      show zF S 212 (1325, [(0, .ref 0), (1, .ref 1), (2, .ref 86), (3, .int v3_1)], [.int x136, .int x134], zh, M137) _ _
      refine zF_eq (t := 1353) (u := (1328, [(0, .ref 0), (1, .ref 1), (2, .ref 86), (3, .int v3_1)], [], zh, M137)) rfl (fun c417 => ?_) (fun c417 => ?_)
      · rw [if_pos c417] at h
        refine zF_go (n := 2) (ps := []) (s' := (18, [(3, .int (v3_1 + 7)), (0, .ref 0), (1, .ref 1), (2, .ref 86)], [], zh, M137)) rfl trivial ?_
        exact zF_as (hrec3 _ _ h) rfl
      · rw [if_neg c417] at h
        refine zF_go (n := 1) (ps := []) (s' := (1329, [(0, .ref 0), (1, .ref 1), (2, .ref 86), (3, .int v3_1)], [.int 0], zh, M137)) rfl trivial ?_
        cases h
        exact zF_ret rfl ⟨(Or.inl rfl), trivial⟩
    rw [if_neg c412] at h
    by_cases c418 : ((S.2 v3_1.toNatClampNeg) &&& 63) = 37
    · rw [if_pos c418] at h
      refine zF_sw (t := 1330) (lv := [(0, .ref 0), (1, .ref 1), (2, .ref 86), (3, .int v3_1)]) (st := []) (M := M2) rfl (by rw [c418]; rfl) ?_
      obtain ⟨g419, h⟩ := zq_some h
      refine zF_go (n := 6) (ps := [vp_in (v3_1 + 1) S.1]) (s' := (1336, [(0, .ref 0), (1, .ref 1), (2, .ref 86), (3, .int v3_1)], [.int (S.2 (v3_1 + 1).toNatClampNeg), .ref 1], zh, M2)) rfl ⟨g419, trivial⟩ ?_
      obtain ⟨x138, e420, h⟩ := zb_some h
      refine zF_call (y' := 124) (as := [.ref 1, .int (S.2 (v3_1 + 1).toNatClampNeg)]) (u := (1339, [(0, .ref 0), (1, .ref 1), (2, .ref 86), (3, .int v3_1)], [], zh, M2)) rfl ⟨rfl, rfl⟩ rfl (qS_told_ok (S := S) (M := M2) e420) ?_
      show zF S 212 (1339, [(0, .ref 0), (1, .ref 1), (2, .ref 86), (3, .int v3_1)], [.int x138], zh, M2) _ _
      obtain ⟨g421, h⟩ := zq_some h
      refine zF_go (n := 6) (ps := [vp_in (v3_1 + 1) S.1]) (s' := (1345, [(0, .ref 0), (1, .ref 1), (2, .ref 86), (3, .int v3_1)], [.int (S.2 (v3_1 + 1).toNatClampNeg), .ref 86, .int x138], zh, M2)) rfl ⟨g421, trivial⟩ ?_
      obtain ⟨x139, e422, h⟩ := zb_some h
      refine zF_call (y' := 209) (as := [.ref 86, .int (S.2 (v3_1 + 1).toNatClampNeg)]) (u := (1348, [(0, .ref 0), (1, .ref 1), (2, .ref 86), (3, .int v3_1)], [.int x138], zh, M2)) rfl ⟨rfl, rfl⟩ rfl (qM_told_ok (S := S) (M := M2) e422) ?_
      show zF S 212 (1348, [(0, .ref 0), (1, .ref 1), (2, .ref 86), (3, .int v3_1)], [.int x139, .int x138], zh, M2) _ _
      refine zF_eq (t := 1353) (u := (1351, [(0, .ref 0), (1, .ref 1), (2, .ref 86), (3, .int v3_1)], [], zh, M2)) rfl (fun c423 => ?_) (fun c423 => ?_)
      · rw [if_pos c423] at h
        refine zF_go (n := 2) (ps := []) (s' := (18, [(3, .int (v3_1 + 7)), (0, .ref 0), (1, .ref 1), (2, .ref 86)], [], zh, M2)) rfl trivial ?_
        exact zF_as (hrec3 _ _ h) rfl
      · rw [if_neg c423] at h
        refine zF_go (n := 1) (ps := []) (s' := (1352, [(0, .ref 0), (1, .ref 1), (2, .ref 86), (3, .int v3_1)], [.int 0], zh, M2)) rfl trivial ?_
        cases h
        exact zF_ret rfl ⟨(Or.inl rfl), trivial⟩
    rw [if_neg c418] at h
    refine zF_sw (t := 1353) (lv := [(0, .ref 0), (1, .ref 1), (2, .ref 86), (3, .int v3_1)]) (st := []) (M := M2) rfl (ztab_d (fun j hj => match j, hj with | 0, _ => Or.inr (lv_neT c142 (show (0 : Int32).toInt = (0 : Int) + ((0 : Nat) : Int) from rfl)) | 1, _ => Or.inr (lv_neT c152 (show (1 : Int32).toInt = (0 : Int) + ((1 : Nat) : Int) from rfl)) | 2, _ => Or.inr (lv_neT c160 (show (2 : Int32).toInt = (0 : Int) + ((2 : Nat) : Int) from rfl)) | 3, _ => Or.inr (lv_neT c172 (show (3 : Int32).toInt = (0 : Int) + ((3 : Nat) : Int) from rfl)) | 4, _ => Or.inr (lv_neT c180 (show (4 : Int32).toInt = (0 : Int) + ((4 : Nat) : Int) from rfl)) | 5, _ => Or.inr (lv_neT c192 (show (5 : Int32).toInt = (0 : Int) + ((5 : Nat) : Int) from rfl)) | 6, _ => Or.inr (lv_neT c202 (show (6 : Int32).toInt = (0 : Int) + ((6 : Nat) : Int) from rfl)) | 7, _ => Or.inr (lv_neT c208 (show (7 : Int32).toInt = (0 : Int) + ((7 : Nat) : Int) from rfl)) | 8, _ => Or.inr (lv_neT c212 (show (8 : Int32).toInt = (0 : Int) + ((8 : Nat) : Int) from rfl)) | 9, _ => Or.inr (lv_neT c216 (show (9 : Int32).toInt = (0 : Int) + ((9 : Nat) : Int) from rfl)) | 10, _ => Or.inr (lv_neT c222 (show (10 : Int32).toInt = (0 : Int) + ((10 : Nat) : Int) from rfl)) | 11, _ => Or.inr (lv_neT c232 (show (11 : Int32).toInt = (0 : Int) + ((11 : Nat) : Int) from rfl)) | 12, _ => Or.inr (lv_neT c238 (show (12 : Int32).toInt = (0 : Int) + ((12 : Nat) : Int) from rfl)) | 13, _ => Or.inr (lv_neT c246 (show (13 : Int32).toInt = (0 : Int) + ((13 : Nat) : Int) from rfl)) | 14, _ => Or.inr (lv_neT c252 (show (14 : Int32).toInt = (0 : Int) + ((14 : Nat) : Int) from rfl)) | 15, _ => Or.inr (lv_neT c262 (show (15 : Int32).toInt = (0 : Int) + ((15 : Nat) : Int) from rfl)) | 16, _ => Or.inr (lv_neT c268 (show (16 : Int32).toInt = (0 : Int) + ((16 : Nat) : Int) from rfl)) | 17, _ => Or.inr (lv_neT c274 (show (17 : Int32).toInt = (0 : Int) + ((17 : Nat) : Int) from rfl)) | 18, _ => Or.inr (lv_neT c280 (show (18 : Int32).toInt = (0 : Int) + ((18 : Nat) : Int) from rfl)) | 19, _ => Or.inr (lv_neT c286 (show (19 : Int32).toInt = (0 : Int) + ((19 : Nat) : Int) from rfl)) | 20, _ => Or.inr (lv_neT c294 (show (20 : Int32).toInt = (0 : Int) + ((20 : Nat) : Int) from rfl)) | 21, _ => Or.inr (lv_neT c300 (show (21 : Int32).toInt = (0 : Int) + ((21 : Nat) : Int) from rfl)) | 22, _ => Or.inr (lv_neT c306 (show (22 : Int32).toInt = (0 : Int) + ((22 : Nat) : Int) from rfl)) | 23, _ => Or.inr (lv_neT c314 (show (23 : Int32).toInt = (0 : Int) + ((23 : Nat) : Int) from rfl)) | 24, _ => Or.inr (lv_neT c320 (show (24 : Int32).toInt = (0 : Int) + ((24 : Nat) : Int) from rfl)) | 25, _ => Or.inr (lv_neT c326 (show (25 : Int32).toInt = (0 : Int) + ((25 : Nat) : Int) from rfl)) | 26, _ => Or.inr (lv_neT c334 (show (26 : Int32).toInt = (0 : Int) + ((26 : Nat) : Int) from rfl)) | 27, _ => Or.inr (lv_neT c342 (show (27 : Int32).toInt = (0 : Int) + ((27 : Nat) : Int) from rfl)) | 28, _ => Or.inr (lv_neT c350 (show (28 : Int32).toInt = (0 : Int) + ((28 : Nat) : Int) from rfl)) | 29, _ => Or.inr (lv_neT c354 (show (29 : Int32).toInt = (0 : Int) + ((29 : Nat) : Int) from rfl)) | 30, _ => Or.inr (lv_neT c370 (show (30 : Int32).toInt = (0 : Int) + ((30 : Nat) : Int) from rfl)) | 31, _ => Or.inr (lv_neT c376 (show (31 : Int32).toInt = (0 : Int) + ((31 : Nat) : Int) from rfl)) | 32, _ => Or.inr (lv_neT c380 (show (32 : Int32).toInt = (0 : Int) + ((32 : Nat) : Int) from rfl)) | 33, _ => Or.inr (lv_neT c388 (show (33 : Int32).toInt = (0 : Int) + ((33 : Nat) : Int) from rfl)) | 34, _ => Or.inr (lv_neT c398 (show (34 : Int32).toInt = (0 : Int) + ((34 : Nat) : Int) from rfl)) | 35, _ => Or.inr (lv_neT c406 (show (35 : Int32).toInt = (0 : Int) + ((35 : Nat) : Int) from rfl)) | 36, _ => Or.inr (lv_neT c412 (show (36 : Int32).toInt = (0 : Int) + ((36 : Nat) : Int) from rfl)) | 37, _ => Or.inr (lv_neT c418 (show (37 : Int32).toInt = (0 : Int) + ((37 : Nat) : Int) from rfl)) | j + 38, hj => absurd hj (Nat.not_lt.mpr (Nat.le_add_left 38 j)))) ?_
    refine zF_go (n := 2) (ps := []) (s' := (18, [(3, .int (v3_1 + 7)), (0, .ref 0), (1, .ref 1), (2, .ref 86)], [], zh, M2)) rfl trivial ?_
    exact zF_as (hrec3 _ _ h) rfl
end ZT
