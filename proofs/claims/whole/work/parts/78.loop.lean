section ZLoop
variable {M : zM}
theorem zn_p4 (a : Nat) : nI a + 4 = nI (a + 4) := nI_add a 4
theorem zn_p5 (a : Nat) : nI a + 5 = nI (a + 5) := nI_add a 5
theorem zn_p6 (a : Nat) : nI a + 6 = nI (a + 6) := nI_add a 6
theorem zn_p7 (a : Nat) : nI a + 7 = nI (a + 7) := nI_add a 7
theorem lg_self (x : Int64) : lg_cmp x x = 0 := by
  unfold lg_cmp
  simp [Int64.lt_irrefl]
theorem law_step {S : zSc} {j : Nat} (hj : 7 * j + 7 ≤ S.1) (hS : S.1 ≤ 3584) (hI : zI M) : ∃ M', zI M' ∧ ∀ rc, qL_law_L18 S rc (nI (7 * j), M) = rc (nI (7 * j + 7), M') := by
  have hd : ∀ rc, qL_law_L18 S rc (nI (7 * j), M) = (if (S.2 (7 * j) &&& 63) = 0 then
        (zb2 (qS_thing M (S.2 (7 * j + 1)) (S.2 (7 * j + 2)) (S.2 (7 * j + 3))) fun x4 M5 =>
        zb2 (qM_thing M5 (S.2 (7 * j + 1)) (S.2 (7 * j + 2)) (S.2 (7 * j + 3))) fun x6 M7 =>
        if x4 = x6 then
          (rc (nI (7 * j + 7), M7))
        else
          (some (0, M7)))
      else if (S.2 (7 * j) &&& 63) = 1 then
        (zb2 (qS_step M (S.2 (7 * j + 1)) (S.2 (7 * j + 2))) fun x8 M9 =>
        zb2 (qM_step M9 (S.2 (7 * j + 1)) (S.2 (7 * j + 2))) fun x10 M11 =>
        if x8 = x10 then
          (rc (nI (7 * j + 7), M11))
        else
          (some (0, M11)))
      else if (S.2 (7 * j) &&& 63) = 2 then
        (zb2 (qS_set M (S.2 (7 * j + 1)) (S.2 (7 * j + 2)) (S.2 (7 * j + 3)) (S.2 (7 * j + 4))) fun x12 M13 =>
        zb2 (qM_set M13 (S.2 (7 * j + 1)) (S.2 (7 * j + 2)) (S.2 (7 * j + 3)) (S.2 (7 * j + 4))) fun x14 M15 =>
        if x12 = x14 then
          (rc (nI (7 * j + 7), M15))
        else
          (some (0, M15)))
      else if (S.2 (7 * j) &&& 63) = 3 then
        (zb2 (qS_show M (S.2 (7 * j + 1)) (S.2 (7 * j + 2))) fun x16 M17 =>
        zb2 (qM_show M17 (S.2 (7 * j + 1)) (S.2 (7 * j + 2))) fun x18 M19 =>
        if x16 = x18 then
          (rc (nI (7 * j + 7), M19))
        else
          (some (0, M19)))
      else if (S.2 (7 * j) &&& 63) = 4 then
        (zb2 (qS_sort M (S.2 (7 * j + 1)) (S.2 (7 * j + 2)) (S.2 (7 * j + 3)) (S.2 (7 * j + 4))) fun x20 M21 =>
        zb2 (qM_sort M21 (S.2 (7 * j + 1)) (S.2 (7 * j + 2)) (S.2 (7 * j + 3)) (S.2 (7 * j + 4))) fun x22 M23 =>
        if x20 = x22 then
          (rc (nI (7 * j + 7), M23))
        else
          (some (0, M23)))
      else if (S.2 (7 * j) &&& 63) = 5 then
        (zb2 (qS_change M (S.2 (7 * j + 1)) (S.2 (7 * j + 2)) (S.2 (7 * j + 3))) fun x24 M25 =>
        zb2 (qM_change M25 (S.2 (7 * j + 1)) (S.2 (7 * j + 2)) (S.2 (7 * j + 3))) fun x26 M27 =>
        if x24 = x26 then
          (rc (nI (7 * j + 7), M27))
        else
          (some (0, M27)))
      else if (S.2 (7 * j) &&& 63) = 6 then
        (zb2 (qS_say M (S.2 (7 * j + 1))) fun x28 M29 =>
        zb2 (qM_say M29 (S.2 (7 * j + 1))) fun x30 M31 =>
        if x28 = x30 then
          (rc (nI (7 * j + 7), M31))
        else
          (some (0, M31)))
      else if (S.2 (7 * j) &&& 63) = 7 then
        (zb2 (qS_wipe M) fun x32 M33 =>
        zb2 (qM_wipe M33) fun x34 M35 =>
        if x32 = x34 then
          (rc (nI (7 * j + 7), M35))
        else
          (some (0, M35)))
      else if (S.2 (7 * j) &&& 63) = 8 then
        (zb2 (qS_fault M) fun x36 M37 =>
        zb2 (qM_fault M37) fun x38 M39 =>
        if x36 = x38 then
          (rc (nI (7 * j + 7), M39))
        else
          (some (0, M39)))
      else if (S.2 (7 * j) &&& 63) = 9 then
        (zb2 (qS_list M (S.2 (7 * j + 1))) fun x40 M41 =>
        zb2 (qM_list M41 (S.2 (7 * j + 1))) fun x42 M43 =>
        if x40 = x42 then
          (rc (nI (7 * j + 7), M43))
        else
          (some (0, M43)))
      else if (S.2 (7 * j) &&& 63) = 10 then
        (zb (qS_item M (S.2 (7 * j + 1)) (S.2 (7 * j + 2)) (S.2 (7 * j + 3))) fun x44 =>
        zb (qM_item M (S.2 (7 * j + 1)) (S.2 (7 * j + 2)) (S.2 (7 * j + 3))) fun x45 =>
        if x44 = x45 then
          (rc (nI (7 * j + 7), M))
        else
          (some (0, M)))
      else if (S.2 (7 * j) &&& 63) = 11 then
        (zb2 (qS_law M (S.2 (7 * j + 1))) fun x46 M47 =>
        zb2 (qM_law M47 (S.2 (7 * j + 1))) fun x48 M49 =>
        if x46 = x48 then
          (rc (nI (7 * j + 7), M49))
        else
          (some (0, M49)))
      else if (S.2 (7 * j) &&& 63) = 12 then
        (zb2 (qS_thinks M (S.2 (7 * j + 1)) (S.2 (7 * j + 2))) fun x50 M51 =>
        zb2 (qM_thinks M51 (S.2 (7 * j + 1)) (S.2 (7 * j + 2))) fun x52 M53 =>
        if (lg_cmp x50 x52) = 0 then
          (rc (nI (7 * j + 7), M53))
        else
          (some (0, M53)))
      else if (S.2 (7 * j) &&& 63) = 13 then
        (zb2 (qS_goes M (S.2 (7 * j + 1))) fun x54 M55 =>
        zb (qM_goes M55 (S.2 (7 * j + 1))) fun x56 =>
        if x54 = x56 then
          (rc (nI (7 * j + 7), M55))
        else
          (some (0, M55)))
      else if (S.2 (7 * j) &&& 63) = 14 then
        (zb2 (qS_buys M (S.2 (7 * j + 1)) (S.2 (7 * j + 2)) (S.2 (7 * j + 3))) fun x57 M58 =>
        zb (qM_buys M58 (S.2 (7 * j + 1)) (S.2 (7 * j + 2)) (S.2 (7 * j + 3))) fun x59 =>
        if x57 = x59 then
          (rc (nI (7 * j + 7), M58))
        else
          (some (0, M58)))
      else if (S.2 (7 * j) &&& 63) = 15 then
        (zb2 (qS_saves M (S.2 (7 * j + 1))) fun x60 M61 =>
        zb (qM_saves M61 (S.2 (7 * j + 1))) fun x62 =>
        if (lg_cmp x60 x62) = 0 then
          (rc (nI (7 * j + 7), M61))
        else
          (some (0, M61)))
      else if (S.2 (7 * j) &&& 63) = 16 then
        (zb2 (qS_left M (S.2 (7 * j + 1))) fun x63 M64 =>
        zb (qM_left M64 (S.2 (7 * j + 1))) fun x65 =>
        if (lg_cmp x63 x65) = 0 then
          (rc (nI (7 * j + 7), M64))
        else
          (some (0, M64)))
      else if (S.2 (7 * j) &&& 63) = 17 then
        (zb (qS_row M (S.2 (7 * j + 1))) fun x66 =>
        zb (qM_row M (S.2 (7 * j + 1))) fun x67 =>
        if x66 = x67 then
          (rc (nI (7 * j + 7), M))
        else
          (some (0, M)))
      else if (S.2 (7 * j) &&& 63) = 18 then
        (zb2 (qS_best M (S.2 (7 * j + 1))) fun x68 M69 =>
        zb2 (qM_best M69 (S.2 (7 * j + 1))) fun x70 M71 =>
        if x68 = x70 then
          (rc (nI (7 * j + 7), M71))
        else
          (some (0, M71)))
      else if (S.2 (7 * j) &&& 63) = 19 then
        (zb2 (qS_most M (S.2 (7 * j + 1)) (S.2 (7 * j + 2))) fun x72 M73 =>
        zb2 (qM_most M73 (S.2 (7 * j + 1)) (S.2 (7 * j + 2))) fun x74 M75 =>
        if (lg_cmp x72 x74) = 0 then
          (rc (nI (7 * j + 7), M75))
        else
          (some (0, M75)))
      else if (S.2 (7 * j) &&& 63) = 20 then
        (zb2 (qS_climb M (S.2 (7 * j + 1))) fun x76 M77 =>
        zb2 (qM_climb M77 (S.2 (7 * j + 1))) fun x78 M79 =>
        if x76 = x78 then
          (rc (nI (7 * j + 7), M79))
        else
          (some (0, M79)))
      else if (S.2 (7 * j) &&& 63) = 21 then
        (zb2 (qS_lures M (S.2 (7 * j + 1))) fun x80 M81 =>
        zb2 (qM_lures M81 (S.2 (7 * j + 1))) fun x82 M83 =>
        if x80 = x82 then
          (rc (nI (7 * j + 7), M83))
        else
          (some (0, M83)))
      else if (S.2 (7 * j) &&& 63) = 22 then
        (zb2 (qS_brings M (S.2 (7 * j + 1)) (S.2 (7 * j + 2))) fun x84 M85 =>
        zb2 (qM_brings M85 (S.2 (7 * j + 1)) (S.2 (7 * j + 2))) fun x86 M87 =>
        if (lg_cmp x84 x86) = 0 then
          (rc (nI (7 * j + 7), M87))
        else
          (some (0, M87)))
      else if (S.2 (7 * j) &&& 63) = 23 then
        (zb2 (qS_only M (S.2 (7 * j + 1))) fun x88 M89 =>
        zb (qM_only M89 (S.2 (7 * j + 1))) fun x90 =>
        if x88 = x90 then
          (rc (nI (7 * j + 7), M89))
        else
          (some (0, M89)))
      else if (S.2 (7 * j) &&& 63) = 24 then
        (zb2 (qS_rest M (S.2 (7 * j + 1))) fun x91 M92 =>
        zb2 (qM_rest M92 (S.2 (7 * j + 1))) fun x93 M94 =>
        if x91 = x93 then
          (rc (nI (7 * j + 7), M94))
        else
          (some (0, M94)))
      else if (S.2 (7 * j) &&& 63) = 25 then
        (zb2 (qS_ring M (S.2 (7 * j + 1)) (S.2 (7 * j + 2))) fun x95 M96 =>
        zb2 (qM_ring M96 (S.2 (7 * j + 1)) (S.2 (7 * j + 2))) fun x97 M98 =>
        if x95 = x97 then
          (rc (nI (7 * j + 7), M98))
        else
          (some (0, M98)))
      else if (S.2 (7 * j) &&& 63) = 26 then
        (zb2 (qS_heads M (S.2 (7 * j + 1)) (S.2 (7 * j + 2))) fun x99 M100 =>
        zb2 (qM_heads M100 (S.2 (7 * j + 1)) (S.2 (7 * j + 2))) fun x101 M102 =>
        if x99 = x101 then
          (rc (nI (7 * j + 7), M102))
        else
          (some (0, M102)))
      else if (S.2 (7 * j) &&& 63) = 27 then
        (zb2 (qS_shown M (S.2 (7 * j + 1)) (S.2 (7 * j + 2))) fun x103 M104 =>
        zb2 (qM_shown M104 (S.2 (7 * j + 1)) (S.2 (7 * j + 2))) fun x105 M106 =>
        if x103 = x105 then
          (rc (nI (7 * j + 7), M106))
        else
          (some (0, M106)))
      else if (S.2 (7 * j) &&& 63) = 28 then
        (zb2 (qS_hurt M) fun x107 M108 =>
        zb2 (qM_hurt M108) fun x109 M110 =>
        if x107 = x109 then
          (rc (nI (7 * j + 7), M110))
        else
          (some (0, M110)))
      else if (S.2 (7 * j) &&& 63) = 29 then
        (zb2 (qS_home M (S.2 (7 * j + 1)) (S.2 (7 * j + 2)) (S.2 (7 * j + 3)) (S.2 (7 * j + 4)) (S.2 (7 * j + 5)) (S.2 (7 * j + 6))) fun x111 M112 =>
        zb (qM_home M112 (S.2 (7 * j + 1)) (S.2 (7 * j + 2)) (S.2 (7 * j + 3)) (S.2 (7 * j + 4)) (S.2 (7 * j + 5)) (S.2 (7 * j + 6))) fun x113 =>
        if (lg_cmp x111 x113) = 0 then
          (rc (nI (7 * j + 7), M112))
        else
          (some (0, M112)))
      else if (S.2 (7 * j) &&& 63) = 30 then
        (zb2 (qS_slip M (S.2 (7 * j + 1))) fun x114 M115 =>
        zb2 (qM_slip M115 (S.2 (7 * j + 1))) fun x116 M117 =>
        if x114 = x116 then
          (rc (nI (7 * j + 7), M117))
        else
          (some (0, M117)))
      else if (S.2 (7 * j) &&& 63) = 31 then
        (zb2 (qS_burn M) fun x118 M119 =>
        zb2 (qM_burn M119) fun x120 M121 =>
        if x118 = x120 then
          (rc (nI (7 * j + 7), M121))
        else
          (some (0, M121)))
      else if (S.2 (7 * j) &&& 63) = 32 then
        (zb (qS_with M (S.2 (7 * j + 1)) (S.2 (7 * j + 2))) fun x122 =>
        zb (qM_with M (S.2 (7 * j + 1)) (S.2 (7 * j + 2))) fun x123 =>
        if x122 = x123 then
          (rc (nI (7 * j + 7), M))
        else
          (some (0, M)))
      else if (S.2 (7 * j) &&& 63) = 33 then
        (zb (qS_chance M (S.2 (7 * j + 1)) (S.2 (7 * j + 2)) (S.2 (7 * j + 3))) fun x124 =>
        zb (qM_chance M (S.2 (7 * j + 1)) (S.2 (7 * j + 2)) (S.2 (7 * j + 3))) fun x125 =>
        if (lg_cmp x124 x125) = 0 then
          (rc (nI (7 * j + 7), M))
        else
          (some (0, M)))
      else if (S.2 (7 * j) &&& 63) = 34 then
        (zb2 (qS_edge M (S.2 (7 * j + 1)) (S.2 (7 * j + 2))) fun x126 M127 =>
        zb2 (qM_edge M127 (S.2 (7 * j + 1)) (S.2 (7 * j + 2))) fun x128 M129 =>
        if x126 = x128 then
          (rc (nI (7 * j + 7), M129))
        else
          (some (0, M129)))
      else if (S.2 (7 * j) &&& 63) = 35 then
        (zb2 (qS_image M (S.2 (7 * j + 1))) fun x130 M131 =>
        zb2 (qM_image M131 (S.2 (7 * j + 1))) fun x132 M133 =>
        if x130 = x132 then
          (rc (nI (7 * j + 7), M133))
        else
          (some (0, M133)))
      else if (S.2 (7 * j) &&& 63) = 36 then
        (zb2 (qS_restore M (S.2 (7 * j + 1))) fun x134 M135 =>
        zb2 (qM_restore M135 (S.2 (7 * j + 1))) fun x136 M137 =>
        if x134 = x136 then
          (rc (nI (7 * j + 7), M137))
        else
          (some (0, M137)))
      else if (S.2 (7 * j) &&& 63) = 37 then
        (zb (qS_told M (S.2 (7 * j + 1))) fun x138 =>
        zb (qM_told M (S.2 (7 * j + 1))) fun x139 =>
        if x138 = x139 then
          (rc (nI (7 * j + 7), M))
        else
          (some (0, M)))
      else (rc (nI (7 * j + 7), M))) := by
    intro rc
    unfold qL_law_L18
    dsimp only
    rw [if_neg (show ¬ (Int32.ofNat S.1 - 7 < nI (7 * j)) from (by rw [show Int32.ofNat S.1 - 7 = nI (S.1 - 7) from pk_sub (a := S.1) (b := 7) (by omega)]; exact nI_nlt (by omega) (by omega)))]
    have c0 : (nI (7 * j)).toNatClampNeg = 7 * j := zn_cl (by omega)
    have f0 : ∀ (x : Option (Int32 × zM)), zq (vp_in (nI (7 * j)) S.1) x = x := fun x => by rw [zq_in (by omega) (by omega)]
    have c1 : (nI (7 * j) + 1).toNatClampNeg = 7 * j + 1 := by rw [nI_1]; exact zn_cl (by omega)
    have f1 : ∀ (x : Option (Int32 × zM)), zq (vp_in (nI (7 * j) + 1) S.1) x = x := fun x => by rw [nI_1, zq_in (by omega) (by omega)]
    have c2 : (nI (7 * j) + 2).toNatClampNeg = 7 * j + 2 := by rw [zn_p2]; exact zn_cl (by omega)
    have f2 : ∀ (x : Option (Int32 × zM)), zq (vp_in (nI (7 * j) + 2) S.1) x = x := fun x => by rw [zn_p2, zq_in (by omega) (by omega)]
    have c3 : (nI (7 * j) + 3).toNatClampNeg = 7 * j + 3 := by rw [zn_p3]; exact zn_cl (by omega)
    have f3 : ∀ (x : Option (Int32 × zM)), zq (vp_in (nI (7 * j) + 3) S.1) x = x := fun x => by rw [zn_p3, zq_in (by omega) (by omega)]
    have c4 : (nI (7 * j) + 4).toNatClampNeg = 7 * j + 4 := by rw [zn_p4]; exact zn_cl (by omega)
    have f4 : ∀ (x : Option (Int32 × zM)), zq (vp_in (nI (7 * j) + 4) S.1) x = x := fun x => by rw [zn_p4, zq_in (by omega) (by omega)]
    have c5 : (nI (7 * j) + 5).toNatClampNeg = 7 * j + 5 := by rw [zn_p5]; exact zn_cl (by omega)
    have f5 : ∀ (x : Option (Int32 × zM)), zq (vp_in (nI (7 * j) + 5) S.1) x = x := fun x => by rw [zn_p5, zq_in (by omega) (by omega)]
    have c6 : (nI (7 * j) + 6).toNatClampNeg = 7 * j + 6 := by rw [zn_p6]; exact zn_cl (by omega)
    have f6 : ∀ (x : Option (Int32 × zM)), zq (vp_in (nI (7 * j) + 6) S.1) x = x := fun x => by rw [zn_p6, zq_in (by omega) (by omega)]
    simp (config := {maxSteps := 4000000}) only [c0, c1, c2, c3, c4, c5, c6, f0, f1, f2, f3, f4, f5, f6, zn_p7]
  by_cases h0 : (S.2 (7 * j) &&& 63) = 0
  · obtain ⟨x, M1, M2, e1, e2, e3⟩ := k_thing hI (S.2 (7 * j + 1)) (S.2 (7 * j + 2)) (S.2 (7 * j + 3))
    refine ⟨M2, e3, fun rc => ?_⟩
    rw [hd rc, if_pos h0, zb2_ok e1, zb2_ok e2, if_pos rfl]
  by_cases h1 : (S.2 (7 * j) &&& 63) = 1
  · obtain ⟨x, M1, M2, e1, e2, e3⟩ := k_step hI (S.2 (7 * j + 1)) (S.2 (7 * j + 2))
    refine ⟨M2, e3, fun rc => ?_⟩
    rw [hd rc, if_neg h0, if_pos h1, zb2_ok e1, zb2_ok e2, if_pos rfl]
  by_cases h2 : (S.2 (7 * j) &&& 63) = 2
  · obtain ⟨x, M1, M2, e1, e2, e3⟩ := k_set hI (S.2 (7 * j + 1)) (S.2 (7 * j + 2)) (S.2 (7 * j + 3)) (S.2 (7 * j + 4))
    refine ⟨M2, e3, fun rc => ?_⟩
    rw [hd rc, if_neg h0, if_neg h1, if_pos h2, zb2_ok e1, zb2_ok e2, if_pos rfl]
  by_cases h3 : (S.2 (7 * j) &&& 63) = 3
  · obtain ⟨x, M1, M2, e1, e2, e3⟩ := k_show hI (S.2 (7 * j + 1)) (S.2 (7 * j + 2))
    refine ⟨M2, e3, fun rc => ?_⟩
    rw [hd rc, if_neg h0, if_neg h1, if_neg h2, if_pos h3, zb2_ok e1, zb2_ok e2, if_pos rfl]
  by_cases h4 : (S.2 (7 * j) &&& 63) = 4
  · obtain ⟨x, M1, M2, e1, e2, e3⟩ := k_sort hI (S.2 (7 * j + 1)) (S.2 (7 * j + 2)) (S.2 (7 * j + 3)) (S.2 (7 * j + 4))
    refine ⟨M2, e3, fun rc => ?_⟩
    rw [hd rc, if_neg h0, if_neg h1, if_neg h2, if_neg h3, if_pos h4, zb2_ok e1, zb2_ok e2, if_pos rfl]
  by_cases h5 : (S.2 (7 * j) &&& 63) = 5
  · obtain ⟨x, M1, M2, e1, e2, e3⟩ := k_change hI (S.2 (7 * j + 1)) (S.2 (7 * j + 2)) (S.2 (7 * j + 3))
    refine ⟨M2, e3, fun rc => ?_⟩
    rw [hd rc, if_neg h0, if_neg h1, if_neg h2, if_neg h3, if_neg h4, if_pos h5, zb2_ok e1, zb2_ok e2, if_pos rfl]
  by_cases h6 : (S.2 (7 * j) &&& 63) = 6
  · obtain ⟨x, M1, M2, e1, e2, e3⟩ := k_say hI (S.2 (7 * j + 1))
    refine ⟨M2, e3, fun rc => ?_⟩
    rw [hd rc, if_neg h0, if_neg h1, if_neg h2, if_neg h3, if_neg h4, if_neg h5, if_pos h6, zb2_ok e1, zb2_ok e2, if_pos rfl]
  by_cases h7 : (S.2 (7 * j) &&& 63) = 7
  · obtain ⟨x, M1, M2, e1, e2, e3⟩ := k_wipe hI 
    refine ⟨M2, e3, fun rc => ?_⟩
    rw [hd rc, if_neg h0, if_neg h1, if_neg h2, if_neg h3, if_neg h4, if_neg h5, if_neg h6, if_pos h7, zb2_ok e1, zb2_ok e2, if_pos rfl]
  by_cases h8 : (S.2 (7 * j) &&& 63) = 8
  · obtain ⟨x, M1, M2, e1, e2, e3⟩ := k_fault hI 
    refine ⟨M2, e3, fun rc => ?_⟩
    rw [hd rc, if_neg h0, if_neg h1, if_neg h2, if_neg h3, if_neg h4, if_neg h5, if_neg h6, if_neg h7, if_pos h8, zb2_ok e1, zb2_ok e2, if_pos rfl]
  by_cases h9 : (S.2 (7 * j) &&& 63) = 9
  · obtain ⟨x, M1, M2, e1, e2, e3⟩ := k_list hI (S.2 (7 * j + 1))
    refine ⟨M2, e3, fun rc => ?_⟩
    rw [hd rc, if_neg h0, if_neg h1, if_neg h2, if_neg h3, if_neg h4, if_neg h5, if_neg h6, if_neg h7, if_neg h8, if_pos h9, zb2_ok e1, zb2_ok e2, if_pos rfl]
  by_cases h10 : (S.2 (7 * j) &&& 63) = 10
  · obtain ⟨x, e1, e2⟩ := k_item hI (S.2 (7 * j + 1)) (S.2 (7 * j + 2)) (S.2 (7 * j + 3))
    refine ⟨M, hI, fun rc => ?_⟩
    rw [hd rc, if_neg h0, if_neg h1, if_neg h2, if_neg h3, if_neg h4, if_neg h5, if_neg h6, if_neg h7, if_neg h8, if_neg h9, if_pos h10, zb_ok e1, zb_ok e2, if_pos rfl]
  by_cases h11 : (S.2 (7 * j) &&& 63) = 11
  · obtain ⟨x, M1, M2, e1, e2, e3⟩ := k_law hI (S.2 (7 * j + 1))
    refine ⟨M2, e3, fun rc => ?_⟩
    rw [hd rc, if_neg h0, if_neg h1, if_neg h2, if_neg h3, if_neg h4, if_neg h5, if_neg h6, if_neg h7, if_neg h8, if_neg h9, if_neg h10, if_pos h11, zb2_ok e1, zb2_ok e2, if_pos rfl]
  by_cases h12 : (S.2 (7 * j) &&& 63) = 12
  · obtain ⟨x, M1, M2, e1, e2, e3⟩ := k_thinks hI (S.2 (7 * j + 1)) (S.2 (7 * j + 2))
    refine ⟨M2, e3, fun rc => ?_⟩
    rw [hd rc, if_neg h0, if_neg h1, if_neg h2, if_neg h3, if_neg h4, if_neg h5, if_neg h6, if_neg h7, if_neg h8, if_neg h9, if_neg h10, if_neg h11, if_pos h12, zb2_ok e1, zb2_ok e2, if_pos (lg_self _)]
  by_cases h13 : (S.2 (7 * j) &&& 63) = 13
  · obtain ⟨x, M1, e1, e2, e3⟩ := k_goes hI (S.2 (7 * j + 1))
    refine ⟨M1, e3, fun rc => ?_⟩
    rw [hd rc, if_neg h0, if_neg h1, if_neg h2, if_neg h3, if_neg h4, if_neg h5, if_neg h6, if_neg h7, if_neg h8, if_neg h9, if_neg h10, if_neg h11, if_neg h12, if_pos h13, zb2_ok e1, zb_ok e2, if_pos rfl]
  by_cases h14 : (S.2 (7 * j) &&& 63) = 14
  · obtain ⟨x, M1, e1, e2, e3⟩ := k_buys hI (S.2 (7 * j + 1)) (S.2 (7 * j + 2)) (S.2 (7 * j + 3))
    refine ⟨M1, e3, fun rc => ?_⟩
    rw [hd rc, if_neg h0, if_neg h1, if_neg h2, if_neg h3, if_neg h4, if_neg h5, if_neg h6, if_neg h7, if_neg h8, if_neg h9, if_neg h10, if_neg h11, if_neg h12, if_neg h13, if_pos h14, zb2_ok e1, zb_ok e2, if_pos rfl]
  by_cases h15 : (S.2 (7 * j) &&& 63) = 15
  · obtain ⟨x, M1, e1, e2, e3⟩ := k_saves hI (S.2 (7 * j + 1))
    refine ⟨M1, e3, fun rc => ?_⟩
    rw [hd rc, if_neg h0, if_neg h1, if_neg h2, if_neg h3, if_neg h4, if_neg h5, if_neg h6, if_neg h7, if_neg h8, if_neg h9, if_neg h10, if_neg h11, if_neg h12, if_neg h13, if_neg h14, if_pos h15, zb2_ok e1, zb_ok e2, if_pos (lg_self _)]
  by_cases h16 : (S.2 (7 * j) &&& 63) = 16
  · obtain ⟨x, M1, e1, e2, e3⟩ := k_left hI (S.2 (7 * j + 1))
    refine ⟨M1, e3, fun rc => ?_⟩
    rw [hd rc, if_neg h0, if_neg h1, if_neg h2, if_neg h3, if_neg h4, if_neg h5, if_neg h6, if_neg h7, if_neg h8, if_neg h9, if_neg h10, if_neg h11, if_neg h12, if_neg h13, if_neg h14, if_neg h15, if_pos h16, zb2_ok e1, zb_ok e2, if_pos (lg_self _)]
  by_cases h17 : (S.2 (7 * j) &&& 63) = 17
  · obtain ⟨x, e1, e2⟩ := k_row hI (S.2 (7 * j + 1))
    refine ⟨M, hI, fun rc => ?_⟩
    rw [hd rc, if_neg h0, if_neg h1, if_neg h2, if_neg h3, if_neg h4, if_neg h5, if_neg h6, if_neg h7, if_neg h8, if_neg h9, if_neg h10, if_neg h11, if_neg h12, if_neg h13, if_neg h14, if_neg h15, if_neg h16, if_pos h17, zb_ok e1, zb_ok e2, if_pos rfl]
  by_cases h18 : (S.2 (7 * j) &&& 63) = 18
  · obtain ⟨x, M1, M2, e1, e2, e3⟩ := k_best hI (S.2 (7 * j + 1))
    refine ⟨M2, e3, fun rc => ?_⟩
    rw [hd rc, if_neg h0, if_neg h1, if_neg h2, if_neg h3, if_neg h4, if_neg h5, if_neg h6, if_neg h7, if_neg h8, if_neg h9, if_neg h10, if_neg h11, if_neg h12, if_neg h13, if_neg h14, if_neg h15, if_neg h16, if_neg h17, if_pos h18, zb2_ok e1, zb2_ok e2, if_pos rfl]
  by_cases h19 : (S.2 (7 * j) &&& 63) = 19
  · obtain ⟨x, M1, M2, e1, e2, e3⟩ := k_most hI (S.2 (7 * j + 1)) (S.2 (7 * j + 2))
    refine ⟨M2, e3, fun rc => ?_⟩
    rw [hd rc, if_neg h0, if_neg h1, if_neg h2, if_neg h3, if_neg h4, if_neg h5, if_neg h6, if_neg h7, if_neg h8, if_neg h9, if_neg h10, if_neg h11, if_neg h12, if_neg h13, if_neg h14, if_neg h15, if_neg h16, if_neg h17, if_neg h18, if_pos h19, zb2_ok e1, zb2_ok e2, if_pos (lg_self _)]
  by_cases h20 : (S.2 (7 * j) &&& 63) = 20
  · obtain ⟨x, M1, M2, e1, e2, e3⟩ := k_climb hI (S.2 (7 * j + 1))
    refine ⟨M2, e3, fun rc => ?_⟩
    rw [hd rc, if_neg h0, if_neg h1, if_neg h2, if_neg h3, if_neg h4, if_neg h5, if_neg h6, if_neg h7, if_neg h8, if_neg h9, if_neg h10, if_neg h11, if_neg h12, if_neg h13, if_neg h14, if_neg h15, if_neg h16, if_neg h17, if_neg h18, if_neg h19, if_pos h20, zb2_ok e1, zb2_ok e2, if_pos rfl]
  by_cases h21 : (S.2 (7 * j) &&& 63) = 21
  · obtain ⟨x, M1, M2, e1, e2, e3⟩ := k_lures hI (S.2 (7 * j + 1))
    refine ⟨M2, e3, fun rc => ?_⟩
    rw [hd rc, if_neg h0, if_neg h1, if_neg h2, if_neg h3, if_neg h4, if_neg h5, if_neg h6, if_neg h7, if_neg h8, if_neg h9, if_neg h10, if_neg h11, if_neg h12, if_neg h13, if_neg h14, if_neg h15, if_neg h16, if_neg h17, if_neg h18, if_neg h19, if_neg h20, if_pos h21, zb2_ok e1, zb2_ok e2, if_pos rfl]
  by_cases h22 : (S.2 (7 * j) &&& 63) = 22
  · obtain ⟨x, M1, M2, e1, e2, e3⟩ := k_brings hI (S.2 (7 * j + 1)) (S.2 (7 * j + 2))
    refine ⟨M2, e3, fun rc => ?_⟩
    rw [hd rc, if_neg h0, if_neg h1, if_neg h2, if_neg h3, if_neg h4, if_neg h5, if_neg h6, if_neg h7, if_neg h8, if_neg h9, if_neg h10, if_neg h11, if_neg h12, if_neg h13, if_neg h14, if_neg h15, if_neg h16, if_neg h17, if_neg h18, if_neg h19, if_neg h20, if_neg h21, if_pos h22, zb2_ok e1, zb2_ok e2, if_pos (lg_self _)]
  by_cases h23 : (S.2 (7 * j) &&& 63) = 23
  · obtain ⟨x, M1, e1, e2, e3⟩ := k_only hI (S.2 (7 * j + 1))
    refine ⟨M1, e3, fun rc => ?_⟩
    rw [hd rc, if_neg h0, if_neg h1, if_neg h2, if_neg h3, if_neg h4, if_neg h5, if_neg h6, if_neg h7, if_neg h8, if_neg h9, if_neg h10, if_neg h11, if_neg h12, if_neg h13, if_neg h14, if_neg h15, if_neg h16, if_neg h17, if_neg h18, if_neg h19, if_neg h20, if_neg h21, if_neg h22, if_pos h23, zb2_ok e1, zb_ok e2, if_pos rfl]
  by_cases h24 : (S.2 (7 * j) &&& 63) = 24
  · obtain ⟨x, M1, M2, e1, e2, e3⟩ := k_rest hI (S.2 (7 * j + 1))
    refine ⟨M2, e3, fun rc => ?_⟩
    rw [hd rc, if_neg h0, if_neg h1, if_neg h2, if_neg h3, if_neg h4, if_neg h5, if_neg h6, if_neg h7, if_neg h8, if_neg h9, if_neg h10, if_neg h11, if_neg h12, if_neg h13, if_neg h14, if_neg h15, if_neg h16, if_neg h17, if_neg h18, if_neg h19, if_neg h20, if_neg h21, if_neg h22, if_neg h23, if_pos h24, zb2_ok e1, zb2_ok e2, if_pos rfl]
  by_cases h25 : (S.2 (7 * j) &&& 63) = 25
  · obtain ⟨x, M1, M2, e1, e2, e3⟩ := k_ring hI (S.2 (7 * j + 1)) (S.2 (7 * j + 2))
    refine ⟨M2, e3, fun rc => ?_⟩
    rw [hd rc, if_neg h0, if_neg h1, if_neg h2, if_neg h3, if_neg h4, if_neg h5, if_neg h6, if_neg h7, if_neg h8, if_neg h9, if_neg h10, if_neg h11, if_neg h12, if_neg h13, if_neg h14, if_neg h15, if_neg h16, if_neg h17, if_neg h18, if_neg h19, if_neg h20, if_neg h21, if_neg h22, if_neg h23, if_neg h24, if_pos h25, zb2_ok e1, zb2_ok e2, if_pos rfl]
  by_cases h26 : (S.2 (7 * j) &&& 63) = 26
  · obtain ⟨x, M1, M2, e1, e2, e3⟩ := k_heads hI (S.2 (7 * j + 1)) (S.2 (7 * j + 2))
    refine ⟨M2, e3, fun rc => ?_⟩
    rw [hd rc, if_neg h0, if_neg h1, if_neg h2, if_neg h3, if_neg h4, if_neg h5, if_neg h6, if_neg h7, if_neg h8, if_neg h9, if_neg h10, if_neg h11, if_neg h12, if_neg h13, if_neg h14, if_neg h15, if_neg h16, if_neg h17, if_neg h18, if_neg h19, if_neg h20, if_neg h21, if_neg h22, if_neg h23, if_neg h24, if_neg h25, if_pos h26, zb2_ok e1, zb2_ok e2, if_pos rfl]
  by_cases h27 : (S.2 (7 * j) &&& 63) = 27
  · obtain ⟨x, M1, M2, e1, e2, e3⟩ := k_shown hI (S.2 (7 * j + 1)) (S.2 (7 * j + 2))
    refine ⟨M2, e3, fun rc => ?_⟩
    rw [hd rc, if_neg h0, if_neg h1, if_neg h2, if_neg h3, if_neg h4, if_neg h5, if_neg h6, if_neg h7, if_neg h8, if_neg h9, if_neg h10, if_neg h11, if_neg h12, if_neg h13, if_neg h14, if_neg h15, if_neg h16, if_neg h17, if_neg h18, if_neg h19, if_neg h20, if_neg h21, if_neg h22, if_neg h23, if_neg h24, if_neg h25, if_neg h26, if_pos h27, zb2_ok e1, zb2_ok e2, if_pos rfl]
  by_cases h28 : (S.2 (7 * j) &&& 63) = 28
  · obtain ⟨x, M1, M2, e1, e2, e3⟩ := k_hurt hI 
    refine ⟨M2, e3, fun rc => ?_⟩
    rw [hd rc, if_neg h0, if_neg h1, if_neg h2, if_neg h3, if_neg h4, if_neg h5, if_neg h6, if_neg h7, if_neg h8, if_neg h9, if_neg h10, if_neg h11, if_neg h12, if_neg h13, if_neg h14, if_neg h15, if_neg h16, if_neg h17, if_neg h18, if_neg h19, if_neg h20, if_neg h21, if_neg h22, if_neg h23, if_neg h24, if_neg h25, if_neg h26, if_neg h27, if_pos h28, zb2_ok e1, zb2_ok e2, if_pos rfl]
  by_cases h29 : (S.2 (7 * j) &&& 63) = 29
  · obtain ⟨x, M1, e1, e2, e3⟩ := k_home hI (S.2 (7 * j + 1)) (S.2 (7 * j + 2)) (S.2 (7 * j + 3)) (S.2 (7 * j + 4)) (S.2 (7 * j + 5)) (S.2 (7 * j + 6))
    refine ⟨M1, e3, fun rc => ?_⟩
    rw [hd rc, if_neg h0, if_neg h1, if_neg h2, if_neg h3, if_neg h4, if_neg h5, if_neg h6, if_neg h7, if_neg h8, if_neg h9, if_neg h10, if_neg h11, if_neg h12, if_neg h13, if_neg h14, if_neg h15, if_neg h16, if_neg h17, if_neg h18, if_neg h19, if_neg h20, if_neg h21, if_neg h22, if_neg h23, if_neg h24, if_neg h25, if_neg h26, if_neg h27, if_neg h28, if_pos h29, zb2_ok e1, zb_ok e2, if_pos (lg_self _)]
  by_cases h30 : (S.2 (7 * j) &&& 63) = 30
  · obtain ⟨x, M1, M2, e1, e2, e3⟩ := k_slip hI (S.2 (7 * j + 1))
    refine ⟨M2, e3, fun rc => ?_⟩
    rw [hd rc, if_neg h0, if_neg h1, if_neg h2, if_neg h3, if_neg h4, if_neg h5, if_neg h6, if_neg h7, if_neg h8, if_neg h9, if_neg h10, if_neg h11, if_neg h12, if_neg h13, if_neg h14, if_neg h15, if_neg h16, if_neg h17, if_neg h18, if_neg h19, if_neg h20, if_neg h21, if_neg h22, if_neg h23, if_neg h24, if_neg h25, if_neg h26, if_neg h27, if_neg h28, if_neg h29, if_pos h30, zb2_ok e1, zb2_ok e2, if_pos rfl]
  by_cases h31 : (S.2 (7 * j) &&& 63) = 31
  · obtain ⟨x, M1, M2, e1, e2, e3⟩ := k_burn hI 
    refine ⟨M2, e3, fun rc => ?_⟩
    rw [hd rc, if_neg h0, if_neg h1, if_neg h2, if_neg h3, if_neg h4, if_neg h5, if_neg h6, if_neg h7, if_neg h8, if_neg h9, if_neg h10, if_neg h11, if_neg h12, if_neg h13, if_neg h14, if_neg h15, if_neg h16, if_neg h17, if_neg h18, if_neg h19, if_neg h20, if_neg h21, if_neg h22, if_neg h23, if_neg h24, if_neg h25, if_neg h26, if_neg h27, if_neg h28, if_neg h29, if_neg h30, if_pos h31, zb2_ok e1, zb2_ok e2, if_pos rfl]
  by_cases h32 : (S.2 (7 * j) &&& 63) = 32
  · obtain ⟨x, e1, e2⟩ := k_with hI (S.2 (7 * j + 1)) (S.2 (7 * j + 2))
    refine ⟨M, hI, fun rc => ?_⟩
    rw [hd rc, if_neg h0, if_neg h1, if_neg h2, if_neg h3, if_neg h4, if_neg h5, if_neg h6, if_neg h7, if_neg h8, if_neg h9, if_neg h10, if_neg h11, if_neg h12, if_neg h13, if_neg h14, if_neg h15, if_neg h16, if_neg h17, if_neg h18, if_neg h19, if_neg h20, if_neg h21, if_neg h22, if_neg h23, if_neg h24, if_neg h25, if_neg h26, if_neg h27, if_neg h28, if_neg h29, if_neg h30, if_neg h31, if_pos h32, zb_ok e1, zb_ok e2, if_pos rfl]
  by_cases h33 : (S.2 (7 * j) &&& 63) = 33
  · obtain ⟨x, e1, e2⟩ := k_chance hI (S.2 (7 * j + 1)) (S.2 (7 * j + 2)) (S.2 (7 * j + 3))
    refine ⟨M, hI, fun rc => ?_⟩
    rw [hd rc, if_neg h0, if_neg h1, if_neg h2, if_neg h3, if_neg h4, if_neg h5, if_neg h6, if_neg h7, if_neg h8, if_neg h9, if_neg h10, if_neg h11, if_neg h12, if_neg h13, if_neg h14, if_neg h15, if_neg h16, if_neg h17, if_neg h18, if_neg h19, if_neg h20, if_neg h21, if_neg h22, if_neg h23, if_neg h24, if_neg h25, if_neg h26, if_neg h27, if_neg h28, if_neg h29, if_neg h30, if_neg h31, if_neg h32, if_pos h33, zb_ok e1, zb_ok e2, if_pos (lg_self _)]
  by_cases h34 : (S.2 (7 * j) &&& 63) = 34
  · obtain ⟨x, M1, M2, e1, e2, e3⟩ := k_edge hI (S.2 (7 * j + 1)) (S.2 (7 * j + 2))
    refine ⟨M2, e3, fun rc => ?_⟩
    rw [hd rc, if_neg h0, if_neg h1, if_neg h2, if_neg h3, if_neg h4, if_neg h5, if_neg h6, if_neg h7, if_neg h8, if_neg h9, if_neg h10, if_neg h11, if_neg h12, if_neg h13, if_neg h14, if_neg h15, if_neg h16, if_neg h17, if_neg h18, if_neg h19, if_neg h20, if_neg h21, if_neg h22, if_neg h23, if_neg h24, if_neg h25, if_neg h26, if_neg h27, if_neg h28, if_neg h29, if_neg h30, if_neg h31, if_neg h32, if_neg h33, if_pos h34, zb2_ok e1, zb2_ok e2, if_pos rfl]
  by_cases h35 : (S.2 (7 * j) &&& 63) = 35
  · obtain ⟨x, M1, M2, e1, e2, e3⟩ := k_image hI (S.2 (7 * j + 1))
    refine ⟨M2, e3, fun rc => ?_⟩
    rw [hd rc, if_neg h0, if_neg h1, if_neg h2, if_neg h3, if_neg h4, if_neg h5, if_neg h6, if_neg h7, if_neg h8, if_neg h9, if_neg h10, if_neg h11, if_neg h12, if_neg h13, if_neg h14, if_neg h15, if_neg h16, if_neg h17, if_neg h18, if_neg h19, if_neg h20, if_neg h21, if_neg h22, if_neg h23, if_neg h24, if_neg h25, if_neg h26, if_neg h27, if_neg h28, if_neg h29, if_neg h30, if_neg h31, if_neg h32, if_neg h33, if_neg h34, if_pos h35, zb2_ok e1, zb2_ok e2, if_pos rfl]
  by_cases h36 : (S.2 (7 * j) &&& 63) = 36
  · obtain ⟨x, M1, M2, e1, e2, e3⟩ := k_restore hI (S.2 (7 * j + 1))
    refine ⟨M2, e3, fun rc => ?_⟩
    rw [hd rc, if_neg h0, if_neg h1, if_neg h2, if_neg h3, if_neg h4, if_neg h5, if_neg h6, if_neg h7, if_neg h8, if_neg h9, if_neg h10, if_neg h11, if_neg h12, if_neg h13, if_neg h14, if_neg h15, if_neg h16, if_neg h17, if_neg h18, if_neg h19, if_neg h20, if_neg h21, if_neg h22, if_neg h23, if_neg h24, if_neg h25, if_neg h26, if_neg h27, if_neg h28, if_neg h29, if_neg h30, if_neg h31, if_neg h32, if_neg h33, if_neg h34, if_neg h35, if_pos h36, zb2_ok e1, zb2_ok e2, if_pos rfl]
  by_cases h37 : (S.2 (7 * j) &&& 63) = 37
  · obtain ⟨x, e1, e2⟩ := k_told hI (S.2 (7 * j + 1))
    refine ⟨M, hI, fun rc => ?_⟩
    rw [hd rc, if_neg h0, if_neg h1, if_neg h2, if_neg h3, if_neg h4, if_neg h5, if_neg h6, if_neg h7, if_neg h8, if_neg h9, if_neg h10, if_neg h11, if_neg h12, if_neg h13, if_neg h14, if_neg h15, if_neg h16, if_neg h17, if_neg h18, if_neg h19, if_neg h20, if_neg h21, if_neg h22, if_neg h23, if_neg h24, if_neg h25, if_neg h26, if_neg h27, if_neg h28, if_neg h29, if_neg h30, if_neg h31, if_neg h32, if_neg h33, if_neg h34, if_neg h35, if_neg h36, if_pos h37, zb_ok e1, zb_ok e2, if_pos rfl]
  refine ⟨M, hI, fun rc => ?_⟩
  rw [hd rc, if_neg h0, if_neg h1, if_neg h2, if_neg h3, if_neg h4, if_neg h5, if_neg h6, if_neg h7, if_neg h8, if_neg h9, if_neg h10, if_neg h11, if_neg h12, if_neg h13, if_neg h14, if_neg h15, if_neg h16, if_neg h17, if_neg h18, if_neg h19, if_neg h20, if_neg h21, if_neg h22, if_neg h23, if_neg h24, if_neg h25, if_neg h26, if_neg h27, if_neg h28, if_neg h29, if_neg h30, if_neg h31, if_neg h32, if_neg h33, if_neg h34, if_neg h35, if_neg h36, if_neg h37]
end ZLoop
