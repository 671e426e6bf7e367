section ZT
noncomputable def qE_copy_29_10 (M : zM) : Option (zM) :=
  some (zA (zA (zA (zA (zA (zA (zA (zw M 29 0 (M 10 0)) 30 (va_cpy (M 11) (M 30) ((0 : Int32).toNatClampNeg) ((0 : Int32).toNatClampNeg) ((5 : Int32).toNatClampNeg))) 31 (va_cpy (M 12) (M 31) ((0 : Int32).toNatClampNeg) ((0 : Int32).toNatClampNeg) ((10 : Int32).toNatClampNeg))) 32 (va_cpy (M 13) (M 32) ((0 : Int32).toNatClampNeg) ((0 : Int32).toNatClampNeg) ((5 : Int32).toNatClampNeg))) 33 (va_cpy (M 14) (M 33) ((0 : Int32).toNatClampNeg) ((0 : Int32).toNatClampNeg) ((5 : Int32).toNatClampNeg))) 34 (va_cpy (M 15) (M 34) ((0 : Int32).toNatClampNeg) ((0 : Int32).toNatClampNeg) ((20 : Int32).toNatClampNeg))) 35 (va_cpy (M 16) (M 35) ((0 : Int32).toNatClampNeg) ((0 : Int32).toNatClampNeg) ((20 : Int32).toNatClampNeg))) 36 (va_cpy (M 17) (M 36) ((0 : Int32).toNatClampNeg) ((0 : Int32).toNatClampNeg) ((20 : Int32).toNatClampNeg)))
set_option maxRecDepth 20000 in
set_option maxHeartbeats 4000000 in
theorem qE_copy_29_10_ok {S : zSc} {M : zM} {r : zM} (h : qE_copy_29_10 M = some r) : zF S 39 (0, [(0, .ref 29), (1, .ref 10)], [], zh, M) (none) (r) := by
  unfold qE_copy_29_10 at h
  refine zF_go (n := 60) (ps := [¬ (0 : Int32) < 0, ¬ (0 : Int32) < 0, ¬ (5 : Int32) < 0, (0 : Int32).toNatClampNeg + (5 : Int32).toNatClampNeg ≤ 5, (0 : Int32).toNatClampNeg + (5 : Int32).toNatClampNeg ≤ 5, ¬ (0 : Int32) < 0, ¬ (0 : Int32) < 0, ¬ (10 : Int32) < 0, (0 : Int32).toNatClampNeg + (10 : Int32).toNatClampNeg ≤ 10, (0 : Int32).toNatClampNeg + (10 : Int32).toNatClampNeg ≤ 10, ¬ (0 : Int32) < 0, ¬ (0 : Int32) < 0, ¬ (5 : Int32) < 0, (0 : Int32).toNatClampNeg + (5 : Int32).toNatClampNeg ≤ 5, (0 : Int32).toNatClampNeg + (5 : Int32).toNatClampNeg ≤ 5, ¬ (0 : Int32) < 0, ¬ (0 : Int32) < 0, ¬ (5 : Int32) < 0, (0 : Int32).toNatClampNeg + (5 : Int32).toNatClampNeg ≤ 5, (0 : Int32).toNatClampNeg + (5 : Int32).toNatClampNeg ≤ 5, ¬ (0 : Int32) < 0, ¬ (0 : Int32) < 0, ¬ (20 : Int32) < 0, (0 : Int32).toNatClampNeg + (20 : Int32).toNatClampNeg ≤ 20, (0 : Int32).toNatClampNeg + (20 : Int32).toNatClampNeg ≤ 20, ¬ (0 : Int32) < 0, ¬ (0 : Int32) < 0, ¬ (20 : Int32) < 0, (0 : Int32).toNatClampNeg + (20 : Int32).toNatClampNeg ≤ 20, (0 : Int32).toNatClampNeg + (20 : Int32).toNatClampNeg ≤ 20, ¬ (0 : Int32) < 0, ¬ (0 : Int32) < 0, ¬ (20 : Int32) < 0, (0 : Int32).toNatClampNeg + (20 : Int32).toNatClampNeg ≤ 20, (0 : Int32).toNatClampNeg + (20 : Int32).toNatClampNeg ≤ 20]) (s' := (110, [(0, .ref 29), (1, .ref 10)], [], zh, (zA (zA (zA (zA (zA (zA (zA (zw M 29 0 (M 10 0)) 30 (va_cpy (M 11) (M 30) ((0 : Int32).toNatClampNeg) ((0 : Int32).toNatClampNeg) ((5 : Int32).toNatClampNeg))) 31 (va_cpy (M 12) (M 31) ((0 : Int32).toNatClampNeg) ((0 : Int32).toNatClampNeg) ((10 : Int32).toNatClampNeg))) 32 (va_cpy (M 13) (M 32) ((0 : Int32).toNatClampNeg) ((0 : Int32).toNatClampNeg) ((5 : Int32).toNatClampNeg))) 33 (va_cpy (M 14) (M 33) ((0 : Int32).toNatClampNeg) ((0 : Int32).toNatClampNeg) ((5 : Int32).toNatClampNeg))) 34 (va_cpy (M 15) (M 34) ((0 : Int32).toNatClampNeg) ((0 : Int32).toNatClampNeg) ((20 : Int32).toNatClampNeg))) 35 (va_cpy (M 16) (M 35) ((0 : Int32).toNatClampNeg) ((0 : Int32).toNatClampNeg) ((20 : Int32).toNatClampNeg))) 36 (va_cpy (M 17) (M 36) ((0 : Int32).toNatClampNeg) ((0 : Int32).toNatClampNeg) ((20 : Int32).toNatClampNeg))))) rfl ⟨(by decide), (by decide), (by decide), (by decide), (by decide), (by decide), (by decide), (by decide), (by decide), (by decide), (by decide), (by decide), (by decide), (by decide), (by decide), (by decide), (by decide), (by decide), (by decide), (by decide), (by decide), (by decide), (by decide), (by decide), (by decide), (by decide), (by decide), (by decide), (by decide), (by decide), (by decide), (by decide), (by decide), (by decide), (by decide), trivial⟩ ?_
  cases h
  exact zF_ret rfl trivial
noncomputable def qT_copy_37_18 (M : zM) : Option (zM) :=
  some (zA (zw M 37 0 (M 18 0)) 38 (va_cpy (M 19) (M 38) ((0 : Int32).toNatClampNeg) ((0 : Int32).toNatClampNeg) ((30 : Int32).toNatClampNeg)))
set_option maxRecDepth 20000 in
set_option maxHeartbeats 4000000 in
theorem qT_copy_37_18_ok {S : zSc} {M : zM} {r : zM} (h : qT_copy_37_18 M = some r) : zF S 54 (0, [(0, .ref 37), (1, .ref 18)], [], zh, M) (none) (r) := by
  unfold qT_copy_37_18 at h
  refine zF_go (n := 12) (ps := [¬ (0 : Int32) < 0, ¬ (0 : Int32) < 0, ¬ (30 : Int32) < 0, (0 : Int32).toNatClampNeg + (30 : Int32).toNatClampNeg ≤ 30, (0 : Int32).toNatClampNeg + (30 : Int32).toNatClampNeg ≤ 30]) (s' := (23, [(0, .ref 37), (1, .ref 18)], [], zh, (zA (zw M 37 0 (M 18 0)) 38 (va_cpy (M 19) (M 38) ((0 : Int32).toNatClampNeg) ((0 : Int32).toNatClampNeg) ((30 : Int32).toNatClampNeg))))) rfl ⟨(by decide), (by decide), (by decide), (by decide), (by decide), trivial⟩ ?_
  cases h
  exact zF_ret rfl trivial
noncomputable def qO_copy_21_2 (M : zM) : Option (zM) :=
  zb (qG_copy_22_3 M) fun M1 =>
  zb (qE_copy_29_10 M1) fun M2 =>
  zb (qT_copy_37_18 M2) fun M3 =>
  some (zw M3 21 3 (M3 2 3))
set_option maxRecDepth 20000 in
set_option maxHeartbeats 4000000 in
theorem qO_copy_21_2_ok {S : zSc} {M : zM} {r : zM} (h : qO_copy_21_2 M = some r) : zF S 62 (0, [(0, .ref 21), (1, .ref 2)], [], zh, M) (none) (r) := by
  unfold qO_copy_21_2 at h
  refine zF_go (n := 4) (ps := []) (s' := (8, [(0, .ref 21), (1, .ref 2)], [.ref 3, .ref 22], zh, M)) rfl trivial ?_
  obtain ⟨M1, e4, h⟩ := zb_some h
  refine zF_call (y' := 13) (as := [.ref 22, .ref 3]) (u := (11, [(0, .ref 21), (1, .ref 2)], [], zh, M)) rfl ⟨rfl, rfl⟩ rfl (qG_copy_22_3_ok (S := S) (M := M) e4) ?_
  show zF S 62 (11, [(0, .ref 21), (1, .ref 2)], [], zh, M1) _ _
  refine zF_go (n := 4) (ps := []) (s' := (19, [(0, .ref 21), (1, .ref 2)], [.ref 10, .ref 29], zh, M1)) rfl trivial ?_
  obtain ⟨M2, e5, h⟩ := zb_some h
  refine zF_call (y' := 39) (as := [.ref 29, .ref 10]) (u := (22, [(0, .ref 21), (1, .ref 2)], [], zh, M1)) rfl ⟨rfl, rfl⟩ rfl (qE_copy_29_10_ok (S := S) (M := M1) e5) ?_
  show zF S 62 (22, [(0, .ref 21), (1, .ref 2)], [], zh, M2) _ _
  refine zF_go (n := 4) (ps := []) (s' := (30, [(0, .ref 21), (1, .ref 2)], [.ref 18, .ref 37], zh, M2)) rfl trivial ?_
  obtain ⟨M3, e6, h⟩ := zb_some h
  refine zF_call (y' := 54) (as := [.ref 37, .ref 18]) (u := (33, [(0, .ref 21), (1, .ref 2)], [], zh, M2)) rfl ⟨rfl, rfl⟩ rfl (qT_copy_37_18_ok (S := S) (M := M2) e6) ?_
  show zF S 62 (33, [(0, .ref 21), (1, .ref 2)], [], zh, M3) _ _
  refine zF_go (n := 4) (ps := []) (s' := (41, [(0, .ref 21), (1, .ref 2)], [], zh, (zw M3 21 3 (M3 2 3)))) rfl trivial ?_
  cases h
  exact zF_ret rfl trivial
noncomputable def qG_copy_40_3 (M : zM) : Option (zM) :=
  some (zA (zA (zA (zA (zA (zA (zw M 40 0 (M 3 0)) 41 (va_cpy (M 4) (M 41) ((0 : Int32).toNatClampNeg) ((0 : Int32).toNatClampNeg) ((4 : Int32).toNatClampNeg))) 42 (va_cpy (M 5) (M 42) ((0 : Int32).toNatClampNeg) ((0 : Int32).toNatClampNeg) ((12 : Int32).toNatClampNeg))) 43 (va_cpy (M 6) (M 43) ((0 : Int32).toNatClampNeg) ((0 : Int32).toNatClampNeg) ((8 : Int32).toNatClampNeg))) 44 (va_cpy (M 7) (M 44) ((0 : Int32).toNatClampNeg) ((0 : Int32).toNatClampNeg) ((8 : Int32).toNatClampNeg))) 45 (va_cpy (M 8) (M 45) ((0 : Int32).toNatClampNeg) ((0 : Int32).toNatClampNeg) ((8 : Int32).toNatClampNeg))) 46 (va_cpy (M 9) (M 46) ((0 : Int32).toNatClampNeg) ((0 : Int32).toNatClampNeg) ((2 : Int32).toNatClampNeg)))
set_option maxRecDepth 20000 in
set_option maxHeartbeats 4000000 in
theorem qG_copy_40_3_ok {S : zSc} {M : zM} {r : zM} (h : qG_copy_40_3 M = some r) : zF S 13 (0, [(0, .ref 40), (1, .ref 3)], [], zh, M) (none) (r) := by
  unfold qG_copy_40_3 at h
  refine zF_go (n := 52) (ps := [¬ (0 : Int32) < 0, ¬ (0 : Int32) < 0, ¬ (4 : Int32) < 0, (0 : Int32).toNatClampNeg + (4 : Int32).toNatClampNeg ≤ 4, (0 : Int32).toNatClampNeg + (4 : Int32).toNatClampNeg ≤ 4, ¬ (0 : Int32) < 0, ¬ (0 : Int32) < 0, ¬ (12 : Int32) < 0, (0 : Int32).toNatClampNeg + (12 : Int32).toNatClampNeg ≤ 12, (0 : Int32).toNatClampNeg + (12 : Int32).toNatClampNeg ≤ 12, ¬ (0 : Int32) < 0, ¬ (0 : Int32) < 0, ¬ (8 : Int32) < 0, (0 : Int32).toNatClampNeg + (8 : Int32).toNatClampNeg ≤ 8, (0 : Int32).toNatClampNeg + (8 : Int32).toNatClampNeg ≤ 8, ¬ (0 : Int32) < 0, ¬ (0 : Int32) < 0, ¬ (8 : Int32) < 0, (0 : Int32).toNatClampNeg + (8 : Int32).toNatClampNeg ≤ 8, (0 : Int32).toNatClampNeg + (8 : Int32).toNatClampNeg ≤ 8, ¬ (0 : Int32) < 0, ¬ (0 : Int32) < 0, ¬ (8 : Int32) < 0, (0 : Int32).toNatClampNeg + (8 : Int32).toNatClampNeg ≤ 8, (0 : Int32).toNatClampNeg + (8 : Int32).toNatClampNeg ≤ 8, ¬ (0 : Int32) < 0, ¬ (0 : Int32) < 0, ¬ (2 : Int32) < 0, (0 : Int32).toNatClampNeg + (2 : Int32).toNatClampNeg ≤ 2, (0 : Int32).toNatClampNeg + (2 : Int32).toNatClampNeg ≤ 2]) (s' := (96, [(0, .ref 40), (1, .ref 3)], [], zh, (zA (zA (zA (zA (zA (zA (zw M 40 0 (M 3 0)) 41 (va_cpy (M 4) (M 41) ((0 : Int32).toNatClampNeg) ((0 : Int32).toNatClampNeg) ((4 : Int32).toNatClampNeg))) 42 (va_cpy (M 5) (M 42) ((0 : Int32).toNatClampNeg) ((0 : Int32).toNatClampNeg) ((12 : Int32).toNatClampNeg))) 43 (va_cpy (M 6) (M 43) ((0 : Int32).toNatClampNeg) ((0 : Int32).toNatClampNeg) ((8 : Int32).toNatClampNeg))) 44 (va_cpy (M 7) (M 44) ((0 : Int32).toNatClampNeg) ((0 : Int32).toNatClampNeg) ((8 : Int32).toNatClampNeg))) 45 (va_cpy (M 8) (M 45) ((0 : Int32).toNatClampNeg) ((0 : Int32).toNatClampNeg) ((8 : Int32).toNatClampNeg))) 46 (va_cpy (M 9) (M 46) ((0 : Int32).toNatClampNeg) ((0 : Int32).toNatClampNeg) ((2 : Int32).toNatClampNeg))))) rfl ⟨(by decide), (by decide), (by decide), (by decide), (by decide), (by decide), (by decide), (by decide), (by decide), (by decide), (by decide), (by decide), (by decide), (by decide), (by decide), (by decide), (by decide), (by decide), (by decide), (by decide), (by decide), (by decide), (by decide), (by decide), (by decide), (by decide), (by decide), (by decide), (by decide), (by decide), trivial⟩ ?_
  cases h
  exact zF_ret rfl trivial
noncomputable def qE_copy_47_10 (M : zM) : Option (zM) :=
  some (zA (zA (zA (zA (zA (zA (zA (zw M 47 0 (M 10 0)) 48 (va_cpy (M 11) (M 48) ((0 : Int32).toNatClampNeg) ((0 : Int32).toNatClampNeg) ((5 : Int32).toNatClampNeg))) 49 (va_cpy (M 12) (M 49) ((0 : Int32).toNatClampNeg) ((0 : Int32).toNatClampNeg) ((10 : Int32).toNatClampNeg))) 50 (va_cpy (M 13) (M 50) ((0 : Int32).toNatClampNeg) ((0 : Int32).toNatClampNeg) ((5 : Int32).toNatClampNeg))) 51 (va_cpy (M 14) (M 51) ((0 : Int32).toNatClampNeg) ((0 : Int32).toNatClampNeg) ((5 : Int32).toNatClampNeg))) 52 (va_cpy (M 15) (M 52) ((0 : Int32).toNatClampNeg) ((0 : Int32).toNatClampNeg) ((20 : Int32).toNatClampNeg))) 53 (va_cpy (M 16) (M 53) ((0 : Int32).toNatClampNeg) ((0 : Int32).toNatClampNeg) ((20 : Int32).toNatClampNeg))) 54 (va_cpy (M 17) (M 54) ((0 : Int32).toNatClampNeg) ((0 : Int32).toNatClampNeg) ((20 : Int32).toNatClampNeg)))
set_option maxRecDepth 20000 in
set_option maxHeartbeats 4000000 in
theorem qE_copy_47_10_ok {S : zSc} {M : zM} {r : zM} (h : qE_copy_47_10 M = some r) : zF S 39 (0, [(0, .ref 47), (1, .ref 10)], [], zh, M) (none) (r) := by
  unfold qE_copy_47_10 at h
  refine zF_go (n := 60) (ps := [¬ (0 : Int32) < 0, ¬ (0 : Int32) < 0, ¬ (5 : Int32) < 0, (0 : Int32).toNatClampNeg + (5 : Int32).toNatClampNeg ≤ 5, (0 : Int32).toNatClampNeg + (5 : Int32).toNatClampNeg ≤ 5, ¬ (0 : Int32) < 0, ¬ (0 : Int32) < 0, ¬ (10 : Int32) < 0, (0 : Int32).toNatClampNeg + (10 : Int32).toNatClampNeg ≤ 10, (0 : Int32).toNatClampNeg + (10 : Int32).toNatClampNeg ≤ 10, ¬ (0 : Int32) < 0, ¬ (0 : Int32) < 0, ¬ (5 : Int32) < 0, (0 : Int32).toNatClampNeg + (5 : Int32).toNatClampNeg ≤ 5, (0 : Int32).toNatClampNeg + (5 : Int32).toNatClampNeg ≤ 5, ¬ (0 : Int32) < 0, ¬ (0 : Int32) < 0, ¬ (5 : Int32) < 0, (0 : Int32).toNatClampNeg + (5 : Int32).toNatClampNeg ≤ 5, (0 : Int32).toNatClampNeg + (5 : Int32).toNatClampNeg ≤ 5, ¬ (0 : Int32) < 0, ¬ (0 : Int32) < 0, ¬ (20 : Int32) < 0, (0 : Int32).toNatClampNeg + (20 : Int32).toNatClampNeg ≤ 20, (0 : Int32).toNatClampNeg + (20 : Int32).toNatClampNeg ≤ 20, ¬ (0 : Int32) < 0, ¬ (0 : Int32) < 0, ¬ (20 : Int32) < 0, (0 : Int32).toNatClampNeg + (20 : Int32).toNatClampNeg ≤ 20, (0 : Int32).toNatClampNeg + (20 : Int32).toNatClampNeg ≤ 20, ¬ (0 : Int32) < 0, ¬ (0 : Int32) < 0, ¬ (20 : Int32) < 0, (0 : Int32).toNatClampNeg + (20 : Int32).toNatClampNeg ≤ 20, (0 : Int32).toNatClampNeg + (20 : Int32).toNatClampNeg ≤ 20]) (s' := (110, [(0, .ref 47), (1, .ref 10)], [], zh, (zA (zA (zA (zA (zA (zA (zA (zw M 47 0 (M 10 0)) 48 (va_cpy (M 11) (M 48) ((0 : Int32).toNatClampNeg) ((0 : Int32).toNatClampNeg) ((5 : Int32).toNatClampNeg))) 49 (va_cpy (M 12) (M 49) ((0 : Int32).toNatClampNeg) ((0 : Int32).toNatClampNeg) ((10 : Int32).toNatClampNeg))) 50 (va_cpy (M 13) (M 50) ((0 : Int32).toNatClampNeg) ((0 : Int32).toNatClampNeg) ((5 : Int32).toNatClampNeg))) 51 (va_cpy (M 14) (M 51) ((0 : Int32).toNatClampNeg) ((0 : Int32).toNatClampNeg) ((5 : Int32).toNatClampNeg))) 52 (va_cpy (M 15) (M 52) ((0 : Int32).toNatClampNeg) ((0 : Int32).toNatClampNeg) ((20 : Int32).toNatClampNeg))) 53 (va_cpy (M 16) (M 53) ((0 : Int32).toNatClampNeg) ((0 : Int32).toNatClampNeg) ((20 : Int32).toNatClampNeg))) 54 (va_cpy (M 17) (M 54) ((0 : Int32).toNatClampNeg) ((0 : Int32).toNatClampNeg) ((20 : Int32).toNatClampNeg))))) rfl ⟨(by decide), (by decide), (by decide), (by decide), (by decide), (by decide), (by decide), (by decide), (by decide), (by decide), (by decide), (by decide), (by decide), (by decide), (by decide), (by decide), (by decide), (by decide), (by decide), (by decide), (by decide), (by decide), (by decide), (by decide), (by decide), (by decide), (by decide), (by decide), (by decide), (by decide), (by decide), (by decide), (by decide), (by decide), (by decide), trivial⟩ ?_
  cases h
  exact zF_ret rfl trivial
noncomputable def qT_copy_55_18 (M : zM) : Option (zM) :=
  some (zA (zw M 55 0 (M 18 0)) 56 (va_cpy (M 19) (M 56) ((0 : Int32).toNatClampNeg) ((0 : Int32).toNatClampNeg) ((30 : Int32).toNatClampNeg)))
set_option maxRecDepth 20000 in
set_option maxHeartbeats 4000000 in
theorem qT_copy_55_18_ok {S : zSc} {M : zM} {r : zM} (h : qT_copy_55_18 M = some r) : zF S 54 (0, [(0, .ref 55), (1, .ref 18)], [], zh, M) (none) (r) := by
  unfold qT_copy_55_18 at h
  refine zF_go (n := 12) (ps := [¬ (0 : Int32) < 0, ¬ (0 : Int32) < 0, ¬ (30 : Int32) < 0, (0 : Int32).toNatClampNeg + (30 : Int32).toNatClampNeg ≤ 30, (0 : Int32).toNatClampNeg + (30 : Int32).toNatClampNeg ≤ 30]) (s' := (23, [(0, .ref 55), (1, .ref 18)], [], zh, (zA (zw M 55 0 (M 18 0)) 56 (va_cpy (M 19) (M 56) ((0 : Int32).toNatClampNeg) ((0 : Int32).toNatClampNeg) ((30 : Int32).toNatClampNeg))))) rfl ⟨(by decide), (by decide), (by decide), (by decide), (by decide), trivial⟩ ?_
  cases h
  exact zF_ret rfl trivial
noncomputable def qO_copy_39_2 (M : zM) : Option (zM) :=
  zb (qG_copy_40_3 M) fun M1 =>
  zb (qE_copy_47_10 M1) fun M2 =>
  zb (qT_copy_55_18 M2) fun M3 =>
  some (zw M3 39 3 (M3 2 3))
set_option maxRecDepth 20000 in
set_option maxHeartbeats 4000000 in
theorem qO_copy_39_2_ok {S : zSc} {M : zM} {r : zM} (h : qO_copy_39_2 M = some r) : zF S 62 (0, [(0, .ref 39), (1, .ref 2)], [], zh, M) (none) (r) := by
  unfold qO_copy_39_2 at h
  refine zF_go (n := 4) (ps := []) (s' := (8, [(0, .ref 39), (1, .ref 2)], [.ref 3, .ref 40], zh, M)) rfl trivial ?_
  obtain ⟨M1, e4, h⟩ := zb_some h
  refine zF_call (y' := 13) (as := [.ref 40, .ref 3]) (u := (11, [(0, .ref 39), (1, .ref 2)], [], zh, M)) rfl ⟨rfl, rfl⟩ rfl (qG_copy_40_3_ok (S := S) (M := M) e4) ?_
  show zF S 62 (11, [(0, .ref 39), (1, .ref 2)], [], zh, M1) _ _
  refine zF_go (n := 4) (ps := []) (s' := (19, [(0, .ref 39), (1, .ref 2)], [.ref 10, .ref 47], zh, M1)) rfl trivial ?_
  obtain ⟨M2, e5, h⟩ := zb_some h
  refine zF_call (y' := 39) (as := [.ref 47, .ref 10]) (u := (22, [(0, .ref 39), (1, .ref 2)], [], zh, M1)) rfl ⟨rfl, rfl⟩ rfl (qE_copy_47_10_ok (S := S) (M := M1) e5) ?_
  show zF S 62 (22, [(0, .ref 39), (1, .ref 2)], [], zh, M2) _ _
  refine zF_go (n := 4) (ps := []) (s' := (30, [(0, .ref 39), (1, .ref 2)], [.ref 18, .ref 55], zh, M2)) rfl trivial ?_
  obtain ⟨M3, e6, h⟩ := zb_some h
  refine zF_call (y' := 54) (as := [.ref 55, .ref 18]) (u := (33, [(0, .ref 39), (1, .ref 2)], [], zh, M2)) rfl ⟨rfl, rfl⟩ rfl (qT_copy_55_18_ok (S := S) (M := M2) e6) ?_
  show zF S 62 (33, [(0, .ref 39), (1, .ref 2)], [], zh, M3) _ _
  refine zF_go (n := 4) (ps := []) (s' := (41, [(0, .ref 39), (1, .ref 2)], [], zh, (zw M3 39 3 (M3 2 3)))) rfl trivial ?_
  cases h
  exact zF_ret rfl trivial
noncomputable def qS_image (M : zM) (p_n : Int32) : Option (Int32 × zM) :=
  zb (qS_isOut p_n 0 1) fun x1 =>
  if x1 = 0 then
    (if p_n = 0 then
      (zb (qO_copy_21_2 M) fun M2 =>
      some (1, (zw M2 57 (0 : Int32).toNatClampNeg 1)))
    else if p_n = 1 then
      (zb (qO_copy_39_2 M) fun M3 =>
      some (1, (zw M3 57 (1 : Int32).toNatClampNeg 1)))
    else none)
  else
    (some ((-2), M))
set_option maxRecDepth 20000 in
set_option maxHeartbeats 4000000 in
theorem qS_image_ok {S : zSc} {M : zM} {p_n : Int32} {r : Int32 × zM} (h : qS_image M p_n = some r) : zF S 122 (0, [(0, .ref 1), (1, .int p_n)], [], zh, M) (some (.int r.1)) (r.2) := by
  unfold qS_image at h
  refine zF_go (n := 3) (ps := []) (s' := (3, [(0, .ref 1), (1, .int p_n)], [.int 1, .int 0, .int p_n], zh, M)) rfl trivial ?_
  obtain ⟨x1, e4, h⟩ := zb_some h
  refine zF_call (y' := 125) (as := [.int p_n, .int 0, .int 1]) (u := (6, [(0, .ref 1), (1, .int p_n)], [], zh, M)) rfl ⟨rfl, rfl⟩ rfl (qS_isOut_ok (S := S) (M := M) e4) ?_
  show zF S 122 (6, [(0, .ref 1), (1, .int p_n)], [.int x1], zh, M) _ _
  refine zF_eq (t := 12) (u := (9, [(0, .ref 1), (1, .int p_n)], [], zh, M)) rfl (fun c5 => ?_) (fun c5 => ?_)
  · rw [if_pos c5] at h
    refine zF_go (n := 3) (ps := []) (s' := (17, [(0, .ref 1), (1, .int p_n)], [.int p_n, .ref 20], zh, M)) rfl trivial ?_
    by_cases c6 : p_n = 0
    · rw [if_pos c6] at h
      revert h
      subst c6
      intro h
      refine zF_go (n := 1) (ps := [vp_in 0 2]) (s' := (18, [(0, .ref 1), (1, .int 0)], [.ref 21], zh, M)) rfl ⟨by unfold vp_in; decide, trivial⟩ ?_
      refine zF_go (n := 2) (ps := []) (s' := (22, [(0, .ref 1), (1, .int 0)], [.ref 2, .ref 21], zh, M)) rfl trivial ?_
      obtain ⟨M2, e7, h⟩ := zb_some h
      refine zF_call (y' := 62) (as := [.ref 21, .ref 2]) (u := (25, [(0, .ref 1), (1, .int 0)], [], zh, M)) rfl ⟨rfl, rfl⟩ rfl (qO_copy_21_2_ok (S := S) (M := M) e7) ?_
      show zF S 122 (25, [(0, .ref 1), (1, .int 0)], [], zh, M2) _ _
      refine zF_go (n := 6) (ps := [vp_in 0 2, (1 : Int32) = 0 ∨ (1 : Int32) = 1]) (s' := (33, [(0, .ref 1), (1, .int 0)], [.int 1], zh, (zw M2 57 (0 : Int32).toNatClampNeg 1))) rfl ⟨(by unfold vp_in; decide), (Or.inr rfl), trivial⟩ ?_
      cases h
      exact zF_ret rfl trivial
    rw [if_neg c6] at h
    by_cases c8 : p_n = 1
    · rw [if_pos c8] at h
      revert h
      subst c8
      intro h
      refine zF_go (n := 1) (ps := [vp_in 1 2]) (s' := (18, [(0, .ref 1), (1, .int 1)], [.ref 39], zh, M)) rfl ⟨by unfold vp_in; decide, trivial⟩ ?_
      refine zF_go (n := 2) (ps := []) (s' := (22, [(0, .ref 1), (1, .int 1)], [.ref 2, .ref 39], zh, M)) rfl trivial ?_
      obtain ⟨M3, e9, h⟩ := zb_some h
      refine zF_call (y' := 62) (as := [.ref 39, .ref 2]) (u := (25, [(0, .ref 1), (1, .int 1)], [], zh, M)) rfl ⟨rfl, rfl⟩ rfl (qO_copy_39_2_ok (S := S) (M := M) e9) ?_
      show zF S 122 (25, [(0, .ref 1), (1, .int 1)], [], zh, M3) _ _
      refine zF_go (n := 6) (ps := [vp_in 1 2, (1 : Int32) = 0 ∨ (1 : Int32) = 1]) (s' := (33, [(0, .ref 1), (1, .int 1)], [.int 1], zh, (zw M3 57 (1 : Int32).toNatClampNeg 1))) rfl ⟨(by unfold vp_in; decide), (Or.inr rfl), trivial⟩ ?_
      cases h
      exact zF_ret rfl trivial
    rw [if_neg c8] at h
    cases h
  · rw [if_neg c5] at h
    refine zF_go (n := 1) (ps := []) (s' := (11, [(0, .ref 1), (1, .int p_n)], [.int (-2)], zh, M)) rfl trivial ?_
    cases h
    exact zF_ret rfl trivial
noncomputable def qM_pass (M : zM) (p_v : Int32) : Option (Int32 × zM) :=
  zb (if (M 86 33) = 0 then
      (zq (vp_in (M 86 32) 400) <| some (M 106 (M 86 32).toNatClampNeg))
    else
      (some p_v)) fun (w1 : Int32) =>
  zq (vp_in (M 86 32) 400) <| some (w1, (zw (zw M 106 (M 86 32).toNatClampNeg w1) 86 32 ((M 86 32) + 1)))
set_option maxRecDepth 20000 in
set_option maxHeartbeats 4000000 in
theorem qM_pass_ok {S : zSc} {M : zM} {p_v : Int32} {r : Int32 × zM} (h : qM_pass M p_v = some r) : zF S 205 (0, [(0, .ref 86), (1, .int p_v)], [], zh, M) (some (.int r.1)) (r.2) := by
  unfold qM_pass at h
  refine zF_go (n := 2) (ps := []) (s' := (4, [(0, .ref 86), (1, .int p_v)], [.int (M 86 33)], zh, M)) rfl trivial ?_
  obtain ⟨w1, g2, h⟩ := zb_some h
  have hk3 : zF S 205 (20, [(0, .ref 86)], [.int w1], zh, M) (some (.int r.1)) (r.2) := by
    obtain ⟨g4, h⟩ := zq_some h
    refine zF_go (n := 14) (ps := [vp_in (M 86 32) 400]) (s' := (42, [(2, .int w1), (0, .ref 86)], [.int w1], zh, (zw (zw M 106 (M 86 32).toNatClampNeg w1) 86 32 ((M 86 32) + 1)))) rfl ⟨g4, trivial⟩ ?_
    cases h
    exact zF_ret rfl trivial
  refine zF_eq (t := 11) (u := (7, [(0, .ref 86), (1, .int p_v)], [], zh, M)) rfl (fun c5 => ?_) (fun c5 => ?_)
  · rw [if_pos c5] at g2
    obtain ⟨g6, g2⟩ := zq_some g2
    refine zF_go (n := 5) (ps := [vp_in (M 86 32) 400]) (s' := (20, [(0, .ref 86), (1, .int p_v)], [.int (M 106 (M 86 32).toNatClampNeg)], zh, M)) rfl ⟨g6, trivial⟩ ?_
    cases g2
    exact zF_as hk3 rfl
  · rw [if_neg c5] at g2
    refine zF_go (n := 2) (ps := []) (s' := (20, [(0, .ref 86), (1, .int p_v)], [.int p_v], zh, M)) rfl trivial ?_
    cases g2
    exact zF_as hk3 rfl
noncomputable def qM_passAll_L367 (rec29 : (Int32 × zM) → Option (zM)) (v : Int32 × zM) : Option (zM) := match v with
  | (v1_27, M28) =>
    if v1_27 < 30 then
      (zq (vp_in v1_27 30) <| zb2 (qM_pass M28 (M28 105 v1_27.toNatClampNeg)) fun x30 M31 =>
      zq (vp_in v1_27 30) <| rec29 ((v1_27 + 1), (zw M31 105 v1_27.toNatClampNeg x30)))
    else
      (some M28)
noncomputable def qM_passAll_L305 (rec26 : (Int32 × zM) → Option (zM)) (v : Int32 × zM) : Option (zM) := match v with
  | (v1_24, M25) =>
    if v1_24 < 20 then
      (zq (vp_in v1_24 20) <| zb2 (qM_pass M25 (M25 97 v1_24.toNatClampNeg)) fun x32 M33 =>
      zq (vp_in v1_24 20) <| zq (vp_in v1_24 20) <| zb2 (qM_pass (zw M33 97 v1_24.toNatClampNeg x32) (M33 98 v1_24.toNatClampNeg)) fun x34 M35 =>
      zq (vp_in v1_24 20) <| zq (vp_in v1_24 20) <| zb2 (qM_pass (zw M35 98 v1_24.toNatClampNeg x34) (M35 99 v1_24.toNatClampNeg)) fun x36 M37 =>
      zq (vp_in v1_24 20) <| rec26 ((v1_24 + 1), (zw M37 99 v1_24.toNatClampNeg x36)))
    else
      (zlp (qM_passAll_L367) zfu (0, M25))
noncomputable def qM_passAll_L200 (rec23 : (Int32 × zM) → Option (zM)) (v : Int32 × zM) : Option (zM) := match v with
  | (v1_21, M22) =>
    if v1_21 < 5 then
      (zq (vp_in v1_21 5) <| zb2 (qM_pass M22 (M22 93 v1_21.toNatClampNeg)) fun x38 M39 =>
      zq (vp_in v1_21 5) <| zq (vp_in (2 * v1_21) 10) <| zb2 (qM_pass (zw M39 93 v1_21.toNatClampNeg x38) (M39 94 (2 * v1_21).toNatClampNeg)) fun x40 M41 =>
      zq (vp_in (2 * v1_21) 10) <| zq (vp_in ((2 * v1_21) + 1) 10) <| zb2 (qM_pass (zw M41 94 (2 * v1_21).toNatClampNeg x40) ((zw M41 94 (2 * v1_21).toNatClampNeg x40) 94 ((2 * v1_21) + 1).toNatClampNeg)) fun x42 M43 =>
      zq (vp_in ((2 * v1_21) + 1) 10) <| zq (vp_in v1_21 5) <| zb2 (qM_pass (zw M43 94 ((2 * v1_21) + 1).toNatClampNeg x42) (M43 95 v1_21.toNatClampNeg)) fun x44 M45 =>
      zq (vp_in v1_21 5) <| zq (vp_in v1_21 5) <| zb2 (qM_pass (zw M45 95 v1_21.toNatClampNeg x44) (M45 96 v1_21.toNatClampNeg)) fun x46 M47 =>
      zq (vp_in v1_21 5) <| rec23 ((v1_21 + 1), (zw M47 96 v1_21.toNatClampNeg x46)))
    else
      (zlp (qM_passAll_L305) zfu (0, M22))
noncomputable def qM_passAll_L171 (rec20 : (Int32 × zM) → Option (zM)) (v : Int32 × zM) : Option (zM) := match v with
  | (v1_18, M19) =>
    if v1_18 < 4 then
      (zq (vp_in v1_18 4) <| zb2 (qM_pass M19 (M19 92 v1_18.toNatClampNeg)) fun x48 M49 =>
      zq (vp_in v1_18 4) <| rec20 ((v1_18 + 1), (zw M49 92 v1_18.toNatClampNeg x48)))
    else
      (zlp (qM_passAll_L200) zfu (0, M19))
noncomputable def qM_passAll_L141 (rec17 : (Int32 × zM) → Option (zM)) (v : Int32 × zM) : Option (zM) := match v with
  | (v1_15, M16) =>
    if v1_15 < 12 then
      (zq (vp_in v1_15 12) <| zb2 (qM_pass M16 (M16 91 v1_15.toNatClampNeg)) fun x50 M51 =>
      zq (vp_in v1_15 12) <| rec17 ((v1_15 + 1), (zw M51 91 v1_15.toNatClampNeg x50)))
    else
      (zlp (qM_passAll_L171) zfu (0, M16))
noncomputable def qM_passAll_L112 (rec14 : (Int32 × zM) → Option (zM)) (v : Int32 × zM) : Option (zM) := match v with
  | (v1_12, M13) =>
    if v1_12 < 2 then
      (zq (vp_in v1_12 2) <| zb2 (qM_pass M13 (M13 90 v1_12.toNatClampNeg)) fun x52 M53 =>
      zq (vp_in v1_12 2) <| rec14 ((v1_12 + 1), (zw M53 90 v1_12.toNatClampNeg x52)))
    else
      (zlp (qM_passAll_L141) zfu (0, M13))
noncomputable def qM_passAll_L50 (rec11 : (Int32 × zM) → Option (zM)) (v : Int32 × zM) : Option (zM) := match v with
  | (v1_9, M10) =>
    if v1_9 < 8 then
      (zq (vp_in v1_9 8) <| zb2 (qM_pass M10 (M10 87 v1_9.toNatClampNeg)) fun x54 M55 =>
      zq (vp_in v1_9 8) <| zq (vp_in v1_9 8) <| zb2 (qM_pass (zw M55 87 v1_9.toNatClampNeg x54) (M55 88 v1_9.toNatClampNeg)) fun x56 M57 =>
      zq (vp_in v1_9 8) <| zq (vp_in v1_9 8) <| zb2 (qM_pass (zw M57 88 v1_9.toNatClampNeg x56) (M57 89 v1_9.toNatClampNeg)) fun x58 M59 =>
      zq (vp_in v1_9 8) <| rec11 ((v1_9 + 1), (zw M59 89 v1_9.toNatClampNeg x58)))
    else
      (zlp (qM_passAll_L112) zfu (0, M10))
noncomputable def qM_passAll (M : zM) : Option (zM) :=
  zb2 (qM_pass M (M 86 6)) fun x1 M2 =>
  zb2 (qM_pass (zw M2 86 6 x1) ((zw M2 86 6 x1) 86 14)) fun x3 M4 =>
  zb2 (qM_pass (zw M4 86 14 x3) ((zw M4 86 14 x3) 86 29)) fun x5 M6 =>
  zb2 (qM_pass (zw M6 86 29 x5) ((zw M6 86 29 x5) 86 18)) fun x7 M8 =>
  zlp (qM_passAll_L50) zfu (0, (zw M8 86 18 x7))
set_option maxRecDepth 20000 in
set_option maxHeartbeats 4000000 in
theorem qM_passAll_ok {S : zSc} {M : zM} {r : zM} (h : qM_passAll M = some r) : zF S 206 (0, [(0, .ref 86)], [], zh, M) (none) (r) := by
  unfold qM_passAll at h
  refine zF_go (n := 4) (ps := []) (s' := (6, [(0, .ref 86)], [.int (M 86 6), .ref 86, .ref 86], zh, M)) rfl trivial ?_
  obtain ⟨x1, M2, e60, h⟩ := zb2_some h
  refine zF_call (y' := 205) (as := [.ref 86, .int (M 86 6)]) (u := (9, [(0, .ref 86)], [.ref 86], zh, M)) rfl ⟨rfl, rfl⟩ rfl (qM_pass_ok (S := S) (M := M) e60) ?_
  show zF S 206 (9, [(0, .ref 86)], [.int x1, .ref 86], zh, M2) _ _
  refine zF_go (n := 5) (ps := []) (s' := (18, [(0, .ref 86)], [.int ((zw M2 86 6 x1) 86 14), .ref 86, .ref 86], zh, (zw M2 86 6 x1))) rfl trivial ?_
  obtain ⟨x3, M4, e61, h⟩ := zb2_some h
  refine zF_call (y' := 205) (as := [.ref 86, .int ((zw M2 86 6 x1) 86 14)]) (u := (21, [(0, .ref 86)], [.ref 86], zh, (zw M2 86 6 x1))) rfl ⟨rfl, rfl⟩ rfl (qM_pass_ok (S := S) (M := (zw M2 86 6 x1)) e61) ?_
  show zF S 206 (21, [(0, .ref 86)], [.int x3, .ref 86], zh, M4) _ _
  refine zF_go (n := 5) (ps := []) (s' := (30, [(0, .ref 86)], [.int ((zw M4 86 14 x3) 86 29), .ref 86, .ref 86], zh, (zw M4 86 14 x3))) rfl trivial ?_
  obtain ⟨x5, M6, e62, h⟩ := zb2_some h
  refine zF_call (y' := 205) (as := [.ref 86, .int ((zw M4 86 14 x3) 86 29)]) (u := (33, [(0, .ref 86)], [.ref 86], zh, (zw M4 86 14 x3))) rfl ⟨rfl, rfl⟩ rfl (qM_pass_ok (S := S) (M := (zw M4 86 14 x3)) e62) ?_
  show zF S 206 (33, [(0, .ref 86)], [.int x5, .ref 86], zh, M6) _ _
  refine zF_go (n := 5) (ps := []) (s' := (42, [(0, .ref 86)], [.int ((zw M6 86 29 x5) 86 18), .ref 86, .ref 86], zh, (zw M6 86 29 x5))) rfl trivial ?_
  obtain ⟨x7, M8, e63, h⟩ := zb2_some h
  refine zF_call (y' := 205) (as := [.ref 86, .int ((zw M6 86 29 x5) 86 18)]) (u := (45, [(0, .ref 86)], [.ref 86], zh, (zw M6 86 29 x5))) rfl ⟨rfl, rfl⟩ rfl (qM_pass_ok (S := S) (M := (zw M6 86 29 x5)) e63) ?_
  show zF S 206 (45, [(0, .ref 86)], [.int x7, .ref 86], zh, M8) _ _
  refine zF_go (n := 3) (ps := []) (s' := (50, [(1, .int 0), (0, .ref 86)], [], zh, (zw M8 86 18 x7))) rfl trivial ?_
  refine zF_same (s' := (50, [(0, .ref 86), (1, .int 0)], [], zh, (zw M8 86 18 x7))) rfl ?_
  refine zlp_ind (P := fun (v : Int32 × zM) r => zF S 206 (50, [(0, .ref 86), (1, .int v.1)], [], zh, v.2) (none) (r)) ?_ _ _ _ h
  intro rec11 hrec11 v r h
  obtain ⟨v1_9, M10⟩ := v
  unfold qM_passAll_L50 at h
  dsimp only at h
  show zF S 206 (50, [(0, .ref 86), (1, .int v1_9)], [], zh, M10) _ _
  refine zF_go (n := 2) (ps := []) (s' := (53, [(0, .ref 86), (1, .int v1_9)], [.int 8, .int v1_9], zh, M10)) rfl trivial ?_
  refine zF_ge (t := 110) (u := (56, [(0, .ref 86), (1, .int v1_9)], [], zh, M10)) rfl (fun c64 => ?_) (fun c64 => ?_)
  · rw [if_neg c64] at h
    refine zF_go (n := 2) (ps := []) (s' := (112, [(1, .int 0), (0, .ref 86)], [], zh, M10)) rfl trivial ?_
    refine zF_same (s' := (112, [(0, .ref 86), (1, .int 0)], [], zh, M10)) rfl ?_
    refine zlp_ind (P := fun (v : Int32 × zM) r => zF S 206 (112, [(0, .ref 86), (1, .int v.1)], [], zh, v.2) (none) (r)) ?_ _ _ _ h
    intro rec14 hrec14 v r h
    obtain ⟨v1_12, M13⟩ := v
    unfold qM_passAll_L112 at h
    dsimp only at h
    show zF S 206 (112, [(0, .ref 86), (1, .int v1_12)], [], zh, M13) _ _
    refine zF_go (n := 2) (ps := []) (s' := (114, [(0, .ref 86), (1, .int v1_12)], [.int 2, .int v1_12], zh, M13)) rfl trivial ?_
    refine zF_ge (t := 139) (u := (117, [(0, .ref 86), (1, .int v1_12)], [], zh, M13)) rfl (fun c65 => ?_) (fun c65 => ?_)
    · rw [if_neg c65] at h
      refine zF_go (n := 2) (ps := []) (s' := (141, [(1, .int 0), (0, .ref 86)], [], zh, M13)) rfl trivial ?_
      refine zF_same (s' := (141, [(0, .ref 86), (1, .int 0)], [], zh, M13)) rfl ?_
      refine zlp_ind (P := fun (v : Int32 × zM) r => zF S 206 (141, [(0, .ref 86), (1, .int v.1)], [], zh, v.2) (none) (r)) ?_ _ _ _ h
      intro rec17 hrec17 v r h
      obtain ⟨v1_15, M16⟩ := v
      unfold qM_passAll_L141 at h
      dsimp only at h
      show zF S 206 (141, [(0, .ref 86), (1, .int v1_15)], [], zh, M16) _ _
      refine zF_go (n := 2) (ps := []) (s' := (144, [(0, .ref 86), (1, .int v1_15)], [.int 12, .int v1_15], zh, M16)) rfl trivial ?_
      refine zF_ge (t := 169) (u := (147, [(0, .ref 86), (1, .int v1_15)], [], zh, M16)) rfl (fun c66 => ?_) (fun c66 => ?_)
      · rw [if_neg c66] at h
        refine zF_go (n := 2) (ps := []) (s' := (171, [(1, .int 0), (0, .ref 86)], [], zh, M16)) rfl trivial ?_
        refine zF_same (s' := (171, [(0, .ref 86), (1, .int 0)], [], zh, M16)) rfl ?_
        refine zlp_ind (P := fun (v : Int32 × zM) r => zF S 206 (171, [(0, .ref 86), (1, .int v.1)], [], zh, v.2) (none) (r)) ?_ _ _ _ h
        intro rec20 hrec20 v r h
        obtain ⟨v1_18, M19⟩ := v
        unfold qM_passAll_L171 at h
        dsimp only at h
        show zF S 206 (171, [(0, .ref 86), (1, .int v1_18)], [], zh, M19) _ _
        refine zF_go (n := 2) (ps := []) (s' := (173, [(0, .ref 86), (1, .int v1_18)], [.int 4, .int v1_18], zh, M19)) rfl trivial ?_
        refine zF_ge (t := 198) (u := (176, [(0, .ref 86), (1, .int v1_18)], [], zh, M19)) rfl (fun c67 => ?_) (fun c67 => ?_)
        · rw [if_neg c67] at h
          refine zF_go (n := 2) (ps := []) (s' := (200, [(1, .int 0), (0, .ref 86)], [], zh, M19)) rfl trivial ?_
          refine zF_same (s' := (200, [(0, .ref 86), (1, .int 0)], [], zh, M19)) rfl ?_
          refine zlp_ind (P := fun (v : Int32 × zM) r => zF S 206 (200, [(0, .ref 86), (1, .int v.1)], [], zh, v.2) (none) (r)) ?_ _ _ _ h
          intro rec23 hrec23 v r h
          obtain ⟨v1_21, M22⟩ := v
          unfold qM_passAll_L200 at h
          dsimp only at h
          show zF S 206 (200, [(0, .ref 86), (1, .int v1_21)], [], zh, M22) _ _
          refine zF_go (n := 2) (ps := []) (s' := (202, [(0, .ref 86), (1, .int v1_21)], [.int 5, .int v1_21], zh, M22)) rfl trivial ?_
          refine zF_ge (t := 303) (u := (205, [(0, .ref 86), (1, .int v1_21)], [], zh, M22)) rfl (fun c68 => ?_) (fun c68 => ?_)
          · rw [if_neg c68] at h
            refine zF_go (n := 2) (ps := []) (s' := (305, [(1, .int 0), (0, .ref 86)], [], zh, M22)) rfl trivial ?_
            refine zF_same (s' := (305, [(0, .ref 86), (1, .int 0)], [], zh, M22)) rfl ?_
            refine zlp_ind (P := fun (v : Int32 × zM) r => zF S 206 (305, [(0, .ref 86), (1, .int v.1)], [], zh, v.2) (none) (r)) ?_ _ _ _ h
            intro rec26 hrec26 v r h
            obtain ⟨v1_24, M25⟩ := v
            unfold qM_passAll_L305 at h
            dsimp only at h
            show zF S 206 (305, [(0, .ref 86), (1, .int v1_24)], [], zh, M25) _ _
            refine zF_go (n := 2) (ps := []) (s' := (308, [(0, .ref 86), (1, .int v1_24)], [.int 20, .int v1_24], zh, M25)) rfl trivial ?_
            refine zF_ge (t := 365) (u := (311, [(0, .ref 86), (1, .int v1_24)], [], zh, M25)) rfl (fun c69 => ?_) (fun c69 => ?_)
            · rw [if_neg c69] at h
              refine zF_go (n := 2) (ps := []) (s' := (367, [(1, .int 0), (0, .ref 86)], [], zh, M25)) rfl trivial ?_
              refine zF_same (s' := (367, [(0, .ref 86), (1, .int 0)], [], zh, M25)) rfl ?_
              refine zlp_ind (P := fun (v : Int32 × zM) r => zF S 206 (367, [(0, .ref 86), (1, .int v.1)], [], zh, v.2) (none) (r)) ?_ _ _ _ h
              intro rec29 hrec29 v r h
              obtain ⟨v1_27, M28⟩ := v
              unfold qM_passAll_L367 at h
              dsimp only at h
              show zF S 206 (367, [(0, .ref 86), (1, .int v1_27)], [], zh, M28) _ _
              refine zF_go (n := 2) (ps := []) (s' := (370, [(0, .ref 86), (1, .int v1_27)], [.int 30, .int v1_27], zh, M28)) rfl trivial ?_
              refine zF_ge (t := 395) (u := (373, [(0, .ref 86), (1, .int v1_27)], [], zh, M28)) rfl (fun c70 => ?_) (fun c70 => ?_)
              · rw [if_neg c70] at h
                cases h
                exact zF_ret rfl trivial
              · rw [if_pos c70] at h
                obtain ⟨g71, h⟩ := zq_some h
                refine zF_go (n := 8) (ps := [vp_in v1_27 30]) (s' := (385, [(0, .ref 86), (1, .int v1_27)], [.int (M28 105 v1_27.toNatClampNeg), .ref 86, .int v1_27, .ref 105], zh, M28)) rfl ⟨g71, trivial⟩ ?_
                obtain ⟨x30, M31, e72, h⟩ := zb2_some h
                refine zF_call (y' := 205) (as := [.ref 86, .int (M28 105 v1_27.toNatClampNeg)]) (u := (388, [(0, .ref 86), (1, .int v1_27)], [.int v1_27, .ref 105], zh, M28)) rfl ⟨rfl, rfl⟩ rfl (qM_pass_ok (S := S) (M := M28) e72) ?_
                show zF S 206 (388, [(0, .ref 86), (1, .int v1_27)], [.int x30, .int v1_27, .ref 105], zh, M31) _ _
                obtain ⟨g73, h⟩ := zq_some h
                refine zF_go (n := 3) (ps := [vp_in v1_27 30]) (s' := (367, [(1, .int (v1_27 + 1)), (0, .ref 86)], [], zh, (zw M31 105 v1_27.toNatClampNeg x30))) rfl ⟨g73, trivial⟩ ?_
                exact zF_as (hrec29 _ _ h) rfl
            · rw [if_pos c69] at h
              obtain ⟨g74, h⟩ := zq_some h
              refine zF_go (n := 8) (ps := [vp_in v1_24 20]) (s' := (323, [(0, .ref 86), (1, .int v1_24)], [.int (M25 97 v1_24.toNatClampNeg), .ref 86, .int v1_24, .ref 97], zh, M25)) rfl ⟨g74, trivial⟩ ?_
              obtain ⟨x32, M33, e75, h⟩ := zb2_some h
              refine zF_call (y' := 205) (as := [.ref 86, .int (M25 97 v1_24.toNatClampNeg)]) (u := (326, [(0, .ref 86), (1, .int v1_24)], [.int v1_24, .ref 97], zh, M25)) rfl ⟨rfl, rfl⟩ rfl (qM_pass_ok (S := S) (M := M25) e75) ?_
              show zF S 206 (326, [(0, .ref 86), (1, .int v1_24)], [.int x32, .int v1_24, .ref 97], zh, M33) _ _
              obtain ⟨g76, h⟩ := zq_some h
              obtain ⟨g77, h⟩ := zq_some h
              refine zF_go (n := 9) (ps := [vp_in v1_24 20, vp_in v1_24 20]) (s' := (339, [(0, .ref 86), (1, .int v1_24)], [.int (M33 98 v1_24.toNatClampNeg), .ref 86, .int v1_24, .ref 98], zh, (zw M33 97 v1_24.toNatClampNeg x32))) rfl ⟨g76, g77, trivial⟩ ?_
              obtain ⟨x34, M35, e78, h⟩ := zb2_some h
              refine zF_call (y' := 205) (as := [.ref 86, .int (M33 98 v1_24.toNatClampNeg)]) (u := (342, [(0, .ref 86), (1, .int v1_24)], [.int v1_24, .ref 98], zh, (zw M33 97 v1_24.toNatClampNeg x32))) rfl ⟨rfl, rfl⟩ rfl (qM_pass_ok (S := S) (M := (zw M33 97 v1_24.toNatClampNeg x32)) e78) ?_
              show zF S 206 (342, [(0, .ref 86), (1, .int v1_24)], [.int x34, .int v1_24, .ref 98], zh, M35) _ _
              obtain ⟨g79, h⟩ := zq_some h
              obtain ⟨g80, h⟩ := zq_some h
              refine zF_go (n := 9) (ps := [vp_in v1_24 20, vp_in v1_24 20]) (s' := (355, [(0, .ref 86), (1, .int v1_24)], [.int (M35 99 v1_24.toNatClampNeg), .ref 86, .int v1_24, .ref 99], zh, (zw M35 98 v1_24.toNatClampNeg x34))) rfl ⟨g79, g80, trivial⟩ ?_
              obtain ⟨x36, M37, e81, h⟩ := zb2_some h
              refine zF_call (y' := 205) (as := [.ref 86, .int (M35 99 v1_24.toNatClampNeg)]) (u := (358, [(0, .ref 86), (1, .int v1_24)], [.int v1_24, .ref 99], zh, (zw M35 98 v1_24.toNatClampNeg x34))) rfl ⟨rfl, rfl⟩ rfl (qM_pass_ok (S := S) (M := (zw M35 98 v1_24.toNatClampNeg x34)) e81) ?_
              show zF S 206 (358, [(0, .ref 86), (1, .int v1_24)], [.int x36, .int v1_24, .ref 99], zh, M37) _ _
              obtain ⟨g82, h⟩ := zq_some h
              refine zF_go (n := 3) (ps := [vp_in v1_24 20]) (s' := (305, [(1, .int (v1_24 + 1)), (0, .ref 86)], [], zh, (zw M37 99 v1_24.toNatClampNeg x36))) rfl ⟨g82, trivial⟩ ?_
              exact zF_as (hrec26 _ _ h) rfl
          · rw [if_pos c68] at h
            obtain ⟨g83, h⟩ := zq_some h
            refine zF_go (n := 8) (ps := [vp_in v1_21 5]) (s' := (217, [(0, .ref 86), (1, .int v1_21)], [.int (M22 93 v1_21.toNatClampNeg), .ref 86, .int v1_21, .ref 93], zh, M22)) rfl ⟨g83, trivial⟩ ?_
            obtain ⟨x38, M39, e84, h⟩ := zb2_some h
            refine zF_call (y' := 205) (as := [.ref 86, .int (M22 93 v1_21.toNatClampNeg)]) (u := (220, [(0, .ref 86), (1, .int v1_21)], [.int v1_21, .ref 93], zh, M22)) rfl ⟨rfl, rfl⟩ rfl (qM_pass_ok (S := S) (M := M22) e84) ?_
            show zF S 206 (220, [(0, .ref 86), (1, .int v1_21)], [.int x38, .int v1_21, .ref 93], zh, M39) _ _
            obtain ⟨g85, h⟩ := zq_some h
            obtain ⟨g86, h⟩ := zq_some h
            refine zF_go (n := 13) (ps := [vp_in v1_21 5, vp_in (2 * v1_21) 10]) (s' := (237, [(0, .ref 86), (1, .int v1_21)], [.int (M39 94 (2 * v1_21).toNatClampNeg), .ref 86, .int (2 * v1_21), .ref 94], zh, (zw M39 93 v1_21.toNatClampNeg x38))) rfl ⟨g85, g86, trivial⟩ ?_
            obtain ⟨x40, M41, e87, h⟩ := zb2_some h
            refine zF_call (y' := 205) (as := [.ref 86, .int (M39 94 (2 * v1_21).toNatClampNeg)]) (u := (240, [(0, .ref 86), (1, .int v1_21)], [.int (2 * v1_21), .ref 94], zh, (zw M39 93 v1_21.toNatClampNeg x38))) rfl ⟨rfl, rfl⟩ rfl (qM_pass_ok (S := S) (M := (zw M39 93 v1_21.toNatClampNeg x38)) e87) ?_
            show zF S 206 (240, [(0, .ref 86), (1, .int v1_21)], [.int x40, .int (2 * v1_21), .ref 94], zh, M41) _ _
            obtain ⟨g88, h⟩ := zq_some h
            obtain ⟨g89, h⟩ := zq_some h
            refine zF_go (n := 17) (ps := [vp_in (2 * v1_21) 10, vp_in ((2 * v1_21) + 1) 10]) (s' := (261, [(0, .ref 86), (1, .int v1_21)], [.int ((zw M41 94 (2 * v1_21).toNatClampNeg x40) 94 ((2 * v1_21) + 1).toNatClampNeg), .ref 86, .int ((2 * v1_21) + 1), .ref 94], zh, (zw M41 94 (2 * v1_21).toNatClampNeg x40))) rfl ⟨g88, g89, trivial⟩ ?_
            obtain ⟨x42, M43, e90, h⟩ := zb2_some h
            refine zF_call (y' := 205) (as := [.ref 86, .int ((zw M41 94 (2 * v1_21).toNatClampNeg x40) 94 ((2 * v1_21) + 1).toNatClampNeg)]) (u := (264, [(0, .ref 86), (1, .int v1_21)], [.int ((2 * v1_21) + 1), .ref 94], zh, (zw M41 94 (2 * v1_21).toNatClampNeg x40))) rfl ⟨rfl, rfl⟩ rfl (qM_pass_ok (S := S) (M := (zw M41 94 (2 * v1_21).toNatClampNeg x40)) e90) ?_
            show zF S 206 (264, [(0, .ref 86), (1, .int v1_21)], [.int x42, .int ((2 * v1_21) + 1), .ref 94], zh, M43) _ _
            obtain ⟨g91, h⟩ := zq_some h
            obtain ⟨g92, h⟩ := zq_some h
            refine zF_go (n := 9) (ps := [vp_in ((2 * v1_21) + 1) 10, vp_in v1_21 5]) (s' := (277, [(0, .ref 86), (1, .int v1_21)], [.int (M43 95 v1_21.toNatClampNeg), .ref 86, .int v1_21, .ref 95], zh, (zw M43 94 ((2 * v1_21) + 1).toNatClampNeg x42))) rfl ⟨g91, g92, trivial⟩ ?_
            obtain ⟨x44, M45, e93, h⟩ := zb2_some h
            refine zF_call (y' := 205) (as := [.ref 86, .int (M43 95 v1_21.toNatClampNeg)]) (u := (280, [(0, .ref 86), (1, .int v1_21)], [.int v1_21, .ref 95], zh, (zw M43 94 ((2 * v1_21) + 1).toNatClampNeg x42))) rfl ⟨rfl, rfl⟩ rfl (qM_pass_ok (S := S) (M := (zw M43 94 ((2 * v1_21) + 1).toNatClampNeg x42)) e93) ?_
            show zF S 206 (280, [(0, .ref 86), (1, .int v1_21)], [.int x44, .int v1_21, .ref 95], zh, M45) _ _
            obtain ⟨g94, h⟩ := zq_some h
            obtain ⟨g95, h⟩ := zq_some h
            refine zF_go (n := 9) (ps := [vp_in v1_21 5, vp_in v1_21 5]) (s' := (293, [(0, .ref 86), (1, .int v1_21)], [.int (M45 96 v1_21.toNatClampNeg), .ref 86, .int v1_21, .ref 96], zh, (zw M45 95 v1_21.toNatClampNeg x44))) rfl ⟨g94, g95, trivial⟩ ?_
            obtain ⟨x46, M47, e96, h⟩ := zb2_some h
            refine zF_call (y' := 205) (as := [.ref 86, .int (M45 96 v1_21.toNatClampNeg)]) (u := (296, [(0, .ref 86), (1, .int v1_21)], [.int v1_21, .ref 96], zh, (zw M45 95 v1_21.toNatClampNeg x44))) rfl ⟨rfl, rfl⟩ rfl (qM_pass_ok (S := S) (M := (zw M45 95 v1_21.toNatClampNeg x44)) e96) ?_
            show zF S 206 (296, [(0, .ref 86), (1, .int v1_21)], [.int x46, .int v1_21, .ref 96], zh, M47) _ _
            obtain ⟨g97, h⟩ := zq_some h
            refine zF_go (n := 3) (ps := [vp_in v1_21 5]) (s' := (200, [(1, .int (v1_21 + 1)), (0, .ref 86)], [], zh, (zw M47 96 v1_21.toNatClampNeg x46))) rfl ⟨g97, trivial⟩ ?_
            exact zF_as (hrec23 _ _ h) rfl
        · rw [if_pos c67] at h
          obtain ⟨g98, h⟩ := zq_some h
          refine zF_go (n := 8) (ps := [vp_in v1_18 4]) (s' := (188, [(0, .ref 86), (1, .int v1_18)], [.int (M19 92 v1_18.toNatClampNeg), .ref 86, .int v1_18, .ref 92], zh, M19)) rfl ⟨g98, trivial⟩ ?_
          obtain ⟨x48, M49, e99, h⟩ := zb2_some h
          refine zF_call (y' := 205) (as := [.ref 86, .int (M19 92 v1_18.toNatClampNeg)]) (u := (191, [(0, .ref 86), (1, .int v1_18)], [.int v1_18, .ref 92], zh, M19)) rfl ⟨rfl, rfl⟩ rfl (qM_pass_ok (S := S) (M := M19) e99) ?_
          show zF S 206 (191, [(0, .ref 86), (1, .int v1_18)], [.int x48, .int v1_18, .ref 92], zh, M49) _ _
          obtain ⟨g100, h⟩ := zq_some h
          refine zF_go (n := 3) (ps := [vp_in v1_18 4]) (s' := (171, [(1, .int (v1_18 + 1)), (0, .ref 86)], [], zh, (zw M49 92 v1_18.toNatClampNeg x48))) rfl ⟨g100, trivial⟩ ?_
          exact zF_as (hrec20 _ _ h) rfl
      · rw [if_pos c66] at h
        obtain ⟨g101, h⟩ := zq_some h
        refine zF_go (n := 8) (ps := [vp_in v1_15 12]) (s' := (159, [(0, .ref 86), (1, .int v1_15)], [.int (M16 91 v1_15.toNatClampNeg), .ref 86, .int v1_15, .ref 91], zh, M16)) rfl ⟨g101, trivial⟩ ?_
        obtain ⟨x50, M51, e102, h⟩ := zb2_some h
        refine zF_call (y' := 205) (as := [.ref 86, .int (M16 91 v1_15.toNatClampNeg)]) (u := (162, [(0, .ref 86), (1, .int v1_15)], [.int v1_15, .ref 91], zh, M16)) rfl ⟨rfl, rfl⟩ rfl (qM_pass_ok (S := S) (M := M16) e102) ?_
        show zF S 206 (162, [(0, .ref 86), (1, .int v1_15)], [.int x50, .int v1_15, .ref 91], zh, M51) _ _
        obtain ⟨g103, h⟩ := zq_some h
        refine zF_go (n := 3) (ps := [vp_in v1_15 12]) (s' := (141, [(1, .int (v1_15 + 1)), (0, .ref 86)], [], zh, (zw M51 91 v1_15.toNatClampNeg x50))) rfl ⟨g103, trivial⟩ ?_
        exact zF_as (hrec17 _ _ h) rfl
    · rw [if_pos c65] at h
      obtain ⟨g104, h⟩ := zq_some h
      refine zF_go (n := 8) (ps := [vp_in v1_12 2]) (s' := (129, [(0, .ref 86), (1, .int v1_12)], [.int (M13 90 v1_12.toNatClampNeg), .ref 86, .int v1_12, .ref 90], zh, M13)) rfl ⟨g104, trivial⟩ ?_
      obtain ⟨x52, M53, e105, h⟩ := zb2_some h
      refine zF_call (y' := 205) (as := [.ref 86, .int (M13 90 v1_12.toNatClampNeg)]) (u := (132, [(0, .ref 86), (1, .int v1_12)], [.int v1_12, .ref 90], zh, M13)) rfl ⟨rfl, rfl⟩ rfl (qM_pass_ok (S := S) (M := M13) e105) ?_
      show zF S 206 (132, [(0, .ref 86), (1, .int v1_12)], [.int x52, .int v1_12, .ref 90], zh, M53) _ _
      obtain ⟨g106, h⟩ := zq_some h
      refine zF_go (n := 3) (ps := [vp_in v1_12 2]) (s' := (112, [(1, .int (v1_12 + 1)), (0, .ref 86)], [], zh, (zw M53 90 v1_12.toNatClampNeg x52))) rfl ⟨g106, trivial⟩ ?_
      exact zF_as (hrec14 _ _ h) rfl
  · rw [if_pos c64] at h
    obtain ⟨g107, h⟩ := zq_some h
    refine zF_go (n := 8) (ps := [vp_in v1_9 8]) (s' := (68, [(0, .ref 86), (1, .int v1_9)], [.int (M10 87 v1_9.toNatClampNeg), .ref 86, .int v1_9, .ref 87], zh, M10)) rfl ⟨g107, trivial⟩ ?_
    obtain ⟨x54, M55, e108, h⟩ := zb2_some h
    refine zF_call (y' := 205) (as := [.ref 86, .int (M10 87 v1_9.toNatClampNeg)]) (u := (71, [(0, .ref 86), (1, .int v1_9)], [.int v1_9, .ref 87], zh, M10)) rfl ⟨rfl, rfl⟩ rfl (qM_pass_ok (S := S) (M := M10) e108) ?_
    show zF S 206 (71, [(0, .ref 86), (1, .int v1_9)], [.int x54, .int v1_9, .ref 87], zh, M55) _ _
    obtain ⟨g109, h⟩ := zq_some h
    obtain ⟨g110, h⟩ := zq_some h
    refine zF_go (n := 9) (ps := [vp_in v1_9 8, vp_in v1_9 8]) (s' := (84, [(0, .ref 86), (1, .int v1_9)], [.int (M55 88 v1_9.toNatClampNeg), .ref 86, .int v1_9, .ref 88], zh, (zw M55 87 v1_9.toNatClampNeg x54))) rfl ⟨g109, g110, trivial⟩ ?_
    obtain ⟨x56, M57, e111, h⟩ := zb2_some h
    refine zF_call (y' := 205) (as := [.ref 86, .int (M55 88 v1_9.toNatClampNeg)]) (u := (87, [(0, .ref 86), (1, .int v1_9)], [.int v1_9, .ref 88], zh, (zw M55 87 v1_9.toNatClampNeg x54))) rfl ⟨rfl, rfl⟩ rfl (qM_pass_ok (S := S) (M := (zw M55 87 v1_9.toNatClampNeg x54)) e111) ?_
    show zF S 206 (87, [(0, .ref 86), (1, .int v1_9)], [.int x56, .int v1_9, .ref 88], zh, M57) _ _
    obtain ⟨g112, h⟩ := zq_some h
    obtain ⟨g113, h⟩ := zq_some h
    refine zF_go (n := 9) (ps := [vp_in v1_9 8, vp_in v1_9 8]) (s' := (100, [(0, .ref 86), (1, .int v1_9)], [.int (M57 89 v1_9.toNatClampNeg), .ref 86, .int v1_9, .ref 89], zh, (zw M57 88 v1_9.toNatClampNeg x56))) rfl ⟨g112, g113, trivial⟩ ?_
    obtain ⟨x58, M59, e114, h⟩ := zb2_some h
    refine zF_call (y' := 205) (as := [.ref 86, .int (M57 89 v1_9.toNatClampNeg)]) (u := (103, [(0, .ref 86), (1, .int v1_9)], [.int v1_9, .ref 89], zh, (zw M57 88 v1_9.toNatClampNeg x56))) rfl ⟨rfl, rfl⟩ rfl (qM_pass_ok (S := S) (M := (zw M57 88 v1_9.toNatClampNeg x56)) e114) ?_
    show zF S 206 (103, [(0, .ref 86), (1, .int v1_9)], [.int x58, .int v1_9, .ref 89], zh, M59) _ _
    obtain ⟨g115, h⟩ := zq_some h
    refine zF_go (n := 3) (ps := [vp_in v1_9 8]) (s' := (50, [(1, .int (v1_9 + 1)), (0, .ref 86)], [], zh, (zw M59 89 v1_9.toNatClampNeg x58))) rfl ⟨g115, trivial⟩ ?_
    exact zF_as (hrec11 _ _ h) rfl
noncomputable def qM_image (M : zM) (p_n : Int32) : Option (Int32 × zM) :=
  zb (qM_in p_n.toInt64 0 1) fun x1 =>
  if x1 = 0 then
    (some ((-2), M))
  else
    (zb (qM_passAll (zw (zw M 86 32 (200 * p_n)) 86 33 1)) fun M2 =>
    zq (vp_in p_n 2) <| some (1, (zw M2 107 p_n.toNatClampNeg 1)))
set_option maxRecDepth 20000 in
set_option maxHeartbeats 4000000 in
theorem qM_image_ok {S : zSc} {M : zM} {p_n : Int32} {r : Int32 × zM} (h : qM_image M p_n = some r) : zF S 207 (0, [(0, .ref 86), (1, .int p_n)], [], zh, M) (some (.int r.1)) (r.2) := by
  unfold qM_image at h
  refine zF_go (n := 4) (ps := []) (s' := (4, [(0, .ref 86), (1, .int p_n)], [.long 1, .long 0, .long p_n.toInt64], zh, M)) rfl trivial ?_
  obtain ⟨x1, e3, h⟩ := zb_some h
  refine zF_call (y' := 134) (as := [.long p_n.toInt64, .long 0, .long 1]) (u := (7, [(0, .ref 86), (1, .int p_n)], [], zh, M)) rfl ⟨rfl, rfl⟩ rfl (qM_in_ok (S := S) (M := M) e3) ?_
  show zF S 207 (7, [(0, .ref 86), (1, .int p_n)], [.int x1], zh, M) _ _
  refine zF_ne (t := 13) (u := (10, [(0, .ref 86), (1, .int p_n)], [], zh, M)) rfl (fun c4 => ?_) (fun c4 => ?_)
  · rw [if_neg c4] at h
    refine zF_go (n := 9) (ps := [(1 : Int32) = 0 ∨ (1 : Int32) = 1]) (s' := (28, [(0, .ref 86), (1, .int p_n)], [.ref 86], zh, (zw (zw M 86 32 (200 * p_n)) 86 33 1))) rfl ⟨(Or.inr rfl), trivial⟩ ?_
    obtain ⟨M2, e5, h⟩ := zb_some h
    refine zF_call (y' := 206) (as := [.ref 86]) (u := (31, [(0, .ref 86), (1, .int p_n)], [], zh, (zw (zw M 86 32 (200 * p_n)) 86 33 1))) rfl ⟨rfl, rfl⟩ rfl (qM_passAll_ok (S := S) (M := (zw (zw M 86 32 (200 * p_n)) 86 33 1)) e5) ?_
    show zF S 207 (31, [(0, .ref 86), (1, .int p_n)], [], zh, M2) _ _
    obtain ⟨g6, h⟩ := zq_some h
    refine zF_go (n := 6) (ps := [vp_in p_n 2, (1 : Int32) = 0 ∨ (1 : Int32) = 1]) (s' := (39, [(0, .ref 86), (1, .int p_n)], [.int 1], zh, (zw M2 107 p_n.toNatClampNeg 1))) rfl ⟨g6, (Or.inr rfl), trivial⟩ ?_
    cases h
    exact zF_ret rfl trivial
  · rw [if_pos c4] at h
    refine zF_go (n := 1) (ps := []) (s' := (12, [(0, .ref 86), (1, .int p_n)], [.int (-2)], zh, M)) rfl trivial ?_
    cases h
    exact zF_ret rfl trivial
noncomputable def qG_copy_3_22 (M : zM) : Option (zM) :=
  some (zA (zA (zA (zA (zA (zA (zw M 3 0 (M 22 0)) 4 (va_cpy (M 23) (M 4) ((0 : Int32).toNatClampNeg) ((0 : Int32).toNatClampNeg) ((4 : Int32).toNatClampNeg))) 5 (va_cpy (M 24) (M 5) ((0 : Int32).toNatClampNeg) ((0 : Int32).toNatClampNeg) ((12 : Int32).toNatClampNeg))) 6 (va_cpy (M 25) (M 6) ((0 : Int32).toNatClampNeg) ((0 : Int32).toNatClampNeg) ((8 : Int32).toNatClampNeg))) 7 (va_cpy (M 26) (M 7) ((0 : Int32).toNatClampNeg) ((0 : Int32).toNatClampNeg) ((8 : Int32).toNatClampNeg))) 8 (va_cpy (M 27) (M 8) ((0 : Int32).toNatClampNeg) ((0 : Int32).toNatClampNeg) ((8 : Int32).toNatClampNeg))) 9 (va_cpy (M 28) (M 9) ((0 : Int32).toNatClampNeg) ((0 : Int32).toNatClampNeg) ((2 : Int32).toNatClampNeg)))
set_option maxRecDepth 20000 in
set_option maxHeartbeats 4000000 in
theorem qG_copy_3_22_ok {S : zSc} {M : zM} {r : zM} (h : qG_copy_3_22 M = some r) : zF S 13 (0, [(0, .ref 3), (1, .ref 22)], [], zh, M) (none) (r) := by
  unfold qG_copy_3_22 at h
  refine zF_go (n := 52) (ps := [¬ (0 : Int32) < 0, ¬ (0 : Int32) < 0, ¬ (4 : Int32) < 0, (0 : Int32).toNatClampNeg + (4 : Int32).toNatClampNeg ≤ 4, (0 : Int32).toNatClampNeg + (4 : Int32).toNatClampNeg ≤ 4, ¬ (0 : Int32) < 0, ¬ (0 : Int32) < 0, ¬ (12 : Int32) < 0, (0 : Int32).toNatClampNeg + (12 : Int32).toNatClampNeg ≤ 12, (0 : Int32).toNatClampNeg + (12 : Int32).toNatClampNeg ≤ 12, ¬ (0 : Int32) < 0, ¬ (0 : Int32) < 0, ¬ (8 : Int32) < 0, (0 : Int32).toNatClampNeg + (8 : Int32).toNatClampNeg ≤ 8, (0 : Int32).toNatClampNeg + (8 : Int32).toNatClampNeg ≤ 8, ¬ (0 : Int32) < 0, ¬ (0 : Int32) < 0, ¬ (8 : Int32) < 0, (0 : Int32).toNatClampNeg + (8 : Int32).toNatClampNeg ≤ 8, (0 : Int32).toNatClampNeg + (8 : Int32).toNatClampNeg ≤ 8, ¬ (0 : Int32) < 0, ¬ (0 : Int32) < 0, ¬ (8 : Int32) < 0, (0 : Int32).toNatClampNeg + (8 : Int32).toNatClampNeg ≤ 8, (0 : Int32).toNatClampNeg + (8 : Int32).toNatClampNeg ≤ 8, ¬ (0 : Int32) < 0, ¬ (0 : Int32) < 0, ¬ (2 : Int32) < 0, (0 : Int32).toNatClampNeg + (2 : Int32).toNatClampNeg ≤ 2, (0 : Int32).toNatClampNeg + (2 : Int32).toNatClampNeg ≤ 2]) (s' := (96, [(0, .ref 3), (1, .ref 22)], [], zh, (zA (zA (zA (zA (zA (zA (zw M 3 0 (M 22 0)) 4 (va_cpy (M 23) (M 4) ((0 : Int32).toNatClampNeg) ((0 : Int32).toNatClampNeg) ((4 : Int32).toNatClampNeg))) 5 (va_cpy (M 24) (M 5) ((0 : Int32).toNatClampNeg) ((0 : Int32).toNatClampNeg) ((12 : Int32).toNatClampNeg))) 6 (va_cpy (M 25) (M 6) ((0 : Int32).toNatClampNeg) ((0 : Int32).toNatClampNeg) ((8 : Int32).toNatClampNeg))) 7 (va_cpy (M 26) (M 7) ((0 : Int32).toNatClampNeg) ((0 : Int32).toNatClampNeg) ((8 : Int32).toNatClampNeg))) 8 (va_cpy (M 27) (M 8) ((0 : Int32).toNatClampNeg) ((0 : Int32).toNatClampNeg) ((8 : Int32).toNatClampNeg))) 9 (va_cpy (M 28) (M 9) ((0 : Int32).toNatClampNeg) ((0 : Int32).toNatClampNeg) ((2 : Int32).toNatClampNeg))))) rfl ⟨(by decide), (by decide), (by decide), (by decide), (by decide), (by decide), (by decide), (by decide), (by decide), (by decide), (by decide), (by decide), (by decide), (by decide), (by decide), (by decide), (by decide), (by decide), (by decide), (by decide), (by decide), (by decide), (by decide), (by decide), (by decide), (by decide), (by decide), (by decide), (by decide), (by decide), trivial⟩ ?_
  cases h
  exact zF_ret rfl trivial
noncomputable def qE_copy_10_29 (M : zM) : Option (zM) :=
  some (zA (zA (zA (zA (zA (zA (zA (zw M 10 0 (M 29 0)) 11 (va_cpy (M 30) (M 11) ((0 : Int32).toNatClampNeg) ((0 : Int32).toNatClampNeg) ((5 : Int32).toNatClampNeg))) 12 (va_cpy (M 31) (M 12) ((0 : Int32).toNatClampNeg) ((0 : Int32).toNatClampNeg) ((10 : Int32).toNatClampNeg))) 13 (va_cpy (M 32) (M 13) ((0 : Int32).toNatClampNeg) ((0 : Int32).toNatClampNeg) ((5 : Int32).toNatClampNeg))) 14 (va_cpy (M 33) (M 14) ((0 : Int32).toNatClampNeg) ((0 : Int32).toNatClampNeg) ((5 : Int32).toNatClampNeg))) 15 (va_cpy (M 34) (M 15) ((0 : Int32).toNatClampNeg) ((0 : Int32).toNatClampNeg) ((20 : Int32).toNatClampNeg))) 16 (va_cpy (M 35) (M 16) ((0 : Int32).toNatClampNeg) ((0 : Int32).toNatClampNeg) ((20 : Int32).toNatClampNeg))) 17 (va_cpy (M 36) (M 17) ((0 : Int32).toNatClampNeg) ((0 : Int32).toNatClampNeg) ((20 : Int32).toNatClampNeg)))
set_option maxRecDepth 20000 in
set_option maxHeartbeats 4000000 in
theorem qE_copy_10_29_ok {S : zSc} {M : zM} {r : zM} (h : qE_copy_10_29 M = some r) : zF S 39 (0, [(0, .ref 10), (1, .ref 29)], [], zh, M) (none) (r) := by
  unfold qE_copy_10_29 at h
  refine zF_go (n := 60) (ps := [¬ (0 : Int32) < 0, ¬ (0 : Int32) < 0, ¬ (5 : Int32) < 0, (0 : Int32).toNatClampNeg + (5 : Int32).toNatClampNeg ≤ 5, (0 : Int32).toNatClampNeg + (5 : Int32).toNatClampNeg ≤ 5, ¬ (0 : Int32) < 0, ¬ (0 : Int32) < 0, ¬ (10 : Int32) < 0, (0 : Int32).toNatClampNeg + (10 : Int32).toNatClampNeg ≤ 10, (0 : Int32).toNatClampNeg + (10 : Int32).toNatClampNeg ≤ 10, ¬ (0 : Int32) < 0, ¬ (0 : Int32) < 0, ¬ (5 : Int32) < 0, (0 : Int32).toNatClampNeg + (5 : Int32).toNatClampNeg ≤ 5, (0 : Int32).toNatClampNeg + (5 : Int32).toNatClampNeg ≤ 5, ¬ (0 : Int32) < 0, ¬ (0 : Int32) < 0, ¬ (5 : Int32) < 0, (0 : Int32).toNatClampNeg + (5 : Int32).toNatClampNeg ≤ 5, (0 : Int32).toNatClampNeg + (5 : Int32).toNatClampNeg ≤ 5, ¬ (0 : Int32) < 0, ¬ (0 : Int32) < 0, ¬ (20 : Int32) < 0, (0 : Int32).toNatClampNeg + (20 : Int32).toNatClampNeg ≤ 20, (0 : Int32).toNatClampNeg + (20 : Int32).toNatClampNeg ≤ 20, ¬ (0 : Int32) < 0, ¬ (0 : Int32) < 0, ¬ (20 : Int32) < 0, (0 : Int32).toNatClampNeg + (20 : Int32).toNatClampNeg ≤ 20, (0 : Int32).toNatClampNeg + (20 : Int32).toNatClampNeg ≤ 20, ¬ (0 : Int32) < 0, ¬ (0 : Int32) < 0, ¬ (20 : Int32) < 0, (0 : Int32).toNatClampNeg + (20 : Int32).toNatClampNeg ≤ 20, (0 : Int32).toNatClampNeg + (20 : Int32).toNatClampNeg ≤ 20]) (s' := (110, [(0, .ref 10), (1, .ref 29)], [], zh, (zA (zA (zA (zA (zA (zA (zA (zw M 10 0 (M 29 0)) 11 (va_cpy (M 30) (M 11) ((0 : Int32).toNatClampNeg) ((0 : Int32).toNatClampNeg) ((5 : Int32).toNatClampNeg))) 12 (va_cpy (M 31) (M 12) ((0 : Int32).toNatClampNeg) ((0 : Int32).toNatClampNeg) ((10 : Int32).toNatClampNeg))) 13 (va_cpy (M 32) (M 13) ((0 : Int32).toNatClampNeg) ((0 : Int32).toNatClampNeg) ((5 : Int32).toNatClampNeg))) 14 (va_cpy (M 33) (M 14) ((0 : Int32).toNatClampNeg) ((0 : Int32).toNatClampNeg) ((5 : Int32).toNatClampNeg))) 15 (va_cpy (M 34) (M 15) ((0 : Int32).toNatClampNeg) ((0 : Int32).toNatClampNeg) ((20 : Int32).toNatClampNeg))) 16 (va_cpy (M 35) (M 16) ((0 : Int32).toNatClampNeg) ((0 : Int32).toNatClampNeg) ((20 : Int32).toNatClampNeg))) 17 (va_cpy (M 36) (M 17) ((0 : Int32).toNatClampNeg) ((0 : Int32).toNatClampNeg) ((20 : Int32).toNatClampNeg))))) rfl ⟨(by decide), (by decide), (by decide), (by decide), (by decide), (by decide), (by decide), (by decide), (by decide), (by decide), (by decide), (by decide), (by decide), (by decide), (by decide), (by decide), (by decide), (by decide), (by decide), (by decide), (by decide), (by decide), (by decide), (by decide), (by decide), (by decide), (by decide), (by decide), (by decide), (by decide), (by decide), (by decide), (by decide), (by decide), (by decide), trivial⟩ ?_
  cases h
  exact zF_ret rfl trivial
noncomputable def qT_copy_18_37 (M : zM) : Option (zM) :=
  some (zA (zw M 18 0 (M 37 0)) 19 (va_cpy (M 38) (M 19) ((0 : Int32).toNatClampNeg) ((0 : Int32).toNatClampNeg) ((30 : Int32).toNatClampNeg)))
set_option maxRecDepth 20000 in
set_option maxHeartbeats 4000000 in
theorem qT_copy_18_37_ok {S : zSc} {M : zM} {r : zM} (h : qT_copy_18_37 M = some r) : zF S 54 (0, [(0, .ref 18), (1, .ref 37)], [], zh, M) (none) (r) := by
  unfold qT_copy_18_37 at h
  refine zF_go (n := 12) (ps := [¬ (0 : Int32) < 0, ¬ (0 : Int32) < 0, ¬ (30 : Int32) < 0, (0 : Int32).toNatClampNeg + (30 : Int32).toNatClampNeg ≤ 30, (0 : Int32).toNatClampNeg + (30 : Int32).toNatClampNeg ≤ 30]) (s' := (23, [(0, .ref 18), (1, .ref 37)], [], zh, (zA (zw M 18 0 (M 37 0)) 19 (va_cpy (M 38) (M 19) ((0 : Int32).toNatClampNeg) ((0 : Int32).toNatClampNeg) ((30 : Int32).toNatClampNeg))))) rfl ⟨(by decide), (by decide), (by decide), (by decide), (by decide), trivial⟩ ?_
  cases h
  exact zF_ret rfl trivial
noncomputable def qO_copy_2_21 (M : zM) : Option (zM) :=
  zb (qG_copy_3_22 M) fun M1 =>
  zb (qE_copy_10_29 M1) fun M2 =>
  zb (qT_copy_18_37 M2) fun M3 =>
  some (zw M3 2 3 (M3 21 3))
set_option maxRecDepth 20000 in
set_option maxHeartbeats 4000000 in
theorem qO_copy_2_21_ok {S : zSc} {M : zM} {r : zM} (h : qO_copy_2_21 M = some r) : zF S 62 (0, [(0, .ref 2), (1, .ref 21)], [], zh, M) (none) (r) := by
  unfold qO_copy_2_21 at h
  refine zF_go (n := 4) (ps := []) (s' := (8, [(0, .ref 2), (1, .ref 21)], [.ref 22, .ref 3], zh, M)) rfl trivial ?_
  obtain ⟨M1, e4, h⟩ := zb_some h
  refine zF_call (y' := 13) (as := [.ref 3, .ref 22]) (u := (11, [(0, .ref 2), (1, .ref 21)], [], zh, M)) rfl ⟨rfl, rfl⟩ rfl (qG_copy_3_22_ok (S := S) (M := M) e4) ?_
  show zF S 62 (11, [(0, .ref 2), (1, .ref 21)], [], zh, M1) _ _
  refine zF_go (n := 4) (ps := []) (s' := (19, [(0, .ref 2), (1, .ref 21)], [.ref 29, .ref 10], zh, M1)) rfl trivial ?_
  obtain ⟨M2, e5, h⟩ := zb_some h
  refine zF_call (y' := 39) (as := [.ref 10, .ref 29]) (u := (22, [(0, .ref 2), (1, .ref 21)], [], zh, M1)) rfl ⟨rfl, rfl⟩ rfl (qE_copy_10_29_ok (S := S) (M := M1) e5) ?_
  show zF S 62 (22, [(0, .ref 2), (1, .ref 21)], [], zh, M2) _ _
  refine zF_go (n := 4) (ps := []) (s' := (30, [(0, .ref 2), (1, .ref 21)], [.ref 37, .ref 18], zh, M2)) rfl trivial ?_
  obtain ⟨M3, e6, h⟩ := zb_some h
  refine zF_call (y' := 54) (as := [.ref 18, .ref 37]) (u := (33, [(0, .ref 2), (1, .ref 21)], [], zh, M2)) rfl ⟨rfl, rfl⟩ rfl (qT_copy_18_37_ok (S := S) (M := M2) e6) ?_
  show zF S 62 (33, [(0, .ref 2), (1, .ref 21)], [], zh, M3) _ _
  refine zF_go (n := 4) (ps := []) (s' := (41, [(0, .ref 2), (1, .ref 21)], [], zh, (zw M3 2 3 (M3 21 3)))) rfl trivial ?_
  cases h
  exact zF_ret rfl trivial
noncomputable def qG_copy_3_40 (M : zM) : Option (zM) :=
  some (zA (zA (zA (zA (zA (zA (zw M 3 0 (M 40 0)) 4 (va_cpy (M 41) (M 4) ((0 : Int32).toNatClampNeg) ((0 : Int32).toNatClampNeg) ((4 : Int32).toNatClampNeg))) 5 (va_cpy (M 42) (M 5) ((0 : Int32).toNatClampNeg) ((0 : Int32).toNatClampNeg) ((12 : Int32).toNatClampNeg))) 6 (va_cpy (M 43) (M 6) ((0 : Int32).toNatClampNeg) ((0 : Int32).toNatClampNeg) ((8 : Int32).toNatClampNeg))) 7 (va_cpy (M 44) (M 7) ((0 : Int32).toNatClampNeg) ((0 : Int32).toNatClampNeg) ((8 : Int32).toNatClampNeg))) 8 (va_cpy (M 45) (M 8) ((0 : Int32).toNatClampNeg) ((0 : Int32).toNatClampNeg) ((8 : Int32).toNatClampNeg))) 9 (va_cpy (M 46) (M 9) ((0 : Int32).toNatClampNeg) ((0 : Int32).toNatClampNeg) ((2 : Int32).toNatClampNeg)))
set_option maxRecDepth 20000 in
set_option maxHeartbeats 4000000 in
theorem qG_copy_3_40_ok {S : zSc} {M : zM} {r : zM} (h : qG_copy_3_40 M = some r) : zF S 13 (0, [(0, .ref 3), (1, .ref 40)], [], zh, M) (none) (r) := by
  unfold qG_copy_3_40 at h
  refine zF_go (n := 52) (ps := [¬ (0 : Int32) < 0, ¬ (0 : Int32) < 0, ¬ (4 : Int32) < 0, (0 : Int32).toNatClampNeg + (4 : Int32).toNatClampNeg ≤ 4, (0 : Int32).toNatClampNeg + (4 : Int32).toNatClampNeg ≤ 4, ¬ (0 : Int32) < 0, ¬ (0 : Int32) < 0, ¬ (12 : Int32) < 0, (0 : Int32).toNatClampNeg + (12 : Int32).toNatClampNeg ≤ 12, (0 : Int32).toNatClampNeg + (12 : Int32).toNatClampNeg ≤ 12, ¬ (0 : Int32) < 0, ¬ (0 : Int32) < 0, ¬ (8 : Int32) < 0, (0 : Int32).toNatClampNeg + (8 : Int32).toNatClampNeg ≤ 8, (0 : Int32).toNatClampNeg + (8 : Int32).toNatClampNeg ≤ 8, ¬ (0 : Int32) < 0, ¬ (0 : Int32) < 0, ¬ (8 : Int32) < 0, (0 : Int32).toNatClampNeg + (8 : Int32).toNatClampNeg ≤ 8, (0 : Int32).toNatClampNeg + (8 : Int32).toNatClampNeg ≤ 8, ¬ (0 : Int32) < 0, ¬ (0 : Int32) < 0, ¬ (8 : Int32) < 0, (0 : Int32).toNatClampNeg + (8 : Int32).toNatClampNeg ≤ 8, (0 : Int32).toNatClampNeg + (8 : Int32).toNatClampNeg ≤ 8, ¬ (0 : Int32) < 0, ¬ (0 : Int32) < 0, ¬ (2 : Int32) < 0, (0 : Int32).toNatClampNeg + (2 : Int32).toNatClampNeg ≤ 2, (0 : Int32).toNatClampNeg + (2 : Int32).toNatClampNeg ≤ 2]) (s' := (96, [(0, .ref 3), (1, .ref 40)], [], zh, (zA (zA (zA (zA (zA (zA (zw M 3 0 (M 40 0)) 4 (va_cpy (M 41) (M 4) ((0 : Int32).toNatClampNeg) ((0 : Int32).toNatClampNeg) ((4 : Int32).toNatClampNeg))) 5 (va_cpy (M 42) (M 5) ((0 : Int32).toNatClampNeg) ((0 : Int32).toNatClampNeg) ((12 : Int32).toNatClampNeg))) 6 (va_cpy (M 43) (M 6) ((0 : Int32).toNatClampNeg) ((0 : Int32).toNatClampNeg) ((8 : Int32).toNatClampNeg))) 7 (va_cpy (M 44) (M 7) ((0 : Int32).toNatClampNeg) ((0 : Int32).toNatClampNeg) ((8 : Int32).toNatClampNeg))) 8 (va_cpy (M 45) (M 8) ((0 : Int32).toNatClampNeg) ((0 : Int32).toNatClampNeg) ((8 : Int32).toNatClampNeg))) 9 (va_cpy (M 46) (M 9) ((0 : Int32).toNatClampNeg) ((0 : Int32).toNatClampNeg) ((2 : Int32).toNatClampNeg))))) rfl ⟨(by decide), (by decide), (by decide), (by decide), (by decide), (by decide), (by decide), (by decide), (by decide), (by decide), (by decide), (by decide), (by decide), (by decide), (by decide), (by decide), (by decide), (by decide), (by decide), (by decide), (by decide), (by decide), (by decide), (by decide), (by decide), (by decide), (by decide), (by decide), (by decide), (by decide), trivial⟩ ?_
  cases h
  exact zF_ret rfl trivial
noncomputable def qE_copy_10_47 (M : zM) : Option (zM) :=
  some (zA (zA (zA (zA (zA (zA (zA (zw M 10 0 (M 47 0)) 11 (va_cpy (M 48) (M 11) ((0 : Int32).toNatClampNeg) ((0 : Int32).toNatClampNeg) ((5 : Int32).toNatClampNeg))) 12 (va_cpy (M 49) (M 12) ((0 : Int32).toNatClampNeg) ((0 : Int32).toNatClampNeg) ((10 : Int32).toNatClampNeg))) 13 (va_cpy (M 50) (M 13) ((0 : Int32).toNatClampNeg) ((0 : Int32).toNatClampNeg) ((5 : Int32).toNatClampNeg))) 14 (va_cpy (M 51) (M 14) ((0 : Int32).toNatClampNeg) ((0 : Int32).toNatClampNeg) ((5 : Int32).toNatClampNeg))) 15 (va_cpy (M 52) (M 15) ((0 : Int32).toNatClampNeg) ((0 : Int32).toNatClampNeg) ((20 : Int32).toNatClampNeg))) 16 (va_cpy (M 53) (M 16) ((0 : Int32).toNatClampNeg) ((0 : Int32).toNatClampNeg) ((20 : Int32).toNatClampNeg))) 17 (va_cpy (M 54) (M 17) ((0 : Int32).toNatClampNeg) ((0 : Int32).toNatClampNeg) ((20 : Int32).toNatClampNeg)))
set_option maxRecDepth 20000 in
set_option maxHeartbeats 4000000 in
theorem qE_copy_10_47_ok {S : zSc} {M : zM} {r : zM} (h : qE_copy_10_47 M = some r) : zF S 39 (0, [(0, .ref 10), (1, .ref 47)], [], zh, M) (none) (r) := by
  unfold qE_copy_10_47 at h
  refine zF_go (n := 60) (ps := [¬ (0 : Int32) < 0, ¬ (0 : Int32) < 0, ¬ (5 : Int32) < 0, (0 : Int32).toNatClampNeg + (5 : Int32).toNatClampNeg ≤ 5, (0 : Int32).toNatClampNeg + (5 : Int32).toNatClampNeg ≤ 5, ¬ (0 : Int32) < 0, ¬ (0 : Int32) < 0, ¬ (10 : Int32) < 0, (0 : Int32).toNatClampNeg + (10 : Int32).toNatClampNeg ≤ 10, (0 : Int32).toNatClampNeg + (10 : Int32).toNatClampNeg ≤ 10, ¬ (0 : Int32) < 0, ¬ (0 : Int32) < 0, ¬ (5 : Int32) < 0, (0 : Int32).toNatClampNeg + (5 : Int32).toNatClampNeg ≤ 5, (0 : Int32).toNatClampNeg + (5 : Int32).toNatClampNeg ≤ 5, ¬ (0 : Int32) < 0, ¬ (0 : Int32) < 0, ¬ (5 : Int32) < 0, (0 : Int32).toNatClampNeg + (5 : Int32).toNatClampNeg ≤ 5, (0 : Int32).toNatClampNeg + (5 : Int32).toNatClampNeg ≤ 5, ¬ (0 : Int32) < 0, ¬ (0 : Int32) < 0, ¬ (20 : Int32) < 0, (0 : Int32).toNatClampNeg + (20 : Int32).toNatClampNeg ≤ 20, (0 : Int32).toNatClampNeg + (20 : Int32).toNatClampNeg ≤ 20, ¬ (0 : Int32) < 0, ¬ (0 : Int32) < 0, ¬ (20 : Int32) < 0, (0 : Int32).toNatClampNeg + (20 : Int32).toNatClampNeg ≤ 20, (0 : Int32).toNatClampNeg + (20 : Int32).toNatClampNeg ≤ 20, ¬ (0 : Int32) < 0, ¬ (0 : Int32) < 0, ¬ (20 : Int32) < 0, (0 : Int32).toNatClampNeg + (20 : Int32).toNatClampNeg ≤ 20, (0 : Int32).toNatClampNeg + (20 : Int32).toNatClampNeg ≤ 20]) (s' := (110, [(0, .ref 10), (1, .ref 47)], [], zh, (zA (zA (zA (zA (zA (zA (zA (zw M 10 0 (M 47 0)) 11 (va_cpy (M 48) (M 11) ((0 : Int32).toNatClampNeg) ((0 : Int32).toNatClampNeg) ((5 : Int32).toNatClampNeg))) 12 (va_cpy (M 49) (M 12) ((0 : Int32).toNatClampNeg) ((0 : Int32).toNatClampNeg) ((10 : Int32).toNatClampNeg))) 13 (va_cpy (M 50) (M 13) ((0 : Int32).toNatClampNeg) ((0 : Int32).toNatClampNeg) ((5 : Int32).toNatClampNeg))) 14 (va_cpy (M 51) (M 14) ((0 : Int32).toNatClampNeg) ((0 : Int32).toNatClampNeg) ((5 : Int32).toNatClampNeg))) 15 (va_cpy (M 52) (M 15) ((0 : Int32).toNatClampNeg) ((0 : Int32).toNatClampNeg) ((20 : Int32).toNatClampNeg))) 16 (va_cpy (M 53) (M 16) ((0 : Int32).toNatClampNeg) ((0 : Int32).toNatClampNeg) ((20 : Int32).toNatClampNeg))) 17 (va_cpy (M 54) (M 17) ((0 : Int32).toNatClampNeg) ((0 : Int32).toNatClampNeg) ((20 : Int32).toNatClampNeg))))) rfl ⟨(by decide), (by decide), (by decide), (by decide), (by decide), (by decide), (by decide), (by decide), (by decide), (by decide), (by decide), (by decide), (by decide), (by decide), (by decide), (by decide), (by decide), (by decide), (by decide), (by decide), (by decide), (by decide), (by decide), (by decide), (by decide), (by decide), (by decide), (by decide), (by decide), (by decide), (by decide), (by decide), (by decide), (by decide), (by decide), trivial⟩ ?_
  cases h
  exact zF_ret rfl trivial
noncomputable def qT_copy_18_55 (M : zM) : Option (zM) :=
  some (zA (zw M 18 0 (M 55 0)) 19 (va_cpy (M 56) (M 19) ((0 : Int32).toNatClampNeg) ((0 : Int32).toNatClampNeg) ((30 : Int32).toNatClampNeg)))
set_option maxRecDepth 20000 in
set_option maxHeartbeats 4000000 in
theorem qT_copy_18_55_ok {S : zSc} {M : zM} {r : zM} (h : qT_copy_18_55 M = some r) : zF S 54 (0, [(0, .ref 18), (1, .ref 55)], [], zh, M) (none) (r) := by
  unfold qT_copy_18_55 at h
  refine zF_go (n := 12) (ps := [¬ (0 : Int32) < 0, ¬ (0 : Int32) < 0, ¬ (30 : Int32) < 0, (0 : Int32).toNatClampNeg + (30 : Int32).toNatClampNeg ≤ 30, (0 : Int32).toNatClampNeg + (30 : Int32).toNatClampNeg ≤ 30]) (s' := (23, [(0, .ref 18), (1, .ref 55)], [], zh, (zA (zw M 18 0 (M 55 0)) 19 (va_cpy (M 56) (M 19) ((0 : Int32).toNatClampNeg) ((0 : Int32).toNatClampNeg) ((30 : Int32).toNatClampNeg))))) rfl ⟨(by decide), (by decide), (by decide), (by decide), (by decide), trivial⟩ ?_
  cases h
  exact zF_ret rfl trivial
noncomputable def qO_copy_2_39 (M : zM) : Option (zM) :=
  zb (qG_copy_3_40 M) fun M1 =>
  zb (qE_copy_10_47 M1) fun M2 =>
  zb (qT_copy_18_55 M2) fun M3 =>
  some (zw M3 2 3 (M3 39 3))
set_option maxRecDepth 20000 in
set_option maxHeartbeats 4000000 in
theorem qO_copy_2_39_ok {S : zSc} {M : zM} {r : zM} (h : qO_copy_2_39 M = some r) : zF S 62 (0, [(0, .ref 2), (1, .ref 39)], [], zh, M) (none) (r) := by
  unfold qO_copy_2_39 at h
  refine zF_go (n := 4) (ps := []) (s' := (8, [(0, .ref 2), (1, .ref 39)], [.ref 40, .ref 3], zh, M)) rfl trivial ?_
  obtain ⟨M1, e4, h⟩ := zb_some h
  refine zF_call (y' := 13) (as := [.ref 3, .ref 40]) (u := (11, [(0, .ref 2), (1, .ref 39)], [], zh, M)) rfl ⟨rfl, rfl⟩ rfl (qG_copy_3_40_ok (S := S) (M := M) e4) ?_
  show zF S 62 (11, [(0, .ref 2), (1, .ref 39)], [], zh, M1) _ _
  refine zF_go (n := 4) (ps := []) (s' := (19, [(0, .ref 2), (1, .ref 39)], [.ref 47, .ref 10], zh, M1)) rfl trivial ?_
  obtain ⟨M2, e5, h⟩ := zb_some h
  refine zF_call (y' := 39) (as := [.ref 10, .ref 47]) (u := (22, [(0, .ref 2), (1, .ref 39)], [], zh, M1)) rfl ⟨rfl, rfl⟩ rfl (qE_copy_10_47_ok (S := S) (M := M1) e5) ?_
  show zF S 62 (22, [(0, .ref 2), (1, .ref 39)], [], zh, M2) _ _
  refine zF_go (n := 4) (ps := []) (s' := (30, [(0, .ref 2), (1, .ref 39)], [.ref 55, .ref 18], zh, M2)) rfl trivial ?_
  obtain ⟨M3, e6, h⟩ := zb_some h
  refine zF_call (y' := 54) (as := [.ref 18, .ref 55]) (u := (33, [(0, .ref 2), (1, .ref 39)], [], zh, M2)) rfl ⟨rfl, rfl⟩ rfl (qT_copy_18_55_ok (S := S) (M := M2) e6) ?_
  show zF S 62 (33, [(0, .ref 2), (1, .ref 39)], [], zh, M3) _ _
  refine zF_go (n := 4) (ps := []) (s' := (41, [(0, .ref 2), (1, .ref 39)], [], zh, (zw M3 2 3 (M3 39 3)))) rfl trivial ?_
  cases h
  exact zF_ret rfl trivial
noncomputable def qS_restore (M : zM) (p_n : Int32) : Option (Int32 × zM) :=
  zb (qS_isOut p_n 0 1) fun x1 =>
  if x1 = 0 then
    (zq (vp_in p_n 2) <| if (M 57 p_n.toNatClampNeg) = 0 then
      (some ((-3), M))
    else
      (zb (qD_forget M) fun M2 =>
      if p_n = 0 then
        (zb (qO_copy_2_21 M2) fun M3 =>
        some (1, M3))
      else if p_n = 1 then
        (zb (qO_copy_2_39 M2) fun M4 =>
        some (1, M4))
      else none))
  else
    (some ((-2), M))
set_option maxRecDepth 20000 in
set_option maxHeartbeats 4000000 in
theorem qS_restore_ok {S : zSc} {M : zM} {p_n : Int32} {r : Int32 × zM} (h : qS_restore M p_n = some r) : zF S 123 (0, [(0, .ref 1), (1, .int p_n)], [], zh, M) (some (.int r.1)) (r.2) := by
  unfold qS_restore at h
  refine zF_go (n := 3) (ps := []) (s' := (3, [(0, .ref 1), (1, .int p_n)], [.int 1, .int 0, .int p_n], zh, M)) rfl trivial ?_
  obtain ⟨x1, e5, h⟩ := zb_some h
  refine zF_call (y' := 125) (as := [.int p_n, .int 0, .int 1]) (u := (6, [(0, .ref 1), (1, .int p_n)], [], zh, M)) rfl ⟨rfl, rfl⟩ rfl (qS_isOut_ok (S := S) (M := M) e5) ?_
  show zF S 123 (6, [(0, .ref 1), (1, .int p_n)], [.int x1], zh, M) _ _
  refine zF_eq (t := 12) (u := (9, [(0, .ref 1), (1, .int p_n)], [], zh, M)) rfl (fun c6 => ?_) (fun c6 => ?_)
  · rw [if_pos c6] at h
    obtain ⟨g7, h⟩ := zq_some h
    refine zF_go (n := 4) (ps := [vp_in p_n 2]) (s' := (18, [(0, .ref 1), (1, .int p_n)], [.int (M 57 p_n.toNatClampNeg)], zh, M)) rfl ⟨g7, trivial⟩ ?_
    refine zF_ne (t := 24) (u := (21, [(0, .ref 1), (1, .int p_n)], [], zh, M)) rfl (fun c8 => ?_) (fun c8 => ?_)
    · rw [if_neg c8] at h
      refine zF_go (n := 2) (ps := []) (s' := (28, [(0, .ref 1), (1, .int p_n)], [.ref 78], zh, M)) rfl trivial ?_
      obtain ⟨M2, e9, h⟩ := zb_some h
      refine zF_call (y' := 1) (as := [.ref 78]) (u := (31, [(0, .ref 1), (1, .int p_n)], [], zh, M)) rfl ⟨rfl, rfl⟩ rfl (qD_forget_ok (S := S) (M := M) e9) ?_
      show zF S 123 (31, [(0, .ref 1), (1, .int p_n)], [], zh, M2) _ _
      refine zF_go (n := 5) (ps := []) (s' := (40, [(0, .ref 1), (1, .int p_n)], [.int p_n, .ref 20, .ref 2], zh, M2)) rfl trivial ?_
      by_cases c10 : p_n = 0
      · rw [if_pos c10] at h
        revert h
        subst c10
        intro h
        refine zF_go (n := 1) (ps := [vp_in 0 2]) (s' := (41, [(0, .ref 1), (1, .int 0)], [.ref 21, .ref 2], zh, M2)) rfl ⟨by unfold vp_in; decide, trivial⟩ ?_
        obtain ⟨M3, e11, h⟩ := zb_some h
        refine zF_call (y' := 62) (as := [.ref 2, .ref 21]) (u := (44, [(0, .ref 1), (1, .int 0)], [], zh, M2)) rfl ⟨rfl, rfl⟩ rfl (qO_copy_2_21_ok (S := S) (M := M2) e11) ?_
        show zF S 123 (44, [(0, .ref 1), (1, .int 0)], [], zh, M3) _ _
        refine zF_go (n := 1) (ps := []) (s' := (45, [(0, .ref 1), (1, .int 0)], [.int 1], zh, M3)) rfl trivial ?_
        cases h
        exact zF_ret rfl trivial
      rw [if_neg c10] at h
      by_cases c12 : p_n = 1
      · rw [if_pos c12] at h
        revert h
        subst c12
        intro h
        refine zF_go (n := 1) (ps := [vp_in 1 2]) (s' := (41, [(0, .ref 1), (1, .int 1)], [.ref 39, .ref 2], zh, M2)) rfl ⟨by unfold vp_in; decide, trivial⟩ ?_
        obtain ⟨M4, e13, h⟩ := zb_some h
        refine zF_call (y' := 62) (as := [.ref 2, .ref 39]) (u := (44, [(0, .ref 1), (1, .int 1)], [], zh, M2)) rfl ⟨rfl, rfl⟩ rfl (qO_copy_2_39_ok (S := S) (M := M2) e13) ?_
        show zF S 123 (44, [(0, .ref 1), (1, .int 1)], [], zh, M4) _ _
        refine zF_go (n := 1) (ps := []) (s' := (45, [(0, .ref 1), (1, .int 1)], [.int 1], zh, M4)) rfl trivial ?_
        cases h
        exact zF_ret rfl trivial
      rw [if_neg c12] at h
      cases h
    · rw [if_pos c8] at h
      refine zF_go (n := 1) (ps := []) (s' := (23, [(0, .ref 1), (1, .int p_n)], [.int (-3)], zh, M)) rfl trivial ?_
      cases h
      exact zF_ret rfl trivial
  · rw [if_neg c6] at h
    refine zF_go (n := 1) (ps := []) (s' := (11, [(0, .ref 1), (1, .int p_n)], [.int (-2)], zh, M)) rfl trivial ?_
    cases h
    exact zF_ret rfl trivial
noncomputable def qM_restore (M : zM) (p_n : Int32) : Option (Int32 × zM) :=
  zb (qM_in p_n.toInt64 0 1) fun x1 =>
  if x1 = 0 then
    (some ((-2), M))
  else
    (zq (vp_in p_n 2) <| if (M 107 p_n.toNatClampNeg) = 0 then
      (some ((-3), M))
    else
      (zb (qM_passAll (zw (zw M 86 32 (200 * p_n)) 86 33 0)) fun M2 =>
      some (1, M2)))
set_option maxRecDepth 20000 in
set_option maxHeartbeats 4000000 in
theorem qM_restore_ok {S : zSc} {M : zM} {p_n : Int32} {r : Int32 × zM} (h : qM_restore M p_n = some r) : zF S 208 (0, [(0, .ref 86), (1, .int p_n)], [], zh, M) (some (.int r.1)) (r.2) := by
  unfold qM_restore at h
  refine zF_go (n := 4) (ps := []) (s' := (4, [(0, .ref 86), (1, .int p_n)], [.long 1, .long 0, .long p_n.toInt64], zh, M)) rfl trivial ?_
  obtain ⟨x1, e3, h⟩ := zb_some h
  refine zF_call (y' := 134) (as := [.long p_n.toInt64, .long 0, .long 1]) (u := (7, [(0, .ref 86), (1, .int p_n)], [], zh, M)) rfl ⟨rfl, rfl⟩ rfl (qM_in_ok (S := S) (M := M) e3) ?_
  show zF S 208 (7, [(0, .ref 86), (1, .int p_n)], [.int x1], zh, M) _ _
  refine zF_ne (t := 13) (u := (10, [(0, .ref 86), (1, .int p_n)], [], zh, M)) rfl (fun c4 => ?_) (fun c4 => ?_)
  · rw [if_neg c4] at h
    obtain ⟨g5, h⟩ := zq_some h
    refine zF_go (n := 4) (ps := [vp_in p_n 2]) (s' := (19, [(0, .ref 86), (1, .int p_n)], [.int (M 107 p_n.toNatClampNeg)], zh, M)) rfl ⟨g5, trivial⟩ ?_
    refine zF_ne (t := 25) (u := (22, [(0, .ref 86), (1, .int p_n)], [], zh, M)) rfl (fun c6 => ?_) (fun c6 => ?_)
    · rw [if_neg c6] at h
      refine zF_go (n := 9) (ps := [(0 : Int32) = 0 ∨ (0 : Int32) = 1]) (s' := (40, [(0, .ref 86), (1, .int p_n)], [.ref 86], zh, (zw (zw M 86 32 (200 * p_n)) 86 33 0))) rfl ⟨(Or.inl rfl), trivial⟩ ?_
      obtain ⟨M2, e7, h⟩ := zb_some h
      refine zF_call (y' := 206) (as := [.ref 86]) (u := (43, [(0, .ref 86), (1, .int p_n)], [], zh, (zw (zw M 86 32 (200 * p_n)) 86 33 0))) rfl ⟨rfl, rfl⟩ rfl (qM_passAll_ok (S := S) (M := (zw (zw M 86 32 (200 * p_n)) 86 33 0)) e7) ?_
      show zF S 208 (43, [(0, .ref 86), (1, .int p_n)], [], zh, M2) _ _
      refine zF_go (n := 1) (ps := []) (s' := (44, [(0, .ref 86), (1, .int p_n)], [.int 1], zh, M2)) rfl trivial ?_
      cases h
      exact zF_ret rfl trivial
    · rw [if_pos c6] at h
      refine zF_go (n := 1) (ps := []) (s' := (24, [(0, .ref 86), (1, .int p_n)], [.int (-3)], zh, M)) rfl trivial ?_
      cases h
      exact zF_ret rfl trivial
  · rw [if_pos c4] at h
    refine zF_go (n := 1) (ps := []) (s' := (12, [(0, .ref 86), (1, .int p_n)], [.int (-2)], zh, M)) rfl trivial ?_
    cases h
    exact zF_ret rfl trivial
noncomputable def qG_rowCount_3_L4 (M : zM) (rec3 : (Int32 × Int32) → Option (Int32)) (v : Int32 × Int32) : Option (Int32) := match v with
  | (v1_1, v2_2) =>
    if v2_2 < (M 3 0) then
      (zq (vp_in v2_2 4) <| rec3 ((v1_1 * (M 4 v2_2.toNatClampNeg)), (v2_2 + 1)))
    else
      (some v1_1)
noncomputable def qG_rowCount_3 (M : zM) : Option (Int32) :=
  zlp (qG_rowCount_3_L4 M) zfu (1, 0)
set_option maxRecDepth 20000 in
set_option maxHeartbeats 4000000 in
theorem qG_rowCount_3_ok {S : zSc} {M : zM} {r : Int32} (h : qG_rowCount_3 M = some r) : zF S 19 (0, [(0, .ref 3)], [], zh, M) (some (.int r)) (M) := by
  unfold qG_rowCount_3 at h
  refine zF_go (n := 4) (ps := []) (s' := (4, [(2, .int 0), (1, .int 1), (0, .ref 3)], [], zh, M)) rfl trivial ?_
  refine zF_same (s' := (4, [(0, .ref 3), (1, .int 1), (2, .int 0)], [], zh, M)) rfl ?_
  refine zlp_ind (P := fun (v : Int32 × Int32) r => zF S 19 (4, [(0, .ref 3), (1, .int v.1), (2, .int v.2)], [], zh, M) (some (.int r)) (M)) ?_ _ _ _ h
  intro rec3 hrec3 v r h
  obtain ⟨v1_1, v2_2⟩ := v
  unfold qG_rowCount_3_L4 at h
  dsimp only at h
  show zF S 19 (4, [(0, .ref 3), (1, .int v1_1), (2, .int v2_2)], [], zh, M) _ _
  refine zF_go (n := 3) (ps := []) (s' := (9, [(0, .ref 3), (1, .int v1_1), (2, .int v2_2)], [.int (M 3 0), .int v2_2], zh, M)) rfl trivial ?_
  refine zF_ge (t := 27) (u := (12, [(0, .ref 3), (1, .int v1_1), (2, .int v2_2)], [], zh, M)) rfl (fun c4 => ?_) (fun c4 => ?_)
  · rw [if_neg c4] at h
    refine zF_go (n := 1) (ps := []) (s' := (28, [(0, .ref 3), (1, .int v1_1), (2, .int v2_2)], [.int v1_1], zh, M)) rfl trivial ?_
    cases h
    exact zF_ret rfl trivial
  · rw [if_pos c4] at h
    obtain ⟨g5, h⟩ := zq_some h
    refine zF_go (n := 9) (ps := [vp_in v2_2 4]) (s' := (4, [(2, .int (v2_2 + 1)), (1, .int (v1_1 * (M 4 v2_2.toNatClampNeg))), (0, .ref 3)], [], zh, M)) rfl ⟨g5, trivial⟩ ?_
    exact zF_as (hrec3 _ _ h) rfl
noncomputable def qG_priceOrNone (M : zM) (p_place : Int32) : Option (Int32) :=
  if (p_place / 3) < (M 3 0) then
    (zq (vp_in (p_place / 3) 4) <| if (p_place - p_place / 3 * 3) < (M 4 (p_place / 3).toNatClampNeg) then
      (zq (vp_in p_place 12) <| some (M 5 p_place.toNatClampNeg))
    else
      (some (-6)))
  else
    (some (-6))
set_option maxRecDepth 20000 in
set_option maxHeartbeats 4000000 in
theorem qG_priceOrNone_ok {S : zSc} {M : zM} {p_place : Int32} {r : Int32} (h : qG_priceOrNone M p_place = some r) : zF S 18 (0, [(0, .ref 3), (1, .int p_place)], [], zh, M) (some (.int r)) (M) := by
  unfold qG_priceOrNone at h
  refine zF_go (n := 7) (ps := [¬ (3 : Int32) = 0]) (s' := (9, [(2, .int (p_place / 3)), (0, .ref 3), (1, .int p_place)], [.int (M 3 0), .int (p_place / 3)], zh, M)) rfl ⟨(by decide), trivial⟩ ?_
  refine zF_ge (t := 33) (u := (12, [(2, .int (p_place / 3)), (0, .ref 3), (1, .int p_place)], [], zh, M)) rfl (fun c1 => ?_) (fun c1 => ?_)
  · rw [if_neg c1] at h
    refine zF_go (n := 1) (ps := []) (s' := (35, [], [.int (-6)], zh, M)) rfl trivial ?_
    cases h
    exact zF_ret rfl trivial
  · rw [if_pos c1] at h
    obtain ⟨g2, h⟩ := zq_some h
    refine zF_go (n := 7) (ps := [¬ (3 : Int32) = 0, vp_in (p_place / 3) 4]) (s' := (21, [(2, .int (p_place / 3)), (0, .ref 3), (1, .int p_place)], [.int (M 4 (p_place / 3).toNatClampNeg), .int (p_place - p_place / 3 * 3)], zh, M)) rfl ⟨(by decide), g2, trivial⟩ ?_
    refine zF_ge (t := 33) (u := (24, [(2, .int (p_place / 3)), (0, .ref 3), (1, .int p_place)], [], zh, M)) rfl (fun c3 => ?_) (fun c3 => ?_)
    · rw [if_neg c3] at h
      refine zF_go (n := 1) (ps := []) (s' := (35, [], [.int (-6)], zh, M)) rfl trivial ?_
      cases h
      exact zF_ret rfl trivial
    · rw [if_pos c3] at h
      obtain ⟨g4, h⟩ := zq_some h
      refine zF_go (n := 5) (ps := [vp_in p_place 12]) (s' := (35, [(2, .int (p_place / 3)), (0, .ref 3), (1, .int p_place)], [.int (M 5 p_place.toNatClampNeg)], zh, M)) rfl ⟨g4, trivial⟩ ?_
      cases h
      exact zF_ret rfl trivial
noncomputable def qS_told (M : zM) (p_what : Int32) : Option (Int32) :=
  if p_what = 0 then
    (some (M 3 0))
  else if p_what = 1 then
    (some (M 10 0))
  else if p_what = 2 then
    (some (M 18 0))
  else if p_what = 3 then
    (some (M 58 0))
  else if p_what = 4 then
    (some (M 2 3))
  else if p_what = 5 then
    (zb (qG_rowCount_3 M) fun x1 =>
    some x1)
  else 
    (zb (qS_isOut p_what 10 21) fun x2 =>
    if x2 = 0 then
      (zb (qG_priceOrNone M (p_what - 10)) fun x3 =>
      some x3)
    else
      (some (-2)))
set_option maxRecDepth 20000 in
set_option maxHeartbeats 4000000 in
theorem qS_told_ok {S : zSc} {M : zM} {p_what : Int32} {r : Int32} (h : qS_told M p_what = some r) : zF S 124 (0, [(0, .ref 1), (1, .int p_what)], [], zh, M) (some (.int r)) (M) := by
  unfold qS_told at h
  refine zF_go (n := 1) (ps := []) (s' := (1, [(0, .ref 1), (1, .int p_what)], [.int p_what], zh, M)) rfl trivial ?_
  by_cases c4 : p_what = 0
  · rw [if_pos c4] at h
    refine zF_sw (t := 40) (lv := [(0, .ref 1), (1, .int p_what)]) (st := []) (M := M) rfl (by rw [c4]; rfl) ?_
    refine zF_go (n := 4) (ps := []) (s' := (50, [(0, .ref 1), (1, .int p_what)], [.int (M 3 0)], zh, M)) rfl trivial ?_
    cases h
    exact zF_ret rfl trivial
  rw [if_neg c4] at h
  by_cases c5 : p_what = 1
  · rw [if_pos c5] at h
    refine zF_sw (t := 51) (lv := [(0, .ref 1), (1, .int p_what)]) (st := []) (M := M) rfl (by rw [c5]; rfl) ?_
    refine zF_go (n := 4) (ps := []) (s' := (61, [(0, .ref 1), (1, .int p_what)], [.int (M 10 0)], zh, M)) rfl trivial ?_
    cases h
    exact zF_ret rfl trivial
  rw [if_neg c5] at h
  by_cases c6 : p_what = 2
  · rw [if_pos c6] at h
    refine zF_sw (t := 62) (lv := [(0, .ref 1), (1, .int p_what)]) (st := []) (M := M) rfl (by rw [c6]; rfl) ?_
    refine zF_go (n := 4) (ps := []) (s' := (72, [(0, .ref 1), (1, .int p_what)], [.int (M 18 0)], zh, M)) rfl trivial ?_
    cases h
    exact zF_ret rfl trivial
  rw [if_neg c6] at h
  by_cases c7 : p_what = 3
  · rw [if_pos c7] at h
    refine zF_sw (t := 73) (lv := [(0, .ref 1), (1, .int p_what)]) (st := []) (M := M) rfl (by rw [c7]; rfl) ?_
    refine zF_go (n := 3) (ps := []) (s' := (80, [(0, .ref 1), (1, .int p_what)], [.int (M 58 0)], zh, M)) rfl trivial ?_
    cases h
    exact zF_ret rfl trivial
  rw [if_neg c7] at h
  by_cases c8 : p_what = 4
  · rw [if_pos c8] at h
    refine zF_sw (t := 81) (lv := [(0, .ref 1), (1, .int p_what)]) (st := []) (M := M) rfl (by rw [c8]; rfl) ?_
    refine zF_go (n := 3) (ps := []) (s' := (88, [(0, .ref 1), (1, .int p_what)], [.int (M 2 3)], zh, M)) rfl trivial ?_
    cases h
    exact zF_ret rfl trivial
  rw [if_neg c8] at h
  by_cases c9 : p_what = 5
  · rw [if_pos c9] at h
    refine zF_sw (t := 89) (lv := [(0, .ref 1), (1, .int p_what)]) (st := []) (M := M) rfl (by rw [c9]; rfl) ?_
    refine zF_go (n := 3) (ps := []) (s' := (96, [(0, .ref 1), (1, .int p_what)], [.ref 3], zh, M)) rfl trivial ?_
    obtain ⟨x1, e10, h⟩ := zb_some h
    refine zF_call (y' := 19) (as := [.ref 3]) (u := (99, [(0, .ref 1), (1, .int p_what)], [], zh, M)) rfl ⟨rfl, rfl⟩ rfl (qG_rowCount_3_ok (S := S) (M := M) e10) ?_
    show zF S 124 (99, [(0, .ref 1), (1, .int p_what)], [.int x1], zh, M) _ _
    cases h
    exact zF_ret rfl trivial
  rw [if_neg c9] at h
  refine zF_sw (t := 100) (lv := [(0, .ref 1), (1, .int p_what)]) (st := []) (M := M) rfl (ztab_d (fun j hj => match j, hj with | 0, _ => Or.inr (lv_neT c4 (show (0 : Int32).toInt = (0 : Int) + ((0 : Nat) : Int) from rfl)) | 1, _ => Or.inr (lv_neT c5 (show (1 : Int32).toInt = (0 : Int) + ((1 : Nat) : Int) from rfl)) | 2, _ => Or.inr (lv_neT c6 (show (2 : Int32).toInt = (0 : Int) + ((2 : Nat) : Int) from rfl)) | 3, _ => Or.inr (lv_neT c7 (show (3 : Int32).toInt = (0 : Int) + ((3 : Nat) : Int) from rfl)) | 4, _ => Or.inr (lv_neT c8 (show (4 : Int32).toInt = (0 : Int) + ((4 : Nat) : Int) from rfl)) | 5, _ => Or.inr (lv_neT c9 (show (5 : Int32).toInt = (0 : Int) + ((5 : Nat) : Int) from rfl)) | j + 6, hj => absurd hj (Nat.not_lt.mpr (Nat.le_add_left 6 j)))) ?_
  refine zF_go (n := 3) (ps := []) (s' := (105, [(0, .ref 1), (1, .int p_what)], [.int 21, .int 10, .int p_what], zh, M)) rfl trivial ?_
  obtain ⟨x2, e11, h⟩ := zb_some h
  refine zF_call (y' := 125) (as := [.int p_what, .int 10, .int 21]) (u := (108, [(0, .ref 1), (1, .int p_what)], [], zh, M)) rfl ⟨rfl, rfl⟩ rfl (qS_isOut_ok (S := S) (M := M) e11) ?_
  show zF S 124 (108, [(0, .ref 1), (1, .int p_what)], [.int x2], zh, M) _ _
  refine zF_eq (t := 116) (u := (111, [(0, .ref 1), (1, .int p_what)], [], zh, M)) rfl (fun c12 => ?_) (fun c12 => ?_)
  · rw [if_pos c12] at h
    refine zF_go (n := 6) (ps := []) (s' := (127, [(0, .ref 1), (1, .int p_what)], [.int (p_what - 10), .ref 3], zh, M)) rfl trivial ?_
    obtain ⟨x3, e13, h⟩ := zb_some h
    refine zF_call (y' := 18) (as := [.ref 3, .int (p_what - 10)]) (u := (130, [(0, .ref 1), (1, .int p_what)], [], zh, M)) rfl ⟨rfl, rfl⟩ rfl (qG_priceOrNone_ok (S := S) (M := M) e13) ?_
    show zF S 124 (130, [(0, .ref 1), (1, .int p_what)], [.int x3], zh, M) _ _
    cases h
    exact zF_ret rfl trivial
  · rw [if_neg c12] at h
    refine zF_go (n := 2) (ps := []) (s' := (130, [(0, .ref 1), (1, .int p_what)], [.int (-2)], zh, M)) rfl trivial ?_
    cases h
    exact zF_ret rfl trivial
noncomputable def qM_told (M : zM) (p_what : Int32) : Option (Int32) :=
  zb (qM_in p_what.toInt64 10 21) fun x1 =>
  if x1 = 0 then
    (if p_what = 0 then
      (some (M 86 6))
    else if p_what = 1 then
      (some (M 86 14))
    else if p_what = 2 then
      (some (M 86 29))
    else if p_what = 3 then
      (some (M 86 16))
    else if p_what = 4 then
      (some (M 86 18))
    else if p_what = 5 then
      (zb (qM_rows M) fun x2 =>
      some x2)
    else 
      (some (-2)))
  else
    (zb (qM_isThing M ((p_what - 10) / 3)) fun x3 =>
    if x3 = 0 then
      (some (-6))
    else
      (zq (vp_in ((p_what - 10) / 3) 4) <| if ((p_what - 10) - (p_what - 10) / 3 * 3) < (M 92 ((p_what - 10) / 3).toNatClampNeg) then
        (zq (vp_in ((3 * ((p_what - 10) / 3)) + ((p_what - 10) - (p_what - 10) / 3 * 3)) 12) <| some (M 91 ((3 * ((p_what - 10) / 3)) + ((p_what - 10) - (p_what - 10) / 3 * 3)).toNatClampNeg))
      else
        (some (-6))))
set_option maxRecDepth 20000 in
set_option maxHeartbeats 4000000 in
theorem qM_told_ok {S : zSc} {M : zM} {p_what : Int32} {r : Int32} (h : qM_told M p_what = some r) : zF S 209 (0, [(0, .ref 86), (1, .int p_what)], [], zh, M) (some (.int r)) (M) := by
  unfold qM_told at h
  refine zF_go (n := 4) (ps := []) (s' := (8, [(0, .ref 86), (1, .int p_what)], [.long 21, .long 10, .long p_what.toInt64], zh, M)) rfl trivial ?_
  obtain ⟨x1, e4, h⟩ := zb_some h
  refine zF_call (y' := 134) (as := [.long p_what.toInt64, .long 10, .long 21]) (u := (11, [(0, .ref 86), (1, .int p_what)], [], zh, M)) rfl ⟨rfl, rfl⟩ rfl (qM_in_ok (S := S) (M := M) e4) ?_
  show zF S 209 (11, [(0, .ref 86), (1, .int p_what)], [.int x1], zh, M) _ _
  refine zF_eq (t := 62) (u := (14, [(0, .ref 86), (1, .int p_what)], [], zh, M)) rfl (fun c5 => ?_) (fun c5 => ?_)
  · rw [if_pos c5] at h
    refine zF_go (n := 1) (ps := []) (s' := (63, [(0, .ref 86), (1, .int p_what)], [.int p_what], zh, M)) rfl trivial ?_
    by_cases c6 : p_what = 0
    · rw [if_pos c6] at h
      refine zF_sw (t := 100) (lv := [(0, .ref 86), (1, .int p_what)]) (st := []) (M := M) rfl (by rw [c6]; rfl) ?_
      refine zF_go (n := 2) (ps := []) (s' := (104, [(0, .ref 86), (1, .int p_what)], [.int (M 86 6)], zh, M)) rfl trivial ?_
      cases h
      exact zF_ret rfl trivial
    rw [if_neg c6] at h
    by_cases c7 : p_what = 1
    · rw [if_pos c7] at h
      refine zF_sw (t := 105) (lv := [(0, .ref 86), (1, .int p_what)]) (st := []) (M := M) rfl (by rw [c7]; rfl) ?_
      refine zF_go (n := 2) (ps := []) (s' := (109, [(0, .ref 86), (1, .int p_what)], [.int (M 86 14)], zh, M)) rfl trivial ?_
      cases h
      exact zF_ret rfl trivial
    rw [if_neg c7] at h
    by_cases c8 : p_what = 2
    · rw [if_pos c8] at h
      refine zF_sw (t := 110) (lv := [(0, .ref 86), (1, .int p_what)]) (st := []) (M := M) rfl (by rw [c8]; rfl) ?_
      refine zF_go (n := 2) (ps := []) (s' := (114, [(0, .ref 86), (1, .int p_what)], [.int (M 86 29)], zh, M)) rfl trivial ?_
      cases h
      exact zF_ret rfl trivial
    rw [if_neg c8] at h
    by_cases c9 : p_what = 3
    · rw [if_pos c9] at h
      refine zF_sw (t := 115) (lv := [(0, .ref 86), (1, .int p_what)]) (st := []) (M := M) rfl (by rw [c9]; rfl) ?_
      refine zF_go (n := 2) (ps := []) (s' := (119, [(0, .ref 86), (1, .int p_what)], [.int (M 86 16)], zh, M)) rfl trivial ?_
      cases h
      exact zF_ret rfl trivial
    rw [if_neg c9] at h
    by_cases c10 : p_what = 4
    · rw [if_pos c10] at h
      refine zF_sw (t := 120) (lv := [(0, .ref 86), (1, .int p_what)]) (st := []) (M := M) rfl (by rw [c10]; rfl) ?_
      refine zF_go (n := 2) (ps := []) (s' := (124, [(0, .ref 86), (1, .int p_what)], [.int (M 86 18)], zh, M)) rfl trivial ?_
      cases h
      exact zF_ret rfl trivial
    rw [if_neg c10] at h
    by_cases c11 : p_what = 5
    · rw [if_pos c11] at h
      refine zF_sw (t := 125) (lv := [(0, .ref 86), (1, .int p_what)]) (st := []) (M := M) rfl (by rw [c11]; rfl) ?_
      refine zF_go (n := 1) (ps := []) (s' := (126, [(0, .ref 86), (1, .int p_what)], [.ref 86], zh, M)) rfl trivial ?_
      obtain ⟨x2, e12, h⟩ := zb_some h
      refine zF_call (y' := 175) (as := [.ref 86]) (u := (129, [(0, .ref 86), (1, .int p_what)], [], zh, M)) rfl ⟨rfl, rfl⟩ rfl (qM_rows_ok (S := S) (M := M) e12) ?_
      show zF S 209 (129, [(0, .ref 86), (1, .int p_what)], [.int x2], zh, M) _ _
      cases h
      exact zF_ret rfl trivial
    rw [if_neg c11] at h
    refine zF_sw (t := 130) (lv := [(0, .ref 86), (1, .int p_what)]) (st := []) (M := M) rfl (ztab_d (fun j hj => match j, hj with | 0, _ => Or.inr (lv_neT c6 (show (0 : Int32).toInt = (0 : Int) + ((0 : Nat) : Int) from rfl)) | 1, _ => Or.inr (lv_neT c7 (show (1 : Int32).toInt = (0 : Int) + ((1 : Nat) : Int) from rfl)) | 2, _ => Or.inr (lv_neT c8 (show (2 : Int32).toInt = (0 : Int) + ((2 : Nat) : Int) from rfl)) | 3, _ => Or.inr (lv_neT c9 (show (3 : Int32).toInt = (0 : Int) + ((3 : Nat) : Int) from rfl)) | 4, _ => Or.inr (lv_neT c10 (show (4 : Int32).toInt = (0 : Int) + ((4 : Nat) : Int) from rfl)) | 5, _ => Or.inr (lv_neT c11 (show (5 : Int32).toInt = (0 : Int) + ((5 : Nat) : Int) from rfl)) | j + 6, hj => absurd hj (Nat.not_lt.mpr (Nat.le_add_left 6 j)))) ?_
    refine zF_go (n := 1) (ps := []) (s' := (132, [(0, .ref 86), (1, .int p_what)], [.int (-2)], zh, M)) rfl trivial ?_
    cases h
    exact zF_ret rfl trivial
  · rw [if_neg c5] at h
    refine zF_go (n := 14) (ps := [¬ (3 : Int32) = 0, ¬ (3 : Int32) = 0]) (s' := (30, [(3, .int ((p_what - 10) - (p_what - 10) / 3 * 3)), (2, .int ((p_what - 10) / 3)), (0, .ref 86), (1, .int p_what)], [.int ((p_what - 10) / 3), .ref 86], zh, M)) rfl ⟨(by decide), (by decide), trivial⟩ ?_
    obtain ⟨x3, e13, h⟩ := zb_some h
    refine zF_call (y' := 137) (as := [.ref 86, .int ((p_what - 10) / 3)]) (u := (33, [(3, .int ((p_what - 10) - (p_what - 10) / 3 * 3)), (2, .int ((p_what - 10) / 3)), (0, .ref 86), (1, .int p_what)], [], zh, M)) rfl ⟨rfl, rfl⟩ rfl (qM_isThing_ok (S := S) (M := M) e13) ?_
    show zF S 209 (33, [(3, .int ((p_what - 10) - (p_what - 10) / 3 * 3)), (2, .int ((p_what - 10) / 3)), (0, .ref 86), (1, .int p_what)], [.int x3], zh, M) _ _
    refine zF_eq (t := 59) (u := (36, [(3, .int ((p_what - 10) - (p_what - 10) / 3 * 3)), (2, .int ((p_what - 10) / 3)), (0, .ref 86), (1, .int p_what)], [], zh, M)) rfl (fun c14 => ?_) (fun c14 => ?_)
    · rw [if_pos c14] at h
      refine zF_go (n := 1) (ps := []) (s' := (61, [], [.int (-6)], zh, M)) rfl trivial ?_
      cases h
      exact zF_ret rfl trivial
    · rw [if_neg c14] at h
      obtain ⟨g15, h⟩ := zq_some h
      refine zF_go (n := 5) (ps := [vp_in ((p_what - 10) / 3) 4]) (s' := (43, [(3, .int ((p_what - 10) - (p_what - 10) / 3 * 3)), (2, .int ((p_what - 10) / 3)), (0, .ref 86), (1, .int p_what)], [.int (M 92 ((p_what - 10) / 3).toNatClampNeg), .int ((p_what - 10) - (p_what - 10) / 3 * 3)], zh, M)) rfl ⟨g15, trivial⟩ ?_
      refine zF_ge (t := 59) (u := (46, [(3, .int ((p_what - 10) - (p_what - 10) / 3 * 3)), (2, .int ((p_what - 10) / 3)), (0, .ref 86), (1, .int p_what)], [], zh, M)) rfl (fun c16 => ?_) (fun c16 => ?_)
      · rw [if_neg c16] at h
        refine zF_go (n := 1) (ps := []) (s' := (61, [], [.int (-6)], zh, M)) rfl trivial ?_
        cases h
        exact zF_ret rfl trivial
      · rw [if_pos c16] at h
        obtain ⟨g17, h⟩ := zq_some h
        refine zF_go (n := 9) (ps := [vp_in ((3 * ((p_what - 10) / 3)) + ((p_what - 10) - (p_what - 10) / 3 * 3)) 12]) (s' := (61, [(3, .int ((p_what - 10) - (p_what - 10) / 3 * 3)), (2, .int ((p_what - 10) / 3)), (0, .ref 86), (1, .int p_what)], [.int (M 91 ((3 * ((p_what - 10) / 3)) + ((p_what - 10) - (p_what - 10) / 3 * 3)).toNatClampNeg)], zh, M)) rfl ⟨g17, trivial⟩ ?_
        cases h
        exact zF_ret rfl trivial
end ZT
