section ZCalls3
variable {M : zM} {n m k : Nat} {law : Int32} {A : zM} {q s t : Nat}
theorem mO_eq {M' : zM} (h : ∀ c, 86 ≤ c → M' c = M c) (hm : mO M n m k law A) : mO M' n m k law A := ⟨mT_eq (by rw [h 86 (by omega)]) (by rw [h 86 (by omega)]) (fun c a b => h c (by omega)) hm.t, (by rw [h 86 (by omega)]; exact hm.l), (by rw [h 86 (by omega)]; exact hm.k), (by rw [h 105 (by omega)]; exact hm.c13)⟩
theorem sIn_t {h j : Nat} (hh : h < 2147483648) (hj : j < h) : sIn 0 (nI h - 1) (nI j) := by
  obtain ⟨h, rfl⟩ : ∃ h', h = h' + 1 := ⟨h - 1, by omega⟩
  rw [nI_pred]
  exact ⟨nI_pos (by omega), nI_nlt (by omega) (by omega)⟩
theorem tt_w {r j : Nat} {x : Int32} (hI : tT M) {L : Nat} (hr : (r, L) ∈ zTc) (hj : j < L) (hu : ∀ p, p ∈ zTc → p.1 = r → p.2 = L) : tT (zw M r j x) := by
  intro p hp
  by_cases c : p.1 = r
  · rw [c, zw_at, hu p hp c]
    have := hI p hp
    rw [c, hu p hp c] at this
    exact tz_upd this hj
  · rw [zw_ne c]
    exact hI p hp
theorem tt_n {r j : Nat} {x : Int32} (hI : tT M) (hr : ∀ p, p ∈ zTc → p.1 ≠ r) : tT (zw M r j x) := by
  intro p hp
  rw [zw_ne (hr p hp)]
  exact hI p hp
theorem z_w0 (hI : zIn M n m k law A) {j : Nat} {x : Int32} (w : wF n m k law (zw A 0 j x)) (hj : j < 4) : zIn (zw (zw (zw M 78 6 0) 4 j x) 92 j x) n m k law (zw A 0 j x) := by
  refine zIn_up hI w ?_ ?_ ?_ (fun c hc => ?_) ?_ (Or.inl ?_)
  · exact tO_eq (fun c a b => zw_ne (by omega)) (tO_w0 (tO_eq (fun c a b => zw_ne (by omega)) hI.c) j x)
  · exact mO_w0 (mO_eq (fun c hc => (zw_ne (by omega)).trans (zw_ne (by omega))) hI.m) j x
  · intro c L hc _
    exact (tt_n (tt_w (tt_n hI.t (by decide)) (L := 4) (by decide) hj (by decide)) (by decide)) (c, L) hc
  · rw [zw_ne (by omega), zw_ne (by omega), zw_ne (by omega)]
  · rw [zw_ne (by decide), zw_ne (by decide), zw_ne (by decide)]
  · rw [zw_ne (by decide), zw_ne (by decide)]
    exact zw_same _ _ _ _
theorem z_w1 (hI : zIn M n m k law A) {j : Nat} {x : Int32} (w : wF n m k law (zw A 1 j x)) (hj : j < 12) : zIn (zw (zw (zw M 78 6 0) 5 j x) 91 j x) n m k law (zw A 1 j x) := by
  refine zIn_up hI w ?_ ?_ ?_ (fun c hc => ?_) ?_ (Or.inl ?_)
  · exact tO_eq (fun c a b => zw_ne (by omega)) (tO_w1 (tO_eq (fun c a b => zw_ne (by omega)) hI.c) j x)
  · exact mO_w1 (mO_eq (fun c hc => (zw_ne (by omega)).trans (zw_ne (by omega))) hI.m) j x
  · intro c L hc _
    exact (tt_n (tt_w (tt_n hI.t (by decide)) (L := 12) (by decide) hj (by decide)) (by decide)) (c, L) hc
  · rw [zw_ne (by omega), zw_ne (by omega), zw_ne (by omega)]
  · rw [zw_ne (by decide), zw_ne (by decide), zw_ne (by decide)]
  · rw [zw_ne (by decide), zw_ne (by decide)]
    exact zw_same _ _ _ _
theorem z_w2 (hI : zIn M n m k law A) {j : Nat} {x : Int32} (w : wF n m k law (zw A 2 j x)) (hj : j < 8) : zIn (zw (zw (zw M 78 6 0) 6 j x) 87 j x) n m k law (zw A 2 j x) := by
  refine zIn_up hI w ?_ ?_ ?_ (fun c hc => ?_) ?_ (Or.inl ?_)
  · exact tO_eq (fun c a b => zw_ne (by omega)) (tO_w2 (tO_eq (fun c a b => zw_ne (by omega)) hI.c) j x)
  · exact mO_w2 (mO_eq (fun c hc => (zw_ne (by omega)).trans (zw_ne (by omega))) hI.m) j x
  · intro c L hc _
    exact (tt_n (tt_w (tt_n hI.t (by decide)) (L := 8) (by decide) hj (by decide)) (by decide)) (c, L) hc
  · rw [zw_ne (by omega), zw_ne (by omega), zw_ne (by omega)]
  · rw [zw_ne (by decide), zw_ne (by decide), zw_ne (by decide)]
  · rw [zw_ne (by decide), zw_ne (by decide)]
    exact zw_same _ _ _ _
theorem z_w3 (hI : zIn M n m k law A) {j : Nat} {x : Int32} (w : wF n m k law (zw A 3 j x)) (hj : j < 8) : zIn (zw (zw (zw M 78 6 0) 7 j x) 88 j x) n m k law (zw A 3 j x) := by
  refine zIn_up hI w ?_ ?_ ?_ (fun c hc => ?_) ?_ (Or.inl ?_)
  · exact tO_eq (fun c a b => zw_ne (by omega)) (tO_w3 (tO_eq (fun c a b => zw_ne (by omega)) hI.c) j x)
  · exact mO_w3 (mO_eq (fun c hc => (zw_ne (by omega)).trans (zw_ne (by omega))) hI.m) j x
  · intro c L hc _
    exact (tt_n (tt_w (tt_n hI.t (by decide)) (L := 8) (by decide) hj (by decide)) (by decide)) (c, L) hc
  · rw [zw_ne (by omega), zw_ne (by omega), zw_ne (by omega)]
  · rw [zw_ne (by decide), zw_ne (by decide), zw_ne (by decide)]
  · rw [zw_ne (by decide), zw_ne (by decide)]
    exact zw_same _ _ _ _
theorem z_w4 (hI : zIn M n m k law A) {j : Nat} {x : Int32} (w : wF n m k law (zw A 4 j x)) (hj : j < 8) : zIn (zw (zw (zw M 78 6 0) 8 j x) 89 j x) n m k law (zw A 4 j x) := by
  refine zIn_up hI w ?_ ?_ ?_ (fun c hc => ?_) ?_ (Or.inl ?_)
  · exact tO_eq (fun c a b => zw_ne (by omega)) (tO_w4 (tO_eq (fun c a b => zw_ne (by omega)) hI.c) j x)
  · exact mO_w4 (mO_eq (fun c hc => (zw_ne (by omega)).trans (zw_ne (by omega))) hI.m) j x
  · intro c L hc _
    exact (tt_n (tt_w (tt_n hI.t (by decide)) (L := 8) (by decide) hj (by decide)) (by decide)) (c, L) hc
  · rw [zw_ne (by omega), zw_ne (by omega), zw_ne (by omega)]
  · rw [zw_ne (by decide), zw_ne (by decide), zw_ne (by decide)]
  · rw [zw_ne (by decide), zw_ne (by decide)]
    exact zw_same _ _ _ _
theorem z_w5 (hI : zIn M n m k law A) {j : Nat} {x : Int32} (w : wF n m k law (zw A 5 j x)) (hj : j < 2) : zIn (zw (zw (zw M 78 6 0) 9 j x) 90 j x) n m k law (zw A 5 j x) := by
  refine zIn_up hI w ?_ ?_ ?_ (fun c hc => ?_) ?_ (Or.inl ?_)
  · exact tO_eq (fun c a b => zw_ne (by omega)) (tO_w5 (tO_eq (fun c a b => zw_ne (by omega)) hI.c) j x)
  · exact mO_w5 (mO_eq (fun c hc => (zw_ne (by omega)).trans (zw_ne (by omega))) hI.m) j x
  · intro c L hc _
    exact (tt_n (tt_w (tt_n hI.t (by decide)) (L := 2) (by decide) hj (by decide)) (by decide)) (c, L) hc
  · rw [zw_ne (by omega), zw_ne (by omega), zw_ne (by omega)]
  · rw [zw_ne (by decide), zw_ne (by decide), zw_ne (by decide)]
  · rw [zw_ne (by decide), zw_ne (by decide)]
    exact zw_same _ _ _ _
theorem z_w6 (hI : zIn M n m k law A) {j : Nat} {x : Int32} (w : wF n m k law (zw A 6 j x)) (hj : j < 5) : zIn (zw (zw (zw M 78 6 0) 11 j x) 93 j x) n m k law (zw A 6 j x) := by
  refine zIn_up hI w ?_ ?_ ?_ (fun c hc => ?_) ?_ (Or.inl ?_)
  · exact tO_eq (fun c a b => zw_ne (by omega)) (tO_w6 (tO_eq (fun c a b => zw_ne (by omega)) hI.c) j x)
  · exact mO_w6 (mO_eq (fun c hc => (zw_ne (by omega)).trans (zw_ne (by omega))) hI.m) j x
  · intro c L hc _
    exact (tt_n (tt_w (tt_n hI.t (by decide)) (L := 5) (by decide) hj (by decide)) (by decide)) (c, L) hc
  · rw [zw_ne (by omega), zw_ne (by omega), zw_ne (by omega)]
  · rw [zw_ne (by decide), zw_ne (by decide), zw_ne (by decide)]
  · rw [zw_ne (by decide), zw_ne (by decide)]
    exact zw_same _ _ _ _
theorem z_w7 (hI : zIn M n m k law A) {j : Nat} {x : Int32} (w : wF n m k law (zw A 7 j x)) (hj : j < 10) : zIn (zw (zw (zw M 78 6 0) 12 j x) 94 j x) n m k law (zw A 7 j x) := by
  refine zIn_up hI w ?_ ?_ ?_ (fun c hc => ?_) ?_ (Or.inl ?_)
  · exact tO_eq (fun c a b => zw_ne (by omega)) (tO_w7 (tO_eq (fun c a b => zw_ne (by omega)) hI.c) j x)
  · exact mO_w7 (mO_eq (fun c hc => (zw_ne (by omega)).trans (zw_ne (by omega))) hI.m) j x
  · intro c L hc _
    exact (tt_n (tt_w (tt_n hI.t (by decide)) (L := 10) (by decide) hj (by decide)) (by decide)) (c, L) hc
  · rw [zw_ne (by omega), zw_ne (by omega), zw_ne (by omega)]
  · rw [zw_ne (by decide), zw_ne (by decide), zw_ne (by decide)]
  · rw [zw_ne (by decide), zw_ne (by decide)]
    exact zw_same _ _ _ _
theorem z_w8 (hI : zIn M n m k law A) {j : Nat} {x : Int32} (w : wF n m k law (zw A 8 j x)) (hj : j < 5) : zIn (zw (zw (zw M 78 6 0) 13 j x) 95 j x) n m k law (zw A 8 j x) := by
  refine zIn_up hI w ?_ ?_ ?_ (fun c hc => ?_) ?_ (Or.inl ?_)
  · exact tO_eq (fun c a b => zw_ne (by omega)) (tO_w8 (tO_eq (fun c a b => zw_ne (by omega)) hI.c) j x)
  · exact mO_w8 (mO_eq (fun c hc => (zw_ne (by omega)).trans (zw_ne (by omega))) hI.m) j x
  · intro c L hc _
    exact (tt_n (tt_w (tt_n hI.t (by decide)) (L := 5) (by decide) hj (by decide)) (by decide)) (c, L) hc
  · rw [zw_ne (by omega), zw_ne (by omega), zw_ne (by omega)]
  · rw [zw_ne (by decide), zw_ne (by decide), zw_ne (by decide)]
  · rw [zw_ne (by decide), zw_ne (by decide)]
    exact zw_same _ _ _ _
theorem z_w9 (hI : zIn M n m k law A) {j : Nat} {x : Int32} (w : wF n m k law (zw A 9 j x)) (hj : j < 5) : zIn (zw (zw (zw M 78 6 0) 14 j x) 96 j x) n m k law (zw A 9 j x) := by
  refine zIn_up hI w ?_ ?_ ?_ (fun c hc => ?_) ?_ (Or.inl ?_)
  · exact tO_eq (fun c a b => zw_ne (by omega)) (tO_w9 (tO_eq (fun c a b => zw_ne (by omega)) hI.c) j x)
  · exact mO_w9 (mO_eq (fun c hc => (zw_ne (by omega)).trans (zw_ne (by omega))) hI.m) j x
  · intro c L hc _
    exact (tt_n (tt_w (tt_n hI.t (by decide)) (L := 5) (by decide) hj (by decide)) (by decide)) (c, L) hc
  · rw [zw_ne (by omega), zw_ne (by omega), zw_ne (by omega)]
  · rw [zw_ne (by decide), zw_ne (by decide), zw_ne (by decide)]
  · rw [zw_ne (by decide), zw_ne (by decide)]
    exact zw_same _ _ _ _
theorem x_6 {j : Nat} (hj : j < 8) (x : Int32) : qS_exchange_1_6 M (nI j) x = some (M 6 j, zw (zw M 78 6 0) 6 j x) := by
  unfold qS_exchange_1_6
  rw [zb_ok c_out, if_pos (show sIn 0 (Int32.ofNat 8 - 1) (nI j) from sIn_t (h := 8) (by omega) hj), if_pos rfl]
  show zq _ (zq _ _) = _
  simp (disch := omega) only [zn_cl, zq_in]
  rfl
theorem x_7 {j : Nat} (hj : j < 8) (x : Int32) : qS_exchange_1_7 M (nI j) x = some (M 7 j, zw (zw M 78 6 0) 7 j x) := by
  unfold qS_exchange_1_7
  rw [zb_ok c_out, if_pos (show sIn 0 (Int32.ofNat 8 - 1) (nI j) from sIn_t (h := 8) (by omega) hj), if_pos rfl]
  show zq _ (zq _ _) = _
  simp (disch := omega) only [zn_cl, zq_in]
  rfl
theorem x_8 {j : Nat} (hj : j < 8) (x : Int32) : qS_exchange_1_8 M (nI j) x = some (M 8 j, zw (zw M 78 6 0) 8 j x) := by
  unfold qS_exchange_1_8
  rw [zb_ok c_out, if_pos (show sIn 0 (Int32.ofNat 8 - 1) (nI j) from sIn_t (h := 8) (by omega) hj), if_pos rfl]
  show zq _ (zq _ _) = _
  simp (disch := omega) only [zn_cl, zq_in]
  rfl
theorem x_9 {j : Nat} (hj : j < 2) (x : Int32) : qS_exchange_1_9 M (nI j) x = some (M 9 j, zw (zw M 78 6 0) 9 j x) := by
  unfold qS_exchange_1_9
  rw [zb_ok c_out, if_pos (show sIn 0 (Int32.ofNat 2 - 1) (nI j) from sIn_t (h := 2) (by omega) hj), if_pos rfl]
  show zq _ (zq _ _) = _
  simp (disch := omega) only [zn_cl, zq_in]
  rfl
theorem x_11 {j : Nat} (hj : j < 5) (x : Int32) : qS_exchange_1_11 M (nI j) x = some (M 11 j, zw (zw M 78 6 0) 11 j x) := by
  unfold qS_exchange_1_11
  rw [zb_ok c_out, if_pos (show sIn 0 (Int32.ofNat 5 - 1) (nI j) from sIn_t (h := 5) (by omega) hj), if_pos rfl]
  show zq _ (zq _ _) = _
  simp (disch := omega) only [zn_cl, zq_in]
  rfl
theorem x_12 {j : Nat} (hj : j < 10) (x : Int32) : qS_exchange_1_12 M (nI j) x = some (M 12 j, zw (zw M 78 6 0) 12 j x) := by
  unfold qS_exchange_1_12
  rw [zb_ok c_out, if_pos (show sIn 0 (Int32.ofNat 10 - 1) (nI j) from sIn_t (h := 10) (by omega) hj), if_pos rfl]
  show zq _ (zq _ _) = _
  simp (disch := omega) only [zn_cl, zq_in]
  rfl
theorem x_13 {j : Nat} (hj : j < 5) (x : Int32) : qS_exchange_1_13 M (nI j) x = some (M 13 j, zw (zw M 78 6 0) 13 j x) := by
  unfold qS_exchange_1_13
  rw [zb_ok c_out, if_pos (show sIn 0 (Int32.ofNat 5 - 1) (nI j) from sIn_t (h := 5) (by omega) hj), if_pos rfl]
  show zq _ (zq _ _) = _
  simp (disch := omega) only [zn_cl, zq_in]
  rfl
theorem x_14 {j : Nat} (hj : j < 5) (x : Int32) : qS_exchange_1_14 M (nI j) x = some (M 14 j, zw (zw M 78 6 0) 14 j x) := by
  unfold qS_exchange_1_14
  rw [zb_ok c_out, if_pos (show sIn 0 (Int32.ofNat 5 - 1) (nI j) from sIn_t (h := 5) (by omega) hj), if_pos rfl]
  show zq _ (zq _ _) = _
  simp (disch := omega) only [zn_cl, zq_in]
  rfl
theorem k_show (hI : zI M) (u v : Int32) : ∃ x M1 M2, qS_show M u v = some (x, M1) ∧ qM_show M1 u v = some (x, M2) ∧ zI M2 := by
  obtain ⟨n, m, k, law, A, hI⟩ := hI
  unfold qS_show qM_show
  rw [zb_ok c_noShop]
  by_cases c : sIn 0 1 u
  · rw [if_pos c, if_pos rfl, zb_ok c_out]
    by_cases c2 : sIn 0 15 v
    · obtain ⟨s, hs, rfl⟩ := sIn_n (h := 1) (by omega) c
      rw [if_pos c2, if_pos rfl, zb2_ok (x_9 (by omega) v)]
      refine ⟨_, _, _, rfl, ?_, (z_w5 (j := s) hI (wF_w5 hI.w c2) (by omega)).z⟩
      rw [zb_ok m_isShop, if_pos c, if_neg (by decide), zb_ok (m_in (lo := 0) (hi := 15) (L := 0) (H := 15) rfl rfl), if_pos c2, if_neg (by decide)]
      simp (disch := omega) only [zn_cl, zq_in]
      congr 2
      show (zw (zw M 78 6 0) 9 s v) 90 s = M 9 s
      rw [zw_ne (by decide), zw_ne (by decide)]
      exact congrFun (hI.m.t.2.2.2.2.2.2.2.1.trans hI.c.c5.symm) s
    · rw [if_neg c2, if_neg (by decide)]
      refine ⟨_, _, _, rfl, ?_, hI.z⟩
      rw [zb_ok m_isShop, if_pos c, if_neg (by decide), zb_ok (m_in (lo := 0) (hi := 15) (L := 0) (H := 15) rfl rfl), if_neg c2, if_pos rfl]
  · rw [if_neg c, if_neg (by decide)]
    refine ⟨_, _, _, rfl, ?_, hI.z⟩
    rw [zb_ok m_isShop, if_neg c, if_pos rfl]
theorem k_law (hI : zI M) (v : Int32) : ∃ x M1 M2, qS_law M v = some (x, M1) ∧ qM_law M1 v = some (x, M2) ∧ zI M2 := by
  obtain ⟨n, m, k, law, A, hI⟩ := hI
  unfold qS_law qM_law
  rw [zb_ok c_out]
  by_cases c : sIn 0 1 v
  · rw [if_pos c, if_pos rfl]
    have hv : v = 0 ∨ v = 1 := by
      obtain ⟨s, hs, rfl⟩ := sIn_n (h := 1) (by omega) c
      rcases (show s = 0 ∨ s = 1 by omega) with rfl | rfl
      · exact Or.inl rfl
      · exact Or.inr rfl
    have e : (zw M 2 3 v) 86 18 = M 2 3 := by
      rw [zw_ne (by decide)]
      exact hI.m.l.trans hI.c.l.symm
    refine ⟨_, _, zw (zw M 2 3 v) 86 18 v, rfl, ?_, (zIn_up (k' := k) hI (wF_l hI.w hv) (tO_eq (fun c a b => zw_ne (by omega)) (tO_wl hI.c)) (mO_wl (mO_eq (fun c hc => zw_ne (by omega)) hI.m) v) ?_ (fun c hc => ?_) ?_ ?_).z⟩
    · rw [zb_ok (m_in (lo := 0) (hi := 1) (L := 0) (H := 1) rfl rfl), if_pos c, if_neg (by decide), e]
    · intro c L hc _
      exact (tt_n (tt_n hI.t (by decide)) (by decide)) (c, L) hc
    · rw [zw_ne (by omega), zw_ne (by omega)]
    · rw [zw_other (by decide), zw_ne (by decide)]
    · rw [zw_ne (by decide), zw_ne (by decide)]
      exact hI.d
  · rw [if_neg c, if_neg (by decide)]
    refine ⟨_, _, _, rfl, ?_, hI.z⟩
    rw [zb_ok (m_in (lo := 0) (hi := 1) (L := 0) (H := 1) rfl rfl), if_neg c, if_pos rfl]
theorem k_burn (hI : zI M) : ∃ x M1 M2, qS_burn M = some (x, M1) ∧ qM_burn M1 = some (x, M2) ∧ zI M2 := by
  obtain ⟨n, m, k, law, A, hI⟩ := hI
  have e : (zw M 18 0 0) 86 29 = M 18 0 := by
    rw [zw_ne (by decide)]
    exact hI.m.k.trans hI.c.k.symm
  refine ⟨_, _, zw (zw M 18 0 0) 86 29 0, rfl, ?_, (zIn_up (k' := 0) (law' := law) hI (wF_k hI.w (by omega)) (tO_eq (fun c a b => zw_ne (by omega)) (tO_wk hI.c rfl)) (mO_wk (mO_eq (fun c hc => zw_ne (by omega)) hI.m) rfl) ?_ (fun c hc => ?_) ?_ ?_).z⟩
  · unfold qM_burn
    rw [e]
  · intro c L hc _
    exact (tt_n (tt_n hI.t (by decide)) (by decide)) (c, L) hc
  · rw [zw_ne (by omega), zw_ne (by omega)]
  · rw [zw_other (by decide), zw_ne (by decide)]
  · rw [zw_ne (by decide), zw_ne (by decide)]
    exact hI.d
theorem k_slip (hI : zI M) (v : Int32) : ∃ x M1 M2, qS_slip M v = some (x, M1) ∧ qM_slip M1 v = some (x, M2) ∧ zI M2 := by
  obtain ⟨n, m, k, law, A, hI⟩ := hI
  have hk := hI.w.k30
  have ck : M 18 0 = nI k := hI.c.k
  have mk := hI.m.k
  unfold qS_slip qM_slip
  rw [zb_ok c_out]
  by_cases c : sIn 0 15 v
  · rw [if_pos c, if_pos rfl, ck]
    by_cases c2 : k < 30
    · rw [if_pos (show nI k < 30 from nI_lt (b := 30) c2 (by omega))]
      unfold qT_put
      simp (disch := omega) only [ck, zn_cl, zq_in, zb2_s, nI_1, zw_same]
      have e : (zw (zw M 19 k v) 18 0 (nI (k + 1))) 86 29 = nI k := by
        rw [zw_ne (by decide), zw_ne (by decide)]
        exact mk
      refine ⟨_, _, zw (zw (zw (zw M 19 k v) 18 0 (nI (k + 1))) 105 k v) 86 29 (nI (k + 1)), rfl, ?_, (zIn_up (k' := k + 1) (law' := law) (A' := zw A 13 k v) hI (wF_k (wF_w13 hI.w c) (by omega)) (tO_eq (fun c a b => (zw_ne (by omega)).trans (zw_ne (by omega))) (tO_wk (tO_w13 hI.c k v) rfl)) (mO_wk (mO_w13 (mO_eq (fun c hc => (zw_ne (by omega)).trans (zw_ne (by omega))) hI.m) k v) rfl) ?_ (fun c hc => ?_) ?_ ?_).z⟩
      · rw [zb_ok (m_in (lo := 0) (hi := 15) (L := 0) (H := 15) rfl rfl), if_pos c, if_neg (by decide)]
        rw [e, if_neg (show ¬ nI k = 30 from fun h => absurd ((nI_eq (b := 30) (by omega) (by omega)).mp h) (by omega))]
        simp (disch := omega) only [zn_cl, zq_in, nI_1, zw_same]
      · intro c L hc _
        exact (tt_n (tt_n (tt_n (tt_w hI.t (L := 30) (by decide) c2 (by decide)) (by decide)) (by decide)) (by decide)) (c, L) hc
      · rw [zw_ne (by omega), zw_ne (by omega), zw_ne (by omega), zw_ne (by omega)]
      · rw [zw_other (by decide), zw_ne (by decide), zw_ne (by decide), zw_ne (by decide)]
      · rw [zw_ne (by decide), zw_ne (by decide), zw_ne (by decide), zw_ne (by decide)]
        rcases hI.d with d | ⟨d1, d2⟩
        · exact Or.inl d
        · exact Or.inr ⟨d1, d2⟩
    · have hk30 : k = 30 := by omega
      rw [if_neg (show ¬ nI k < 30 from nI_nlt (b := 30) (by omega) (by omega))]
      refine ⟨_, _, _, rfl, ?_, hI.z⟩
      rw [zb_ok (m_in (lo := 0) (hi := 15) (L := 0) (H := 15) rfl rfl), if_pos c, if_neg (by decide), mk, hk30, if_pos (show nI 30 = 30 from rfl)]
  · rw [if_neg c, if_neg (by decide)]
    refine ⟨_, _, _, rfl, ?_, hI.z⟩
    rw [zb_ok (m_in (lo := 0) (hi := 15) (L := 0) (H := 15) rfl rfl), if_neg c, if_pos rfl]
end ZCalls3
