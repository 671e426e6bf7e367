section ZImage2
variable {M M1 Mc : zM} {n m k b i o : Nat} {law : Int32} {A : zM}
theorem kO_fr {M' : zM} (h : ∀ j, b ≤ j → j < b + 161 → M' 106 j = M 106 j) (hk : kO M b n m k law A) : kO M' b n m k law A := by
  obtain ⟨a1, a2, a3, a4, a5, a6, a7, a8, a9, b1, b2⟩ := hk
  refine ⟨?_, ?_, ?_, ?_, fun j hj => ?_, fun j hj => ?_, fun j hj => ?_, fun j hj => ?_, fun j hj => ?_, fun j hj => ?_, fun j hj => ?_⟩
  · rw [h _ (by omega) (by omega)]; exact a1
  · rw [h _ (by omega) (by omega)]; exact a2
  · rw [h _ (by omega) (by omega)]; exact a3
  · rw [h _ (by omega) (by omega)]; exact a4
  · rw [h _ (by omega) (by omega), h _ (by omega) (by omega), h _ (by omega) (by omega)]; exact a5 j hj
  · rw [h _ (by omega) (by omega)]; exact a6 j hj
  · rw [h _ (by omega) (by omega)]; exact a7 j hj
  · rw [h _ (by omega) (by omega)]; exact a8 j hj
  · rw [h _ (by omega) (by omega), h _ (by omega) (by omega), h _ (by omega) (by omega), h _ (by omega) (by omega), h _ (by omega) (by omega)]; exact a9 j hj
  · rw [h _ (by omega) (by omega), h _ (by omega) (by omega), h _ (by omega) (by omega)]; exact b1 j hj
  · rw [h _ (by omega) (by omega)]; exact b2 j hj
theorem iM_fr {M' : zM} (h57 : M' 57 i = M 57 i) (h107 : M' 107 i = M 107 i) (h106 : ∀ j, 200 * i ≤ j → j < 200 * i + 161 → M' 106 j = M 106 j) (h : ∀ c, o ≤ c → c ≤ o + 17 → M' c = M c) (hI : iM M i o) : iM M' i o := by
  rcases hI with ⟨h1, h2⟩ | ⟨h1, h2, n, m, k, law, A, h3, h4, h5⟩
  · exact Or.inl ⟨h57.trans h1, h107.trans h2⟩
  · exact Or.inr ⟨h57.trans h1, h107.trans h2, n, m, k, law, A, h3, tO_eq h h4, kO_fr h106 h5⟩
/-- the image is kept -/
theorem img_fin (hI : zIn M n m k law A) (ho : (i = 0 ∧ o = 21) ∨ (i = 1 ∧ o = 39)) (f1 : ∀ c, ¬ (o ≤ c ∧ c ≤ o + 17) → Mc c = M c) (f2 : tO Mc o n m k law A) (f3 : ∀ c L, (c, L) ∈ zTc → o ≤ c → c ≤ o + 17 → tz (Mc c) L) : ∃ M2, qM_image (zw Mc 57 i 1) (nI i) = some (1, M2) ∧ zIn M2 n m k law A := by
  have hi2 : i < 2 := by omega
  have hin : qM_in (nI i).toInt64 0 1 = _ := m_in (v := nI i) (lo := 0) (hi := 1) (L := 0) (H := 1) rfl rfl
  have e200 : 200 * nI i = nI (200 * i) := pk_mul 200 i
  obtain ⟨N0, d0⟩ : ∃ N, N = zw (zw (zw Mc 57 i 1) 86 32 (nI (200 * i))) 86 33 1 := ⟨_, rfl⟩
  have g0 : ∀ c, c ≠ 57 → c ≠ 86 → N0 c = Mc c := fun c a b => by rw [d0, zw_ne b, zw_ne b, zw_ne a]
  have g86 : ∀ j, j ≠ 32 → j ≠ 33 → N0 86 j = M 86 j := fun j a b => by rw [d0, zw_other b, zw_other a, zw_ne (by decide), f1 86 (by omega)]
  have hm0 : mO N0 n m k law A := ⟨mT_eq (g86 6 (by decide) (by decide)) (g86 14 (by decide) (by decide)) (fun c a b => (g0 c (by omega) (by omega)).trans (f1 c (by omega))) hI.m.t, (g86 18 (by decide) (by decide)).trans hI.m.l, (g86 29 (by decide) (by decide)).trans hI.m.k, ((g0 105 (by decide) (by decide)).trans (f1 105 (by omega))).trans hI.m.c13⟩
  obtain ⟨Mp, p1, p2, p3⟩ := w_all (b := 200 * i) (by rw [d0, zw_same]) (by rw [d0, zw_other (by decide), zw_same]) (by omega) hm0
  obtain ⟨M2, dM⟩ : ∃ M2, M2 = zw Mp 107 i 1 := ⟨_, rfl⟩
  have c2 : ∀ c, c ≠ 57 → c ≠ 86 → c ≠ 106 → c ≠ 107 → M2 c = Mc c := fun c a b d e => by rw [dM, zw_ne e, p2.2.1 c b d]; exact g0 c a b
  have cM : ∀ c, c ≠ 57 → c ≠ 86 → c ≠ 106 → c ≠ 107 → ¬ (o ≤ c ∧ c ≤ o + 17) → M2 c = M c := fun c a b d e f => (c2 c a b d e).trans (f1 c f)
  have n86 : ∀ j, j ≠ 32 → j ≠ 33 → M2 86 j = M 86 j := fun j a b => by rw [dM, zw_ne (by decide), p2.2.2.1 j a]; exact g86 j a b
  have n57 : M2 57 = upd (M 57) i 1 := by rw [dM, zw_ne (by decide), p2.2.1 57 (by decide) (by decide), d0, zw_ne (by decide), zw_ne (by decide), zw_at, f1 57 (by omega)]
  have n107 : M2 107 = upd (M 107) i 1 := by rw [dM, zw_at, p2.2.1 107 (by decide) (by decide), g0 107 (by decide) (by decide), f1 107 (by omega)]
  have n106 : ∀ j, ¬ (200 * i ≤ j ∧ j < 200 * i + 161) → M2 106 j = M 106 j := fun j hj => by rw [dM, zw_ne (by decide), p2.2.2.2 j (by omega), g0 106 (by decide) (by decide), f1 106 (by omega)]
  have hk : kO M2 (200 * i) n m k law A := kO_eq (by rw [dM, zw_ne (by decide)]) p3
  have hself : iM M2 i o := Or.inr ⟨by rw [n57, pk_us], by rw [n107, pk_us], n, m, k, law, A, hI.w, tO_eq (fun c a b => c2 c (by omega) (by omega) (by omega) (by omega)) f2, hk⟩
  refine ⟨M2, ?_, ?_⟩
  · unfold qM_image
    rw [zb_ok hin, if_pos (show sIn 0 1 (nI i) from sIn_t (h := 2) (by omega) hi2), if_neg z10, e200, ← d0, zb_ok p1]
    simp (disch := omega) only [zn_cl, zq_in]
    rw [dM]
  · refine ⟨hI.w, tO_eq (fun c a b => cM c (by omega) (by omega) (by omega) (by omega) (by omega)) hI.c, ⟨mT_eq (n86 6 (by decide) (by decide)) (n86 14 (by decide) (by decide)) (fun c a b => cM c (by omega) (by omega) (by omega) (by omega) (by omega)) hI.m.t, (n86 18 (by decide) (by decide)).trans hI.m.l, (n86 29 (by decide) (by decide)).trans hI.m.k, (cM 105 (by decide) (by decide) (by decide) (by decide) (by omega)).trans hI.m.c13⟩, fun p hp => ?_, ?_, ?_, ?_, ?_⟩
    · have hne : ∀ p, p ∈ zTc → p.1 ≤ 56 ∨ (64 ≤ p.1 ∧ p.1 ≤ 69) := by decide
      have := hne p hp
      by_cases z : o ≤ p.1 ∧ p.1 ≤ o + 17
      · rw [c2 p.1 (by omega) (by omega) (by omega) (by omega)]
        exact f3 p.1 p.2 hp z.1 z.2
      · rw [cM p.1 (by omega) (by omega) (by omega) (by omega) z]
        exact hI.t p hp
    · obtain ⟨⟨x, y1, y2, y3, y4⟩, y5⟩ := hI.p
      refine ⟨⟨x, y1, ?_, ?_, ?_⟩, ?_⟩
      · rw [cM 58 (by decide) (by decide) (by decide) (by decide) (by omega)]; exact y2
      · rw [n86 16 (by decide) (by decide)]; exact y3
      · rw [cM 59 (by decide) (by decide) (by decide) (by decide) (by omega)]; exact y4
      · rw [cM 59 (by decide) (by decide) (by decide) (by decide) (by omega), cM 100 (by decide) (by decide) (by decide) (by decide) (by omega)]; exact y5
    · rcases ho with ⟨rfl, rfl⟩ | ⟨rfl, rfl⟩
      · exact hself
      · exact iM_fr (by rw [n57, pk_un (by decide)]) (by rw [n107, pk_un (by decide)]) (fun j a b => n106 j (by omega)) (fun c a b => cM c (by omega) (by omega) (by omega) (by omega) (by omega)) hI.i0
    · rcases ho with ⟨rfl, rfl⟩ | ⟨rfl, rfl⟩
      · exact iM_fr (by rw [n57, pk_un (by decide)]) (by rw [n107, pk_un (by decide)]) (fun j a b => n106 j (by omega)) (fun c a b => cM c (by omega) (by omega) (by omega) (by omega) (by omega)) hI.i1
      · exact hself
    · rw [cM 78 (by decide) (by decide) (by decide) (by decide) (by omega)]
      rcases hI.d with d | ⟨d1, d2⟩
      · exact Or.inl d
      · exact Or.inr ⟨d1, dT_eq (cM 80 (by decide) (by decide) (by decide) (by decide) (by omega)) (cM 81 (by decide) (by decide) (by decide) (by decide) (by omega)) d2⟩
theorem k_image (hI : zI M) (v : Int32) : ∃ x M1 M2, qS_image M v = some (x, M1) ∧ qM_image M1 v = some (x, M2) ∧ zI M2 := by
  obtain ⟨n, m, k, law, A, hI⟩ := hI
  have hin : qM_in v.toInt64 0 1 = _ := m_in (v := v) (lo := 0) (hi := 1) (L := 0) (H := 1) rfl rfl
  unfold qS_image
  rw [zb_ok c_out]
  by_cases c : sIn 0 1 v
  · rw [if_pos c, if_pos rfl]
    obtain ⟨i, hi, rfl⟩ := sIn_n (h := 1) (by omega) c
    rcases (show i = 0 ∨ i = 1 by omega) with rfl | rfl
    · obtain ⟨Mc, g1, g2, g3, g4⟩ := eO_21_2 hI.t hI.c
      rw [if_pos (show nI 0 = 0 from rfl), zb_ok g1]
      obtain ⟨M2, h1, h2⟩ := img_fin hI (Or.inl ⟨rfl, rfl⟩) g2 g3 g4
      exact ⟨_, _, M2, rfl, h1, h2.z⟩
    · obtain ⟨Mc, g1, g2, g3, g4⟩ := eO_39_2 hI.t hI.c
      rw [if_neg (show ¬ nI 1 = 0 by decide), if_pos (show nI 1 = 1 from rfl), zb_ok g1]
      obtain ⟨M2, h1, h2⟩ := img_fin hI (Or.inr ⟨rfl, rfl⟩) g2 g3 g4
      exact ⟨_, _, M2, rfl, h1, h2.z⟩
  · rw [if_neg c, if_neg z10]
    refine ⟨_, _, _, rfl, ?_, hI.z⟩
    unfold qM_image
    rw [zb_ok hin, if_neg c, if_pos rfl]
/-- the town is as it was kept -/
theorem res_fin {n' m' k' : Nat} {law' : Int32} {A' : zM} (hI : zIn M n m k law A) (ho : (i = 0 ∧ o = 21) ∨ (i = 1 ∧ o = 39)) (hw : wF n' m' k' law' A') (ht : tO M o n' m' k' law' A') (hk : kO M (200 * i) n' m' k' law' A') (h107 : M 107 i = 1) (f1 : ∀ c, ¬ (2 ≤ c ∧ c ≤ 2 + 17) → Mc c = (zw M 78 6 0) c) (f2 : tO Mc 2 n' m' k' law' A') (f3 : ∀ c L, (c, L) ∈ zTc → 2 ≤ c → c ≤ 2 + 17 → tz (Mc c) L) : ∃ M2, qM_restore Mc (nI i) = some (1, M2) ∧ zIn M2 n' m' k' law' A' := by
  have hi2 : i < 2 := by omega
  have hin : qM_in (nI i).toInt64 0 1 = _ := m_in (v := nI i) (lo := 0) (hi := 1) (L := 0) (H := 1) rfl rfl
  have e200 : 200 * nI i = nI (200 * i) := pk_mul 200 i
  have fM : ∀ c, ¬ (2 ≤ c ∧ c ≤ 19) → c ≠ 78 → Mc c = M c := fun c a b => by rw [f1 c (by omega), zw_ne b]
  obtain ⟨N0, d0⟩ : ∃ N, N = zw (zw Mc 86 32 (nI (200 * i))) 86 33 0 := ⟨_, rfl⟩
  have g0 : ∀ c, c ≠ 86 → N0 c = Mc c := fun c b => by rw [d0, zw_ne b, zw_ne b]
  have g86 : ∀ j, j ≠ 32 → j ≠ 33 → N0 86 j = M 86 j := fun j a b => by rw [d0, zw_other b, zw_other a, fM 86 (by omega) (by decide)]
  have hk0 : kO N0 (200 * i) n' m' k' law' A' := kO_eq (by rw [g0 106 (by decide), fM 106 (by omega) (by decide)]) hk
  obtain ⟨M2, p1, p2, p3, ⟨v6, v14, v29, v18⟩, ⟨c2, c5, c1, c0, c6, c10, c13⟩, ⟨r2, r5, r1, r0, r6, r7, r10, r13⟩⟩ := r_all (b := 200 * i) (by rw [d0, zw_same]) (by rw [d0, zw_other (by decide), zw_same]) (by omega) hk0
  have old : ∀ c, 87 ≤ c → N0 c = M c := fun c h => (g0 c (by omega)).trans (fM c (by omega) (by omega))
  have tt := hI.t
  have hc := hI.c
  have hm := hI.m.t
  have nt : ∀ q L, q < 18 → (o + q, L) ∈ zTc → tz (M (o + q)) L := fun q L _ h => tt (o + q, L) h
  have mem : ∀ q L, (2 ≤ q ∧ q ≤ 7 ∨ 9 ≤ q ∧ q ≤ 15 ∨ q = 17) → (2 + q, L) ∈ zTc → (o + q, L) ∈ zTc := by
    rcases ho with ⟨-, rfl⟩ | ⟨-, rfl⟩
    · intro q L hq
      have : ∀ q, q < 18 → ∀ p, p ∈ zTc → p.1 = 2 + q → (21 + q, p.2) ∈ zTc := by decide
      exact fun h => this q (by omega) (2 + q, L) h rfl
    · intro q L hq
      have : ∀ q, q < 18 → ∀ p, p ∈ zTc → p.1 = 2 + q → (39 + q, p.2) ∈ zTc := by decide
      exact fun h => this q (by omega) (2 + q, L) h rfl
  have tA : ∀ q L (f : Nat → Int32), (2 ≤ q ∧ q ≤ 7 ∨ 9 ≤ q ∧ q ≤ 15 ∨ q = 17) → (2 + q, L) ∈ zTc → M (o + q) = f → tz f L := fun q L f hq h e => by
    rw [← e]
    exact tt (o + q, L) (mem q L hq h)
  refine ⟨M2, ?_, ?_⟩
  · unfold qM_restore
    rw [zb_ok hin, if_pos (show sIn 0 1 (nI i) from sIn_t (h := 2) (by omega) hi2), if_neg z10]
    simp (disch := omega) only [zn_cl, zq_in]
    rw [fM 107 (by omega) (by decide), h107, if_neg z10, e200, ← d0, zb_ok p1]
  · have e92 : M2 92 = A' 0 := tl_eq (L := 4) c0 (fun j hj => by rw [r0 j hj, old 92 (by omega), hm.2.2.1, ← hc.c0]) (tt (4, 4) (by decide)) (tA 2 4 _ (by omega) (by decide) ht.c0)
    have e91 : M2 91 = A' 1 := tl_eq (L := 12) c1 (fun j hj => by rw [r1 j hj, old 91 (by omega), hm.2.2.2.1, ← hc.c1]) (tt (5, 12) (by decide)) (tA 3 12 _ (by omega) (by decide) ht.c1)
    have e87 : M2 87 = A' 2 := tl_eq (L := 8) (fun j hj => (c2 j hj).1) (fun j hj => by rw [(r2 j hj).1, old 87 (by omega), hm.2.2.2.2.1, ← hc.c2]) (tt (6, 8) (by decide)) (tA 4 8 _ (by omega) (by decide) ht.c2)
    have e88 : M2 88 = A' 3 := tl_eq (L := 8) (fun j hj => (c2 j hj).2.1) (fun j hj => by rw [(r2 j hj).2.1, old 88 (by omega), hm.2.2.2.2.2.1, ← hc.c3]) (tt (7, 8) (by decide)) (tA 5 8 _ (by omega) (by decide) ht.c3)
    have e89 : M2 89 = A' 4 := tl_eq (L := 8) (fun j hj => (c2 j hj).2.2) (fun j hj => by rw [(r2 j hj).2.2, old 89 (by omega), hm.2.2.2.2.2.2.1, ← hc.c4]) (tt (8, 8) (by decide)) (tA 6 8 _ (by omega) (by decide) ht.c4)
    have e90 : M2 90 = A' 5 := tl_eq (L := 2) c5 (fun j hj => by rw [r5 j hj, old 90 (by omega), hm.2.2.2.2.2.2.2.1, ← hc.c5]) (tt (9, 2) (by decide)) (tA 7 2 _ (by omega) (by decide) ht.c5)
    have e93 : M2 93 = A' 6 := tl_eq (L := 5) (fun j hj => (c6 j hj).1) (fun j hj => by rw [(r6 j hj).1, old 93 (by omega), hm.2.2.2.2.2.2.2.2.1, ← hc.c6]) (tt (11, 5) (by decide)) (tA 9 5 _ (by omega) (by decide) ht.c6)
    have e94 : M2 94 = A' 7 := tl_eq (L := 10) (fun j hj => by
      rcases (show (∃ x, j = 2 * x) ∨ (∃ x, j = 2 * x + 1) from (by
        by_cases z : j % 2 = 0
        · exact Or.inl ⟨j / 2, by omega⟩
        · exact Or.inr ⟨j / 2, by omega⟩)) with ⟨x, rfl⟩ | ⟨x, rfl⟩
      · exact (c6 x (by omega)).2.1
      · exact (c6 x (by omega)).2.2.1) (fun j hj => by rw [r7 j hj, old 94 (by omega), hm.2.2.2.2.2.2.2.2.2.1, ← hc.c7]) (tt (12, 10) (by decide)) (tA 10 10 _ (by omega) (by decide) ht.c7)
    have e95 : M2 95 = A' 8 := tl_eq (L := 5) (fun j hj => (c6 j hj).2.2.2.1) (fun j hj => by rw [(r6 j hj).2.1, old 95 (by omega), hm.2.2.2.2.2.2.2.2.2.2.1, ← hc.c8]) (tt (13, 5) (by decide)) (tA 11 5 _ (by omega) (by decide) ht.c8)
    have e96 : M2 96 = A' 9 := tl_eq (L := 5) (fun j hj => (c6 j hj).2.2.2.2) (fun j hj => by rw [(r6 j hj).2.2, old 96 (by omega), hm.2.2.2.2.2.2.2.2.2.2.2.1, ← hc.c9]) (tt (14, 5) (by decide)) (tA 12 5 _ (by omega) (by decide) ht.c9)
    have z10' : tz (A' 10) 20 := tA 13 20 _ (by omega) (by decide) ht.c10
    have e97 : M2 97 = A' 10 := tl_eq (L := 20) (fun j hj => (c10 j hj).1) (fun j hj => by rw [r10 j hj, old 97 (by omega), hm.2.2.2.2.2.2.2.2.2.2.2.2.1, ← hc.c10]) (tt (15, 20) (by decide)) z10'
    have e98 : ∀ j, A' 10 j ≠ 0 → M2 98 j = A' 11 j := fun j hj => by
      by_cases z : j < 20
      · exact (c10 j z).2.1 hj
      · exact absurd (z10' j (by omega)) hj
    have e99 : ∀ j, A' 10 j ≠ 0 → M2 99 j = A' 12 j := fun j hj => by
      by_cases z : j < 20
      · exact (c10 j z).2.2 hj
      · exact absurd (z10' j (by omega)) hj
    have e105 : M2 105 = A' 13 := tl_eq (L := 30) c13 (fun j hj => by rw [r13 j hj, old 105 (by omega), hI.m.c13, ← hc.c13]) (tt (19, 30) (by decide)) (tA 17 30 _ (by omega) (by decide) ht.c13)
    have c2' : ∀ c, c ≠ 86 → ¬ (87 ≤ c ∧ c ≤ 99) → c ≠ 105 → M2 c = Mc c := fun c a b d => (p3 c a b d).trans (g0 c a)
    refine zIn_up hI hw (tO_eq (fun c a b => c2' c (by omega) (by omega) (by omega)) f2) ⟨⟨v6, v14, e92, e91, e87, e88, e89, e90, e93, e94, e95, e96, e97, e98, e99⟩, v18, v29, e105⟩ (fun c L hcl h19 => ?_) (fun c hcc => ?_) ?_ (Or.inl ?_)
    · rw [c2' c (by omega) (by omega) (by omega)]
      have h2 : ∀ p, p ∈ zTc → 2 ≤ p.1 := by decide
      exact f3 c L hcl (h2 (c, L) hcl) (by omega)
    · rw [c2' c (by omega) (by omega) (by omega)]
      exact fM c (by omega) (by omega)
    · rw [p2 16 (by decide) (by decide) (by decide) (by decide) (by decide)]
      exact g86 16 (by decide) (by decide)
    · rw [c2' 78 (by decide) (by omega) (by decide), f1 78 (by omega), zw_same]
theorem k_restore (hI : zI M) (v : Int32) : ∃ x M1 M2, qS_restore M v = some (x, M1) ∧ qM_restore M1 v = some (x, M2) ∧ zI M2 := by
  obtain ⟨n, m, k, law, A, hI⟩ := hI
  have hin : qM_in v.toInt64 0 1 = _ := m_in (v := v) (lo := 0) (hi := 1) (L := 0) (H := 1) rfl rfl
  unfold qS_restore
  rw [zb_ok c_out]
  have hT : tT (zw M 78 6 0) := tt_n hI.t (by decide)
  by_cases c : sIn 0 1 v
  · rw [if_pos c, if_pos rfl]
    obtain ⟨i, hi, rfl⟩ := sIn_n (h := 1) (by omega) c
    simp (disch := omega) only [zn_cl, zq_in]
    rcases (show i = 0 ∨ i = 1 by omega) with rfl | rfl
    · rcases hI.i0 with ⟨h1, h2⟩ | ⟨h1, h2, n', m', k', law', A', h3, h4, h5⟩
      · rw [if_pos h1]
        refine ⟨_, _, _, rfl, ?_, hI.z⟩
        unfold qM_restore
        rw [zb_ok hin, if_pos c, if_neg z10]
        simp (disch := omega) only [zn_cl, zq_in]
        rw [if_pos h2]
      · rw [h1, if_neg z10]
        unfold qD_forget
        rw [zb_s, if_pos (show nI 0 = 0 from rfl)]
        obtain ⟨Mc, g1, g2, g3, g4⟩ := eO_2_21 hT (tO_eq (fun c a b => zw_ne (by omega)) h4)
        rw [zb_ok g1]
        obtain ⟨M2, q1, q2⟩ := res_fin hI (Or.inl ⟨rfl, rfl⟩) h3 h4 h5 h2 g2 g3 g4
        exact ⟨_, _, M2, rfl, q1, q2.z⟩
    · rcases hI.i1 with ⟨h1, h2⟩ | ⟨h1, h2, n', m', k', law', A', h3, h4, h5⟩
      · rw [if_pos h1]
        refine ⟨_, _, _, rfl, ?_, hI.z⟩
        unfold qM_restore
        rw [zb_ok hin, if_pos c, if_neg z10]
        simp (disch := omega) only [zn_cl, zq_in]
        rw [if_pos h2]
      · rw [h1, if_neg z10]
        unfold qD_forget
        rw [zb_s, if_neg (show ¬ nI 1 = 0 by decide), if_pos (show nI 1 = 1 from rfl)]
        obtain ⟨Mc, g1, g2, g3, g4⟩ := eO_2_39 hT (tO_eq (fun c a b => zw_ne (by omega)) h4)
        rw [zb_ok g1]
        obtain ⟨M2, q1, q2⟩ := res_fin hI (Or.inr ⟨rfl, rfl⟩) h3 h4 h5 h2 g2 g3 g4
        exact ⟨_, _, M2, rfl, q1, q2.z⟩
  · rw [if_neg c, if_neg z10]
    refine ⟨_, _, _, rfl, ?_, hI.z⟩
    unfold qM_restore
    rw [zb_ok hin, if_neg c, if_pos rfl]
end ZImage2
