section ZMore
variable {M : zM} {n m k : Nat} {law : Int32} {A : zM} {q s t : Nat}
/-- the trial's ends, as a town's -/
def az (A : zM) : Prop := tz (A 0) 4 ∧ tz (A 1) 12 ∧ tz (A 2) 8 ∧ tz (A 3) 8 ∧ tz (A 4) 8 ∧ tz (A 5) 2
theorem az_of (hI : zIn M n m k law A) : az A := by
  have tt := hI.t
  have c := hI.c
  refine ⟨?_, ?_, ?_, ?_, ?_, ?_⟩
  · rw [← c.c0]; exact tt (4, 4) (by decide)
  · rw [← c.c1]; exact tt (5, 12) (by decide)
  · rw [← c.c2]; exact tt (6, 8) (by decide)
  · rw [← c.c3]; exact tt (7, 8) (by decide)
  · rw [← c.c4]; exact tt (8, 8) (by decide)
  · rw [← c.c5]; exact tt (9, 2) (by decide)
theorem az_lay (h : az A) (hn : n ≤ 4) (hs : s < 2) (r : Nat) : az (zA A 4 (sLay A n s r)) := by
  obtain ⟨h0, h1, h2, h3, h4, h5⟩ := h
  refine ⟨h0, h1, h2, h3, fun j hj => ?_, h5⟩
  show sLay A n s r j = 0
  unfold sLay
  rw [if_neg (by omega)]
  exact h4 j hj
theorem az_w4 (h : az A) {j : Nat} (hj : j < 8) (x : Int32) : az (zw A 4 j x) := ⟨h.1, h.2.1, h.2.2.1, h.2.2.2.1, (by rw [zw_at]; exact tz_upd h.2.2.2.2.1 hj), h.2.2.2.2.2⟩
theorem az_w3 (h : az A) {j : Nat} (hj : j < 8) (x : Int32) : az (zw A 3 j x) := ⟨h.1, h.2.1, h.2.2.1, (by rw [zw_at]; exact tz_upd h.2.2.2.1 hj), h.2.2.2.2.1, h.2.2.2.2.2⟩
theorem az_w2 (h : az A) {j : Nat} (hj : j < 8) (x : Int32) : az (zw A 2 j x) := ⟨h.1, h.2.1, (by rw [zw_at]; exact tz_upd h.2.2.1 hj), h.2.2.2.1, h.2.2.2.2.1, h.2.2.2.2.2⟩
theorem az_w5 (h : az A) {j : Nat} (hj : j < 2) (x : Int32) : az (zw A 5 j x) := ⟨h.1, h.2.1, h.2.2.1, h.2.2.2.1, h.2.2.2.2.1, (by rw [zw_at]; exact tz_upd h.2.2.2.2.2 hj)⟩
/-- what the computing of the walks and prices keeps -/
def cf (M M' : zM) : Prop := ∀ c, c ≤ 59 ∨ c = 78 ∨ c = 80 ∨ c = 81 ∨ 86 ≤ c → M' c = M c
theorem cf.rf (M : zM) : cf M M := fun _ _ => rfl
theorem cf.tr {M1 M2 M3 : zM} (h1 : cf M1 M2) (h2 : cf M2 M3) : cf M1 M3 := fun c h => (h2 c h).trans (h1 c h)
theorem cf_wk {M' : zM} (h : wk M M') : cf M M' := fun c hc => h c (by omega) (by omega)
theorem cf_look {M' : zM} (h : ∀ c, ¬ (63 ≤ c ∧ c ≤ 69) → c ≠ 71 → c ≠ 72 → M' c = M c) : cf M M' := fun c hc => h c (by omega) (by omega) (by omega)
theorem cf_68 {M' : zM} (h : ∀ c, c ≠ 68 → M' c = M c) : cf M M' := fun c hc => h c (by omega)
theorem cf_eT {M' : zM} (h : eT M M') : cf M M' := fun c hc => h c (by omega) (by omega)
theorem cf_zw {r j : Nat} {x : Int32} (h : (60 ≤ r ∧ r ≤ 77) ∨ r = 79 ∨ (82 ≤ r ∧ r ≤ 85)) : cf M (zw M r j x) := fun c hc => zw_ne (by omega)
theorem zIn_t {M' A' : zM} {n' m' : Nat} (hI : zIn M n m k law A) (fr : cf M M') (hc : cT M' n' m' A') (ha : az A') : zIn M' n m k law A :=
  zIn_c hI (kp_cls (fun c hc => fr c (by omega)) (trial_tails (fun _ => by rw [hc.2.2.1]; exact ha.1) (fun _ => by rw [hc.2.2.2.1]; exact ha.2.1) (fun _ => by rw [hc.2.2.2.2.1]; exact ha.2.2.1) (fun _ => by rw [hc.2.2.2.2.2.1]; exact ha.2.2.2.1) (fun _ => by rw [hc.2.2.2.2.2.2.1]; exact ha.2.2.2.2.1) (fun _ => by rw [hc.2.2.2.2.2.2.2.1]; exact ha.2.2.2.2.2))) (fr 78 (by omega)) (fr 80 (by omega)) (fr 81 (by omega))
theorem zIn_m {M' : zM} (hI : zIn M n m k law A) (h : ∀ c, c ≤ 85 ∨ (87 ≤ c ∧ c ≤ 100) ∨ 105 ≤ c → M' c = M c) (hm : ∀ j, j = 6 ∨ j = 14 ∨ j = 16 ∨ j = 18 ∨ j = 29 → M' 86 j = M 86 j) : zIn M' n m k law A := zIn_c hI (kp_mod h hm) (h 78 (by omega)) (h 80 (by omega)) (h 81 (by omega))
theorem zIn_19 {M' : zM} (hI : zIn M n m k law A) (h : eM j19 M M') : zIn M' n m k law A := zIn_m hI (fun c hc => h.1 c (by omega)) (fun j hj => h.2 j (fun e => by have e' : j = 19 := e; omega))
theorem zw_back (M : zM) (r j : Nat) (x : Int32) : zw (zw M r j x) r j (M r j) = M := by
  funext c i
  by_cases hc : c = r
  · subst hc
    rw [zw_at, zw_at]
    by_cases hi : i = j
    · subst hi; rw [pk_us]
    · rw [pk_un hi, pk_un hi]
  · rw [zw_ne hc, zw_ne hc]
/-- a loop with ends on the way -/
theorem zlp_ms {σ ρ : Type} {b : (σ → Option ρ) → σ → Option ρ} (I : σ → Prop) (μ : σ → Nat) {E : Option ρ → Prop} (hs : ∀ s, I s → (∃ s', I s' ∧ μ s' < μ s ∧ ∀ rc, b rc s = rc s') ∨ (∃ e, E e ∧ ∀ rc, b rc s = e)) : ∀ (F : Nat) (s : σ), I s → μ s < F → E (zlp b F s) := by
  intro F
  induction F with
  | zero => intro s _ h; omega
  | succ F ih =>
    intro s hI h
    show E (b (zlp b F) s)
    rcases hs s hI with ⟨s', h1, h2, h3⟩ | ⟨e, h1, h2⟩
    · rw [h3]
      exact ih s' h1 (by omega)
    · rw [h2]
      exact h1
theorem zlp_ex {σ ρ : Type} {b : (σ → Option ρ) → σ → Option ρ} (I : Nat → σ → Prop) (n : Nat) {E : Option ρ → Prop} {F : Nat} (hF : n < F) (hs : ∀ i, i < n → ∀ s, I i s → (∃ s', I (i + 1) s' ∧ ∀ rc, b rc s = rc s') ∨ (∃ e, E e ∧ ∀ rc, b rc s = e)) (he : ∀ s, I n s → ∃ e, E e ∧ ∀ rc, b rc s = e) {s : σ} (h0 : I 0 s) : E (zlp b F s) := by
  have key : ∀ k i : Nat, i + k = n → ∀ (F : Nat) (s : σ), I i s → k < F → E (zlp b F s) := by
    intro k
    induction k with
    | zero =>
      intro i hi F s hI hF
      obtain ⟨F, rfl⟩ : ∃ F', F = F' + 1 := ⟨F - 1, by omega⟩
      have : i = n := by omega
      subst this
      obtain ⟨e, h1, h2⟩ := he s hI
      show E (b (zlp b F) s)
      rw [h2]
      exact h1
    | succ k ih =>
      intro i hi F s hI hF
      obtain ⟨F, rfl⟩ : ∃ F', F = F' + 1 := ⟨F - 1, by omega⟩
      show E (b (zlp b F) s)
      rcases hs i (by omega) s hI with ⟨s', h1, h2⟩ | ⟨e, h1, h2⟩
      · rw [h2]
        exact ih (i + 1) (by omega) F s' h1 (by omega)
      · rw [h2]
        exact h1
  exact key n 0 (by omega) F s h0 hF
/-! bounded numbers -/
def sB (b : Nat) (x : Int32) : Prop := -(b : Int) ≤ x.toInt ∧ x.toInt ≤ b
theorem bm_id {x : Int} (h1 : -2147483648 ≤ x) (h2 : x < 2147483648) : x.bmod (2 ^ 32) = x := Int.bmod_eq_of_le (by omega) (by omega)
theorem bd_add {a b : Nat} {x w : Int32} (hx : sB a x) (hw : sB b w) (h : a + b < 2147483648) : sB (a + b) (x + w) ∧ (x + w).toInt = x.toInt + w.toInt := by
  obtain ⟨h1, h2⟩ := hx
  obtain ⟨h3, h4⟩ := hw
  have e : (x + w).toInt = x.toInt + w.toInt := by
    rw [Int32.toInt_add]
    exact bm_id (by omega) (by omega)
  refine ⟨?_, e⟩
  unfold sB
  rw [e]
  omega
theorem bd_sub {a b : Nat} {x w : Int32} (hx : sB a x) (hw : sB b w) (h : a + b < 2147483648) : sB (a + b) (x - w) ∧ (x - w).toInt = x.toInt - w.toInt := by
  obtain ⟨h1, h2⟩ := hx
  obtain ⟨h3, h4⟩ := hw
  have e : (x - w).toInt = x.toInt - w.toInt := by
    rw [Int32.toInt_sub]
    exact bm_id (by omega) (by omega)
  refine ⟨?_, e⟩
  unfold sB
  rw [e]
  omega
theorem im_bd {a b : Nat} {x w : Int} (h1 : -(a : Int) ≤ x) (h2 : x ≤ a) (h3 : -(b : Int) ≤ w) (h4 : w ≤ b) : -((a * b : Nat) : Int) ≤ x * w ∧ x * w ≤ ((a * b : Nat) : Int) := by
  have hab : (x * w).natAbs ≤ a * b := by
    rw [Int.natAbs_mul]
    exact Nat.mul_le_mul (by omega) (by omega)
  omega
theorem bd_mul {a b : Nat} {x w : Int32} (hx : sB a x) (hw : sB b w) (h : a * b < 2147483648) : sB (a * b) (x * w) ∧ (x * w).toInt = x.toInt * w.toInt := by
  obtain ⟨h1, h2⟩ := im_bd hx.1 hx.2 hw.1 hw.2
  have e : (x * w).toInt = x.toInt * w.toInt := by
    rw [Int32.toInt_mul]
    exact bm_id (by omega) (by omega)
  refine ⟨?_, e⟩
  unfold sB
  rw [e]
  exact ⟨h1, h2⟩
theorem bd_up {a b : Nat} {x : Int32} (hx : sB a x) (h : a ≤ b) : sB b x := by
  unfold sB at *
  omega
theorem bd_0 (a : Nat) : sB a 0 := by
  unfold sB
  have : (0 : Int32).toInt = 0 := rfl
  omega
theorem bd_in {h : Nat} {v : Int32} (hh : h < 2147483648) (hv : sIn 0 (nI h) v) : sB h v := by
  obtain ⟨j, h1, rfl⟩ := sIn_n hh hv
  unfold sB
  rw [nI_toInt (by omega)]
  omega
theorem bd_sum {b : Nat} {f : Nat → Int32} : ∀ {n : Nat}, (∀ i, i < n → sB b (f i)) → n * b < 2147483648 → sB (n * b) (sSum f n)
  | 0, _, _ => bd_0 _
  | n + 1, h, hb => by
    have e : (n + 1) * b = n * b + b := by rw [Nat.add_mul, Nat.one_mul]
    rw [e] at hb ⊢
    exact (bd_add (bd_sum (n := n) (fun i hi => h i (by omega)) (by omega)) (h n (by omega)) hb).1
theorem wF_at (w : wF n m k law A) (hs : s < 2) (ht : t < n) : sIn 0 99 (sPr A s t) := by
  have h := wf_A w.wf hs ht
  have := w.pr t (sAt A s t) ht h.2
  unfold sPr
  exact this
theorem by_bd (w : wF n m k law A) : sB 3 (sBy A n q s t) := by
  unfold sBy
  by_cases c : sVs (sGo A n q) s ∧ (sGo A n q = 3 → sSd A (A 8 q) q t = s)
  · rw [if_pos c]
    unfold sWt
    split
    · exact bd_0 _
    · split
      · exact bd_in (h := 3) (by omega) (w.wn _)
      · exact bd_in (h := 3) (by omega) (w.he _)
  · rw [if_neg c]
    exact bd_0 _
theorem br_bd (w : wF n m k law A) (hs : s < 2) : sB 235224 (sBr A n q s) := by
  have hn := w.wf.1
  have h1 : sB (n * 594) (sSum (fun t => sBy A n q s t * (sPr A s t - A 2 (4 * s + t))) n) := bd_sum (fun i hi => by
    have a1 := bd_in (h := 99) (by omega) (wF_at w hs hi)
    have a2 := bd_in (h := 99) (by omega) (w.co (4 * s + i))
    exact (bd_mul (by_bd w) (bd_sub a1 a2 (by omega)).1 (by omega)).1) (by omega)
  have h2 := bd_in (h := 99) (by omega) (w.ma q)
  unfold sBr
  exact (bd_mul h2 (bd_up h1 (b := 2376) (by omega)) (by omega)).1
theorem lf_bd (w : wF n m k law A) (hs : s < 2) : sB 1176120 (sLf A n m s) := by
  have hm := w.wf.2.1
  have h1 : sB (m * 235224) (sLf A n m s) := bd_sum (fun i hi => br_bd w hs) (by omega)
  exact bd_up h1 (by omega)
theorem l_sub {x w : Int32} {a b : Nat} (hx : sB a x) (hw : sB b w) (h : a + b < 2147483648) : x.toInt64 - w.toInt64 = (x - w).toInt64 := by
  apply Int64.toInt_inj.mp
  have h1 := (bd_sub hx hw h).2
  obtain ⟨x1, x2⟩ := hx
  obtain ⟨w1, w2⟩ := hw
  rw [Int64.toInt_sub, Int32.toInt_toInt64, Int32.toInt_toInt64, Int32.toInt_toInt64, h1]
  exact Int.bmod_eq_of_le (by omega) (by omega)
theorem wF_lay (w : wF n m k law A) (hs : s < 2) (r : Nat) : wF n m k law (zA A 4 (sLay A n s r)) := ⟨wf_lay w.wf r hs, w.k30, w.law01, w.pr, w.up, w.co, w.he, w.wi, w.ma, w.fa, w.wa, w.sh, w.wn, w.wo, w.gu, w.sl⟩
end ZMore
