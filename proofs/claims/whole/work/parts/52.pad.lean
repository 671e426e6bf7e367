section ZPad
/-! the reading of a list, plainly -/
def bw_t (w t : Nat) : Bool := w / 2 ^ t % 2 == 1
def bw_c (w : Nat) : Nat := w % 2 + w / 2 % 2 + w / 4 % 2 + w / 8 % 2
theorem bw_i : ∀ w, w < 16 → ∀ t, t < 4 → ((((nI w >>> (nI t &&& 31)) &&& 1) = 1) ↔ bw_t w t = true) := by decide +kernel
theorem bw_or : ∀ w, w < 16 → ∀ t, t < 4 → bw_t w t = false → nI w ||| (1 <<< (nI t &&& 31)) = nI (w + 2 ^ t) ∧ w + 2 ^ t < 16 ∧ bw_c (w + 2 ^ t) = bw_c w + 1 := by decide +kernel
theorem bw_add : ∀ w, w < 16 → ∀ t, t < 4 → bw_t w t = false → ∀ t', t' < 4 → bw_t (w + 2 ^ t) t' = (bw_t w t' || t' == t) := by decide +kernel
theorem bw_4 : ∀ w, w < 16 → (bw_c w < 4 ↔ ¬ w = 15) := by decide +kernel
theorem bw_5 : ∀ w, w < 16 → bw_c w < 5 := by decide +kernel
theorem bw_pos : ∀ w, w < 16 → ∀ t, t < 4 → bw_t w t = true → 1 ≤ bw_c w := by decide +kernel
def pMk (g : Bool) (w cur : Nat) (c : Int32) : Option (Nat × Nat × Nat) := if g = true ∧ c = 126 then some (6, w, cur) else if c = 59 ∧ ¬ w = 15 then some (0, w, cur) else none
def pNx (st w cur : Nat) (c : Int32) : Option (Nat × Nat × Nat) := match st with
  | 0 => if c < 97 ∨ 100 < c then none else if bw_t w (c - 97).toNatClampNeg = true then none else some (1, w + 2 ^ (c - 97).toNatClampNeg, (c - 97).toNatClampNeg)
  | 1 => if c < 49 ∨ 51 < c then none else some (2, w, cur)
  | 2 => if c = 60 then some (3, w, cur) else none
  | 3 => if c < 48 ∨ 57 < c then none else some (4, w, cur)
  | 4 => if c < 48 ∨ 57 < c then pMk true w cur c else some (5, w, cur)
  | 5 => pMk true w cur c
  | 6 => if c < 48 ∨ 57 < c then none else some (7, w, cur)
  | 7 => if c < 48 ∨ 57 < c then pMk false w cur c else some (8, w, cur)
  | _ => pMk false w cur c
abbrev pDa : Type := (Nat → Int32) × (Nat → Int32) × (Nat → Int32)
abbrev pSt : Type := Nat × Nat × Nat × pDa
def pDt (st cur : Nat) (c : Int32) (D : pDa) : pDa := match st with
  | 2 => (upd D.1 cur (c - 48), D.2.1, D.2.2)
  | 4 => (D.1, upd D.2.1 cur (0 * 10 + c - 48), D.2.2)
  | 5 => (D.1, upd D.2.1 cur (D.2.1 cur * 10 + c - 48), D.2.2)
  | 7 => (D.1, D.2.1, upd D.2.2 cur (0 * 10 + c - 48))
  | 8 => (D.1, D.2.1, upd D.2.2 cur (D.2.2 cur * 10 + c - 48))
  | _ => D
def pGo (x : pSt) (c : Int32) : Option pSt := match pNx x.1 x.2.1 x.2.2.1 c with
  | none => none
  | some p => some (p.1, p.2.1, p.2.2, pDt p.1 p.2.2 c x.2.2.2)
def pRun (f : Nat → Int32) : Nat → Option pSt
  | 0 => some (0, 0, 0, fun _ => 0, fun _ => 0, fun _ => -6)
  | i + 1 => match pRun f i with
    | none => none
    | some x => pGo x (f i)
theorem pNx_0 (w cur : Nat) (c : Int32) : pNx 0 w cur c = if c < 97 ∨ 100 < c then none else if bw_t w (c - 97).toNatClampNeg = true then none else some (1, w + 2 ^ (c - 97).toNatClampNeg, (c - 97).toNatClampNeg) := rfl
theorem pNx_1 (w cur : Nat) (c : Int32) : pNx 1 w cur c = if c < 49 ∨ 51 < c then none else some (2, w, cur) := rfl
theorem pNx_2 (w cur : Nat) (c : Int32) : pNx 2 w cur c = if c = 60 then some (3, w, cur) else none := rfl
theorem pNx_3 (w cur : Nat) (c : Int32) : pNx 3 w cur c = if c < 48 ∨ 57 < c then none else some (4, w, cur) := rfl
theorem pNx_4 (w cur : Nat) (c : Int32) : pNx 4 w cur c = if c < 48 ∨ 57 < c then pMk true w cur c else some (5, w, cur) := rfl
theorem pNx_5 (w cur : Nat) (c : Int32) : pNx 5 w cur c = pMk true w cur c := rfl
theorem pNx_6 (w cur : Nat) (c : Int32) : pNx 6 w cur c = if c < 48 ∨ 57 < c then none else some (7, w, cur) := rfl
theorem pNx_7 (w cur : Nat) (c : Int32) : pNx 7 w cur c = if c < 48 ∨ 57 < c then pMk false w cur c else some (8, w, cur) := rfl
theorem pNx_8 (w cur : Nat) (c : Int32) : pNx 8 w cur c = pMk false w cur c := rfl
theorem not_in {lo hi c : Int32} : ¬ sIn lo hi c ↔ (c < lo ∨ hi < c) := by
  unfold sIn
  constructor
  · intro h
    by_cases h1 : c < lo
    · exact Or.inl h1
    · by_cases h2 : hi < c
      · exact Or.inr h2
      · exact absurd ⟨h1, h2⟩ h
  · rintro (h | h) q
    · exact q.1 h
    · exact q.2 h
theorem in_of {lo hi c : Int32} (h : ¬ (c < lo ∨ hi < c)) : sIn lo hi c := ⟨fun q => h (Or.inl q), fun q => h (Or.inr q)⟩
/-- a letter -/
theorem let_of {c : Int32} (h : ¬ (c < 97 ∨ 100 < c)) : ∃ t, t < 4 ∧ c = nI (97 + t) ∧ c - 97 = nI t ∧ (c - 97).toNatClampNeg = t := by
  have h0 : sIn 0 100 c := ⟨fun q => h (Or.inl (Int32.lt_trans q (by decide))), fun q => h (Or.inr q)⟩
  obtain ⟨j, hj, rfl⟩ := sIn_n (h := 100) (by omega) h0
  have hj2 : 97 ≤ j := by
    by_cases z : j < 97
    · exact absurd (Or.inl (nI_lt (b := 97) z (by omega))) h
    · omega
  have e : nI j - 97 = nI (j - 97) := pk_sub (b := 97) hj2
  exact ⟨j - 97, by omega, by rw [show 97 + (j - 97) = j by omega], e, by rw [e, zn_cl (by omega)]⟩
/-- a digit -/
theorem dig_of {c : Int32} (h : ¬ (c < 48 ∨ 57 < c)) : ∃ d, d ≤ 9 ∧ c = nI (48 + d) ∧ c - 48 = nI d := by
  have h0 : sIn 0 57 c := ⟨fun q => h (Or.inl (Int32.lt_trans q (by decide))), fun q => h (Or.inr q)⟩
  obtain ⟨j, hj, rfl⟩ := sIn_n (h := 57) (by omega) h0
  have hj2 : 48 ≤ j := by
    by_cases z : j < 48
    · exact absurd (Or.inl (nI_lt (b := 48) z (by omega))) h
    · omega
  exact ⟨j - 48, by omega, by rw [show 48 + (j - 48) = j by omega], pk_sub (b := 48) hj2⟩
theorem man_of {c : Int32} (h : ¬ (c < 49 ∨ 51 < c)) : ∃ d, 1 ≤ d ∧ d ≤ 3 ∧ c = nI (48 + d) ∧ c - 48 = nI d := by
  have h0 : sIn 0 51 c := ⟨fun q => h (Or.inl (Int32.lt_trans q (by decide))), fun q => h (Or.inr q)⟩
  obtain ⟨j, hj, rfl⟩ := sIn_n (h := 51) (by omega) h0
  have hj2 : 49 ≤ j := by
    by_cases z : j < 49
    · exact absurd (Or.inl (nI_lt (b := 49) z (by omega))) h
    · omega
  exact ⟨j - 48, by omega, by omega, by rw [show 48 + (j - 48) = j by omega], pk_sub (b := 48) (by omega)⟩
theorem in_n {h j : Nat} (hh : h < 2147483648) (hj : j ≤ h) : sIn 0 (nI h) (nI j) := ⟨nI_pos (by omega), nI_nlt hj hh⟩
theorem pMk_inv {g : Bool} {w cur : Nat} {c : Int32} {p : Nat × Nat × Nat} (h : pMk g w cur c = some p) : (p = (6, w, cur) ∧ g = true) ∨ p = (0, w, cur) := by
  unfold pMk at h
  by_cases c1 : g = true ∧ c = 126
  · rw [if_pos c1] at h
    cases h
    exact Or.inl ⟨rfl, c1.1⟩
  · rw [if_neg c1] at h
    by_cases c2 : c = 59 ∧ ¬ w = 15
    · rw [if_pos c2] at h
      cases h
      exact Or.inr rfl
    · rw [if_neg c2] at h
      cases h
/-- what holds of the reading's state -/
def pI (st w cur : Nat) (D : pDa) : Prop := st ≤ 8 ∧ w < 16 ∧ cur < 4 ∧ (st ≠ 0 → bw_t w cur = true) ∧ (∀ t, t < 4 → (D.1 t = 0 ↔ (bw_t w t = false ∨ (st = 1 ∧ t = cur)))) ∧ (∀ t, t < 4 → sIn 0 3 (D.1 t) ∧ sIn 0 99 (D.2.1 t) ∧ (D.2.2 t = -6 ∨ sIn 0 99 (D.2.2 t))) ∧ (st = 4 → sIn 0 9 (D.2.1 cur)) ∧ (st = 7 → sIn 0 9 (D.2.2 cur)) ∧ (∀ t, t < 4 → bw_t w t = false → D.2.1 t = 0 ∧ D.2.2 t = -6) ∧ (1 ≤ st → st ≤ 3 → D.2.1 cur = 0)
theorem pI_0 : pI 0 0 0 (fun _ => 0, fun _ => 0, fun _ => -6) := by
  refine ⟨by omega, by omega, by omega, fun h => absurd rfl h, fun t ht => ⟨fun _ => Or.inl ?_, fun _ => rfl⟩, fun t ht => ⟨(show sIn 0 3 0 from ⟨by decide, by decide⟩), (show sIn 0 99 0 from ⟨by decide, by decide⟩), Or.inl rfl⟩, fun h => by omega, fun h => by omega, fun t ht _ => ⟨rfl, rfl⟩, fun h => by omega⟩
  unfold bw_t
  rw [Nat.zero_div]
  rfl
/-- the same data, another state -/
theorem pI_s {st st' w cur : Nat} {D : pDa} (h : pI st w cur D) (h1 : st ≠ 1) (h2 : st' ≤ 8) (h3 : st' ≠ 1) (h4 : st' ≠ 4) (h5 : st' ≠ 7) (h6 : st ≠ 0) (h7 : st' = 0 ∨ st' = 6 ∨ (1 ≤ st ∧ st ≤ 3)) : pI st' w cur D := by
  obtain ⟨a1, a2, a3, a4, a5, a6, a7, a8, a9, a10⟩ := h
  refine ⟨h2, a2, a3, fun _ => a4 h6, fun t ht => ?_, a6, fun h => absurd h h4, fun h => absurd h h5, a9, fun g1 g2 => ?_⟩
  · rw [a5 t ht]
    exact ⟨fun z => z.elim Or.inl (fun z => absurd z.1 h1), fun z => z.elim Or.inl (fun z => absurd z.1 h3)⟩
  · rcases h7 with z | z | z
    · omega
    · omega
    · exact a10 z.1 z.2
theorem pI_go {st w cur : Nat} {D : pDa} {c : Int32} {p : Nat × Nat × Nat} (h : pI st w cur D) (hp : pNx st w cur c = some p) : pI p.1 p.2.1 p.2.2 (pDt p.1 p.2.2 c D) := by
  have hst := h.1
  have h' := h
  obtain ⟨a1, a2, a3, a4, a5, a6, a7, a8, a9, a10⟩ := h'
  have mark : ∀ g, st ≠ 0 → st ≠ 1 → pMk g w cur c = some p → pI p.1 p.2.1 p.2.2 (pDt p.1 p.2.2 c D) := fun g n0 n1 hm => by
    rcases pMk_inv hm with ⟨rfl, -⟩ | rfl
    · exact pI_s h n1 (by omega) (by omega) (by omega) (by omega) n0 (Or.inr (Or.inl rfl))
    · exact pI_s h n1 (by omega) (by omega) (by omega) (by omega) n0 (Or.inl rfl)
  rcases (show st = 0 ∨ st = 1 ∨ st = 2 ∨ st = 3 ∨ st = 4 ∨ st = 5 ∨ st = 6 ∨ st = 7 ∨ st = 8 by omega) with rfl | rfl | rfl | rfl | rfl | rfl | rfl | rfl | rfl
  · rw [pNx_0] at hp
    by_cases c1 : c < 97 ∨ 100 < c
    · rw [if_pos c1] at hp; cases hp
    · rw [if_neg c1] at hp
      obtain ⟨t, ht, -, -, e⟩ := let_of c1
      rw [e] at hp
      by_cases c2 : bw_t w t = true
      · rw [if_pos c2] at hp; cases hp
      · rw [if_neg c2] at hp
        cases hp
        have c3 : bw_t w t = false := by cases z : bw_t w t with
          | false => rfl
          | true => exact absurd z c2
        obtain ⟨b1, b2, b3⟩ := bw_or w a2 t ht c3
        have b4 := bw_add w a2 t ht c3
        refine ⟨by omega, b2, ht, fun _ => by rw [b4 t ht]; simp, fun t' ht' => ?_, a6, fun h => by omega, fun h => by omega, fun t' ht' hf => ?_, fun _ _ => (a9 t ht c3).1⟩
        · show D.1 t' = 0 ↔ _
          rw [a5 t' ht', b4 t' ht']
          by_cases z : t' = t
          · subst z
            simp [c3]
          · simp [z]
        · rw [b4 t' ht'] at hf
          have : bw_t w t' = false := by
            cases z : bw_t w t' with
            | false => rfl
            | true => rw [z] at hf; simp at hf
          exact a9 t' ht' this
  · rw [pNx_1] at hp
    by_cases c1 : c < 49 ∨ 51 < c
    · rw [if_pos c1] at hp; cases hp
    · rw [if_neg c1] at hp
      cases hp
      obtain ⟨d, d1, d2, -, d3⟩ := man_of c1
      refine ⟨by omega, a2, a3, fun _ => a4 (by omega), fun t ht => ?_, fun t ht => ?_, fun h => by omega, fun h => by omega, a9, fun _ _ => a10 (by omega) (by omega)⟩
      · show upd D.1 cur (c - 48) t = 0 ↔ _
        by_cases z : t = cur
        · subst z
          rw [pk_us, d3]
          constructor
          · intro q
            exact absurd q (nI_ne0 (by omega) (by omega))
          · rintro (q | q)
            · rw [a4 (by omega)] at q
              cases q
            · omega
        · rw [pk_un z, a5 t ht]
          constructor
          · rintro (q | q)
            · exact Or.inl q
            · exact absurd q.2 z
          · rintro (q | q)
            · exact Or.inl q
            · omega
      · refine ⟨?_, (a6 t ht).2⟩
        show sIn 0 3 (upd D.1 cur (c - 48) t)
        by_cases z : t = cur
        · subst z
          rw [pk_us, d3]
          exact in_n (h := 3) (by omega) d2
        · rw [pk_un z]
          exact (a6 t ht).1
  · rw [pNx_2] at hp
    by_cases c1 : c = 60
    · rw [if_pos c1] at hp
      cases hp
      exact pI_s h (by omega) (by omega) (by omega) (by omega) (by omega) (by omega) (Or.inr (Or.inr ⟨by omega, by omega⟩))
    · rw [if_neg c1] at hp; cases hp
  · rw [pNx_3] at hp
    by_cases c1 : c < 48 ∨ 57 < c
    · rw [if_pos c1] at hp; cases hp
    · rw [if_neg c1] at hp
      cases hp
      obtain ⟨d, d1, d2, d3⟩ := dig_of c1
      have e : (0 : Int32) * 10 + c - 48 = nI d := by rw [show (0 : Int32) * 10 = 0 from rfl, Int32.zero_add]; exact d3
      refine ⟨by omega, a2, a3, fun _ => a4 (by omega), fun t ht => ?_, fun t ht => ⟨(a6 t ht).1, ?_, (a6 t ht).2.2⟩, fun _ => ?_, fun h => by omega, fun t ht hf => ⟨?_, (a9 t ht hf).2⟩, fun _ _ => by omega⟩
      · show D.1 t = 0 ↔ _
        rw [a5 t ht]
        exact ⟨fun z => z.elim Or.inl (fun z => by omega), fun z => z.elim Or.inl (fun z => by omega)⟩
      · show sIn 0 99 (upd D.2.1 cur (0 * 10 + c - 48) t)
        rw [e]
        by_cases z : t = cur
        · subst z
          rw [pk_us]
          exact in_n (h := 99) (by omega) (by omega)
        · rw [pk_un z]
          exact (a6 t ht).2.1
      · show sIn 0 9 (upd D.2.1 cur (0 * 10 + c - 48) cur)
        rw [pk_us, e]
        exact in_n (h := 9) (by omega) d1
      · show upd D.2.1 cur (0 * 10 + c - 48) t = 0
        have z : t ≠ cur := fun z => by rw [z, a4 (by omega)] at hf; cases hf
        rw [pk_un z]
        exact (a9 t ht hf).1
  · rw [pNx_4] at hp
    by_cases c1 : c < 48 ∨ 57 < c
    · rw [if_pos c1] at hp
      exact mark _ (by omega) (by omega) hp
    · rw [if_neg c1] at hp
      cases hp
      obtain ⟨d, d1, d2, d3⟩ := dig_of c1
      obtain ⟨g, g1, g2⟩ := sIn_n (h := 9) (by omega) (a7 rfl)
      have e : D.2.1 cur * 10 + c - 48 = nI (g * 10 + d) := by
        rw [g2, d2, show nI g * 10 = nI (g * 10) from pk_mul g 10, nI_add]
        rw [show (48 : Int32) = nI 48 from rfl, pk_sub (by omega)]
        congr 1
        omega
      refine ⟨by omega, a2, a3, fun _ => a4 (by omega), fun t ht => ?_, fun t ht => ⟨(a6 t ht).1, ?_, (a6 t ht).2.2⟩, fun h => by omega, fun h => by omega, fun t ht hf => ⟨?_, (a9 t ht hf).2⟩, fun _ _ => by omega⟩
      · show D.1 t = 0 ↔ _
        rw [a5 t ht]
        exact ⟨fun z => z.elim Or.inl (fun z => by omega), fun z => z.elim Or.inl (fun z => by omega)⟩
      · show sIn 0 99 (upd D.2.1 cur (D.2.1 cur * 10 + c - 48) t)
        rw [e]
        by_cases z : t = cur
        · subst z
          rw [pk_us]
          exact in_n (h := 99) (by omega) (by omega)
        · rw [pk_un z]
          exact (a6 t ht).2.1
      · show upd D.2.1 cur (D.2.1 cur * 10 + c - 48) t = 0
        have z : t ≠ cur := fun z => by rw [z, a4 (by omega)] at hf; cases hf
        rw [pk_un z]
        exact (a9 t ht hf).1
  · rw [pNx_5] at hp
    exact mark _ (by omega) (by omega) hp
  · rw [pNx_6] at hp
    by_cases c1 : c < 48 ∨ 57 < c
    · rw [if_pos c1] at hp; cases hp
    · rw [if_neg c1] at hp
      cases hp
      obtain ⟨d, d1, d2, d3⟩ := dig_of c1
      have e : (0 : Int32) * 10 + c - 48 = nI d := by rw [show (0 : Int32) * 10 = 0 from rfl, Int32.zero_add]; exact d3
      refine ⟨by omega, a2, a3, fun _ => a4 (by omega), fun t ht => ?_, fun t ht => ⟨(a6 t ht).1, (a6 t ht).2.1, ?_⟩, fun h => by omega, fun _ => ?_, fun t ht hf => ⟨(a9 t ht hf).1, ?_⟩, fun _ _ => by omega⟩
      · show D.1 t = 0 ↔ _
        rw [a5 t ht]
        exact ⟨fun z => z.elim Or.inl (fun z => by omega), fun z => z.elim Or.inl (fun z => by omega)⟩
      · show upd D.2.2 cur (0 * 10 + c - 48) t = -6 ∨ sIn 0 99 (upd D.2.2 cur (0 * 10 + c - 48) t)
        rw [e]
        by_cases z : t = cur
        · subst z
          rw [pk_us]
          exact Or.inr (in_n (h := 99) (by omega) (by omega))
        · rw [pk_un z]
          exact (a6 t ht).2.2
      · show sIn 0 9 (upd D.2.2 cur (0 * 10 + c - 48) cur)
        rw [pk_us, e]
        exact in_n (h := 9) (by omega) d1
      · show upd D.2.2 cur (0 * 10 + c - 48) t = -6
        have z : t ≠ cur := fun z => by rw [z, a4 (by omega)] at hf; cases hf
        rw [pk_un z]
        exact (a9 t ht hf).2
  · rw [pNx_7] at hp
    by_cases c1 : c < 48 ∨ 57 < c
    · rw [if_pos c1] at hp
      exact mark _ (by omega) (by omega) hp
    · rw [if_neg c1] at hp
      cases hp
      obtain ⟨d, d1, d2, d3⟩ := dig_of c1
      obtain ⟨g, g1, g2⟩ := sIn_n (h := 9) (by omega) (a8 rfl)
      have e : D.2.2 cur * 10 + c - 48 = nI (g * 10 + d) := by
        rw [g2, d2, show nI g * 10 = nI (g * 10) from pk_mul g 10, nI_add]
        rw [show (48 : Int32) = nI 48 from rfl, pk_sub (by omega)]
        congr 1
        omega
      refine ⟨by omega, a2, a3, fun _ => a4 (by omega), fun t ht => ?_, fun t ht => ⟨(a6 t ht).1, (a6 t ht).2.1, ?_⟩, fun h => by omega, fun h => by omega, fun t ht hf => ⟨(a9 t ht hf).1, ?_⟩, fun _ _ => by omega⟩
      · show D.1 t = 0 ↔ _
        rw [a5 t ht]
        exact ⟨fun z => z.elim Or.inl (fun z => by omega), fun z => z.elim Or.inl (fun z => by omega)⟩
      · show upd D.2.2 cur (D.2.2 cur * 10 + c - 48) t = -6 ∨ sIn 0 99 (upd D.2.2 cur (D.2.2 cur * 10 + c - 48) t)
        rw [e]
        by_cases z : t = cur
        · subst z
          rw [pk_us]
          exact Or.inr (in_n (h := 99) (by omega) (by omega))
        · rw [pk_un z]
          exact (a6 t ht).2.2
      · show upd D.2.2 cur (D.2.2 cur * 10 + c - 48) t = -6
        have z : t ≠ cur := fun z => by rw [z, a4 (by omega)] at hf; cases hf
        rw [pk_un z]
        exact (a9 t ht hf).2
  · rw [pNx_8] at hp
    exact mark _ (by omega) (by omega) hp
theorem pI_run {f : Nat → Int32} : ∀ {i : Nat} {x : pSt}, pRun f i = some x → pI x.1 x.2.1 x.2.2.1 x.2.2.2
  | 0, x, h => by cases h; exact pI_0
  | i + 1, x, h => by
    unfold pRun at h
    cases hr : pRun f i with
    | none => rw [hr] at h; cases h
    | some y =>
      rw [hr] at h
      dsimp only at h
      unfold pGo at h
      cases hn : pNx y.1 y.2.1 y.2.2.1 (f i) with
      | none => rw [hn] at h; cases h
      | some p =>
        rw [hn] at h
        cases h
        exact pI_go (pI_run hr) hn
theorem pRun_s {f : Nat → Int32} {i : Nat} {x : pSt} (h : pRun f i = some x) : pRun f (i + 1) = pGo x (f i) := by
  show (match pRun f i with
    | none => none
    | some x => pGo x (f i)) = _
  rw [h]
theorem pRun_dn {f : Nat → Int32} {i : Nat} (h : pRun f i = none) : ∀ j, i ≤ j → pRun f j = none := by
  intro j hj
  induction hj with
  | refl => exact h
  | step _ ih =>
    show (match pRun f _ with
      | none => none
      | some x => pGo x (f _)) = none
    rw [ih]
/-- where the fault is -/
def pF (f : Nat → Int32) (N : Nat) (x : Int32) : Prop := (∃ i, i < N ∧ (∃ z, pRun f i = some z) ∧ pRun f (i + 1) = none ∧ x = nI i) ∨ (∃ z, pRun f N = some z ∧ x = if z.1 = 4 ∨ z.1 = 5 ∨ z.1 = 7 ∨ z.1 = 8 then -6 else nI N)
theorem pF_one {f : Nat → Int32} {N : Nat} {x x' : Int32} (h : pF f N x) (h' : pF f N x') : x = x' := by
  have key : ∀ i j, pRun f (i + 1) = none → (∃ z, pRun f j = some z) → j ≤ i := fun i j h1 ⟨z, h2⟩ => by
    by_cases c : j ≤ i
    · exact c
    · have := pRun_dn h1 j (by omega)
      rw [this] at h2
      cases h2
  rcases h with ⟨i, h1, h2, h3, rfl⟩ | ⟨z, h1, rfl⟩
  · rcases h' with ⟨i', h1', h2', h3', rfl⟩ | ⟨z', h1', rfl⟩
    · have a := key i i' h3 h2'
      have b := key i' i h3' h2
      rw [show i = i' by omega]
    · have a := key i N h3 ⟨z', h1'⟩
      omega
  · rcases h' with ⟨i', h1', h2', h3', rfl⟩ | ⟨z', h1', rfl⟩
    · have a := key i' N h3' ⟨z, h1⟩
      omega
    · rw [h1] at h1'
      cases h1'
      rfl
end ZPad
