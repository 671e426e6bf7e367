section ZBase
theorem zb_ok {α β : Type} {o : Option α} {a : α} {f : α → Option β} (h : o = some a) : zb o f = f a := by rw [h]; rfl
theorem zb2_ok {α β γ : Type} {o : Option (α × β)} {a : α} {b : β} {f : α → β → Option γ} (h : o = some (a, b)) : zb2 o f = f a b := by rw [h]; rfl
theorem zb_s {α β : Type} {a : α} {f : α → Option β} : zb (some a) f = f a := rfl
theorem zb2_s {α β γ : Type} {a : α} {b : β} {f : α → β → Option γ} : zb2 (some (a, b)) f = f a b := rfl
theorem zb3_s {α β γ δ : Type} {a : α} {b : β} {c : γ} {f : α → β → γ → Option δ} : zb3 (some (a, b, c)) f = f a b c := rfl
theorem zlj_u {α β : Type} {j : α} {f : α → β} : zlj j f = f j := rfl
theorem zlp_run {σ ρ : Type} {b : (σ → Option ρ) → σ → Option ρ} (s : Nat → σ) (n : Nat) {e : Option ρ} {F : Nat} (hF : n < F) (hs : ∀ i, i < n → ∀ rc, b rc (s i) = rc (s (i + 1))) (he : ∀ rc, b rc (s n) = e) : zlp b F (s 0) = e := by
  have key : ∀ k i : Nat, i + k = n → ∀ F : Nat, k < F → zlp b F (s i) = e := by
    intro k
    induction k with
    | zero =>
      intro i hi F hF
      obtain ⟨F, rfl⟩ : ∃ F', F = F' + 1 := ⟨F - 1, by omega⟩
      have : i = n := by omega
      subst this
      exact he _
    | succ k ih =>
      intro i hi F hF
      obtain ⟨F, rfl⟩ : ∃ F', F = F' + 1 := ⟨F - 1, by omega⟩
      show b (zlp b F) (s i) = e
      rw [hs i (by omega)]
      exact ih (i + 1) (by omega) F (by omega)
  exact key n 0 (by omega) F hF
/-- a loop by an invariant: what comes out is of a kind -/
theorem zlp_inv {σ ρ : Type} {b : (σ → Option ρ) → σ → Option ρ} (I : Nat → σ → Prop) (n : Nat) {E : Option ρ → Prop} {F : Nat} (hF : n < F) (hs : ∀ i, i < n → ∀ s, I i s → ∃ s', I (i + 1) s' ∧ ∀ rc, b rc s = rc s') (he : ∀ s, I n s → ∃ e, E e ∧ ∀ rc, b rc s = e) {s : σ} (h0 : I 0 s) : E (zlp b F s) := by
  have key : ∀ k i : Nat, i + k = n → ∀ (F : Nat) (s : σ), I i s → k < F → E (zlp b F s) := by
    intro k
    induction k with
    | zero =>
      intro i hi F s hI hF
      obtain ⟨F, rfl⟩ : ∃ F', F = F' + 1 := ⟨F - 1, by omega⟩
      have : i = n := by omega
      subst this
      obtain ⟨e, h1, h2⟩ := he s hI
      show E (b (zlp b F) s)
      rw [h2]
      exact h1
    | succ k ih =>
      intro i hi F s hI hF
      obtain ⟨F, rfl⟩ : ∃ F', F = F' + 1 := ⟨F - 1, by omega⟩
      obtain ⟨s', h1, h2⟩ := hs i (by omega) s hI
      show E (b (zlp b F) s)
      rw [h2]
      exact ih (i + 1) (by omega) F s' h1 (by omega)
  exact key n 0 (by omega) F s h0 hF
/-- a loop within a loop: the end is the same whatever comes behind -/
theorem zlp_fam {γ σ ρ τ : Type} {b : γ → (σ → Option ρ) → σ → Option ρ} (I : Nat → σ → Prop) (n : Nat) {F : Nat} (hF : n < F) (hs : ∀ i, i < n → ∀ s, I i s → ∃ s', I (i + 1) s' ∧ ∀ g rc, b g rc s = rc s') {e : γ → τ → Option ρ} {P : τ → Prop} (he : ∀ s, I n s → ∃ x, P x ∧ ∀ g rc, b g rc s = e g x) {s : σ} (h0 : I 0 s) : ∃ x, P x ∧ ∀ g, zlp (b g) F s = e g x := by
  have key : ∀ k i : Nat, i + k = n → ∀ (F : Nat) (s : σ), I i s → k < F → ∃ x, P x ∧ ∀ g, zlp (b g) F s = e g x := by
    intro k
    induction k with
    | zero =>
      intro i hi F s hI hF
      obtain ⟨F, rfl⟩ : ∃ F', F = F' + 1 := ⟨F - 1, by omega⟩
      have : i = n := by omega
      subst this
      obtain ⟨x, h1, h2⟩ := he s hI
      exact ⟨x, h1, fun g => h2 g _⟩
    | succ k ih =>
      intro i hi F s hI hF
      obtain ⟨F, rfl⟩ : ∃ F', F = F' + 1 := ⟨F - 1, by omega⟩
      obtain ⟨s', h1, h2⟩ := hs i (by omega) s hI
      obtain ⟨x, h3, h4⟩ := ih (i + 1) (by omega) F s' h1 (by omega)
      exact ⟨x, h3, fun g => (h2 g _).trans (h4 g)⟩
  exact key n 0 (by omega) F s h0 hF
theorem zfu_gt {n : Nat} (h : n < 100000) : n < zfu := h
/-! numbers -/
theorem zq_in {α : Type} {k N : Nat} {x : Option α} (h : k < N) (hN : N < 2147483648) : zq (vp_in (nI k) N) x = x := zq_pos (vp_in_nI h hN)
theorem zq_ne {α : Type} {k : Nat} {x : Option α} (h : 0 < k) (hN : k < 2147483648) : zq (¬ nI k = 0) x = x := zq_pos (nI_ne0 h hN)
theorem zq_b {α : Type} {v : Int32} {x : Option α} (h : v = 0 ∨ v = 1) : zq (v = 0 ∨ v = 1) x = x := zq_pos h
theorem zn_m2 (a : Nat) : nI a * 2 = nI (a * 2) := pk_mul a 2
theorem zn_m3 (a : Nat) : nI a * 3 = nI (a * 3) := pk_mul a 3
theorem zn_m4 (a : Nat) : nI a * 4 = nI (a * 4) := pk_mul a 4
theorem zn_2m (a : Nat) : 2 * nI a = nI (2 * a) := pk_mul 2 a
theorem zn_3m (a : Nat) : 3 * nI a = nI (3 * a) := pk_mul 3 a
theorem zn_4m (a : Nat) : 4 * nI a = nI (4 * a) := pk_mul 4 a
theorem zn_a4 (a : Nat) : 4 + nI a = nI (4 + a) := nI_add 4 a
theorem zn_4a (a : Nat) : nI a + 4 = nI (a + 4) := nI_add a 4
theorem zn_s1 {a : Nat} (h : 1 ≤ a) : nI a - 1 = nI (a - 1) := pk_sub h
theorem zn_lt {a b : Nat} (ha : a < 2147483648) (hb : b < 2147483648) : (nI a < nI b) = (a < b) := propext (nI_ltI ha hb)
theorem zn_eq {a b : Nat} (ha : a < 2147483648) (hb : b < 2147483648) : (nI a = nI b) = (a = b) := propext (nI_eq ha hb)
theorem zn_cl {a : Nat} (h : a < 2147483648) : (nI a).toNatClampNeg = a := nI_clamp h
theorem zn_lt2 {a : Nat} (ha : a < 2147483648) : (nI a < 2) = (a < 2) := zn_lt (b := 2) ha (by decide)
theorem zn_lt3 {a : Nat} (ha : a < 2147483648) : (nI a < 3) = (a < 3) := zn_lt (b := 3) ha (by decide)
theorem zn_lt4 {a : Nat} (ha : a < 2147483648) : (nI a < 4) = (a < 4) := zn_lt (b := 4) ha (by decide)
theorem zn_ge0 {a : Nat} (ha : a < 2147483648) : (nI a < 0) = False := by
  rw [show (0 : Int32) = nI 0 from rfl, zn_lt ha (by omega)]
  simp
theorem zn_cl0 : (0 : Int32).toNatClampNeg = 0 := rfl
theorem zn_cl1 : (1 : Int32).toNatClampNeg = 1 := rfl
def sSum (f : Nat → Int32) : Nat → Int32
  | 0 => 0
  | n + 1 => sSum f n + f n
theorem sSum_congr {f g : Nat → Int32} : ∀ {n : Nat}, (∀ i, i < n → f i = g i) → sSum f n = sSum g n
  | 0, _ => rfl
  | n + 1, h => by
    show sSum f n + f n = sSum g n + g n
    rw [sSum_congr (n := n) (fun i hi => h i (by omega)), h n (by omega)]
theorem sSum_add0 (c : Int32) (f : Nat → Int32) : c + sSum f 0 = c := by
  show c + 0 = c
  simp
end ZBase
