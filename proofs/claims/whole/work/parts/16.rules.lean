section ZRules
def zh : List zS := [(12, 9, [.ref 2, .ref 20, .ref 57, .ref 58, .ref 63, .ref 70, .ref 76, .ref 78, .ref 85]), (9, 4, [.ref 3, .ref 10, .ref 18, .int 0]), (4, 7, [.int 0, .ref 4, .ref 5, .ref 6, .ref 7, .ref 8, .ref 9]), (0, 4, []), (0, 12, []), (0, 8, []), (0, 8, []), (0, 8, []), (0, 2, []), (6, 8, [.int 0, .ref 11, .ref 12, .ref 13, .ref 14, .ref 15, .ref 16, .ref 17]), (0, 5, []), (0, 10, []), (0, 5, []), (0, 5, []), (0, 20, []), (0, 20, []), (0, 20, []), (8, 2, [.int 0, .ref 19]), (0, 30, []), (2, 2, [.ref 21, .ref 39]), (9, 4, [.ref 22, .ref 29, .ref 37, .int 0]), (4, 7, [.int 0, .ref 23, .ref 24, .ref 25, .ref 26, .ref 27, .ref 28]), (0, 4, []), (0, 12, []), (0, 8, []), (0, 8, []), (0, 8, []), (0, 2, []), (6, 8, [.int 0, .ref 30, .ref 31, .ref 32, .ref 33, .ref 34, .ref 35, .ref 36]), (0, 5, []), (0, 10, []), (0, 5, []), (0, 5, []), (0, 20, []), (0, 20, []), (0, 20, []), (8, 2, [.int 0, .ref 38]), (0, 30, []), (9, 4, [.ref 40, .ref 47, .ref 55, .int 0]), (4, 7, [.int 0, .ref 41, .ref 42, .ref 43, .ref 44, .ref 45, .ref 46]), (0, 4, []), (0, 12, []), (0, 8, []), (0, 8, []), (0, 8, []), (0, 2, []), (6, 8, [.int 0, .ref 48, .ref 49, .ref 50, .ref 51, .ref 52, .ref 53, .ref 54]), (0, 5, []), (0, 10, []), (0, 5, []), (0, 5, []), (0, 20, []), (0, 20, []), (0, 20, []), (8, 2, [.int 0, .ref 56]), (0, 30, []), (1, 2, []), (5, 7, [.int 0, .int 0, .int 0, .ref 59, .ref 60, .ref 61, .ref 62]), (0, 40, []), (0, 4, []), (0, 4, []), (0, 4, []), (4, 7, [.int 0, .ref 64, .ref 65, .ref 66, .ref 67, .ref 68, .ref 69]), (0, 4, []), (0, 12, []), (0, 8, []), (0, 8, []), (0, 8, []), (0, 2, []), (10, 7, [.ref 63, .ref 10, .ref 71, .ref 72, .ref 73, .ref 74, .ref 75]), (0, 120, []), (0, 120, []), (0, 4, []), (0, 8, []), (0, 2, []), (7, 4, [.ref 63, .ref 10, .ref 70, .ref 77]), (0, 5, []), (3, 12, [.int 0, .int 0, .ref 79, .ref 63, .ref 70, .int 0, .int 0, .ref 80, .ref 81, .ref 82, .ref 83, .ref 84]), (0, 2, []), (0, 6561, []), (0, 6561, []), (1, 162, []), (0, 162, []), (0, 13122, []), (11, 5, [.int 0, .int 0, .int 0, .ref 3, .ref 10]), (13, 34, [.ref 87, .ref 88, .ref 89, .ref 90, .ref 91, .ref 92, .int 0, .ref 93, .ref 94, .ref 95, .ref 96, .ref 97, .ref 98, .ref 99, .int 0, .ref 100, .int 0, .int 0, .int 0, .int 0, .ref 101, .ref 102, .ref 103, .ref 104, .int 0, .int 0, .int 0, .int 0, .ref 105, .int 0, .ref 106, .ref 107, .int 0, .int 0]), (0, 8, []), (0, 8, []), (0, 8, []), (0, 2, []), (0, 12, []), (0, 4, []), (0, 5, []), (0, 10, []), (0, 5, []), (0, 5, []), (0, 20, []), (0, 20, []), (0, 20, []), (0, 40, []), (0, 13122, []), (0, 162, []), (1, 162, []), (0, 13122, []), (0, 30, []), (0, 400, []), (1, 2, [])]
def zgo (S : zSc) (y : Nat) : Nat → zC → Option (List Prop × zC)
  | 0, s => some ([], s)
  | n + 1, s => match zgo1 S y s with
    | some (ps, .inl s') => match zgo S y n s' with
      | some (qs, t) => some (ps ++ qs, t)
      | none => none
    | _ => none
/-- the method y, from s on, ends with the answer rv and the numbers M' -/
def zF (S : zSc) (y : Nat) (s : zC) (rv : Option Value) (M' : zM) : Prop := ∃ f, zX S f y s (fun r sh M => r = rv ∧ sh = zh ∧ M = M')
theorem zX_mono {S : zSc} : ∀ (f y : Nat) (s : zC) (Q Q' : Option Value → List zS → zM → Prop), (∀ r sh M, Q r sh M → Q' r sh M) → zX S f y s Q → zX S f y s Q' := by
  intro f
  induction f with
  | zero => intro y s Q Q' _ h; exact absurd h (by simp [zX])
  | succ f ih =>
    intro y s Q Q' hQ h
    rw [zX] at h ⊢
    cases hg : zgo1 S y s with
    | none => rw [hg] at h; exact h.elim
    | some x =>
      rw [hg] at h
      obtain ⟨ps, t' | ⟨P, tg, pc', lv', st', sh', M'⟩ | ⟨y', as, pc', lv', st', sh', M'⟩ | ⟨r, sh', M'⟩⟩ := x
      · exact ⟨h.1, ih _ _ _ _ hQ h.2⟩
      · exact ⟨h.1, fun hp => ih _ _ _ _ hQ (h.2.1 hp), fun hp => ih _ _ _ _ hQ (h.2.2 hp)⟩
      · exact ⟨h.1, ih _ _ _ _ (fun r sh M hq => ⟨hq.1, ih _ _ _ _ hQ hq.2⟩) h.2⟩
      · exact ⟨h.1, hQ _ _ _ h.2⟩
theorem zX_up1 {S : zSc} : ∀ (f y : Nat) (s : zC) (Q : Option Value → List zS → zM → Prop), zX S f y s Q → zX S (f + 1) y s Q := by
  intro f
  induction f with
  | zero => intro y s Q h; exact absurd h (by simp [zX])
  | succ f ih =>
    intro y s Q h
    rw [zX] at h ⊢
    cases hg : zgo1 S y s with
    | none => rw [hg] at h; exact h.elim
    | some x =>
      rw [hg] at h
      obtain ⟨ps, t' | ⟨P, tg, pc', lv', st', sh', M'⟩ | ⟨y', as, pc', lv', st', sh', M'⟩ | ⟨r, sh', M'⟩⟩ := x
      · exact ⟨h.1, ih _ _ _ h.2⟩
      · exact ⟨h.1, fun hp => ih _ _ _ (h.2.1 hp), fun hp => ih _ _ _ (h.2.2 hp)⟩
      · exact ⟨h.1, zX_mono _ _ _ _ _ (fun r sh M hq => ⟨hq.1, ih _ _ _ hq.2⟩) (ih _ _ _ h.2)⟩
      · exact h
theorem zX_up {S : zSc} {f g y : Nat} {s : zC} {Q : Option Value → List zS → zM → Prop} (hfg : f ≤ g) (h : zX S f y s Q) : zX S g y s Q := by
  induction hfg with
  | refl => exact h
  | step _ ih => exact zX_up1 _ _ _ _ ih
theorem zF_same {S : zSc} {y : Nat} {s s' : zC} {rv : Option Value} {M' : zM} (hs : zgo1 S y s = zgo1 S y s') (h : zF S y s' rv M') : zF S y s rv M' := by
  obtain ⟨f, h⟩ := h
  cases f with
  | zero => exact absurd h (by simp [zX])
  | succ f =>
    refine ⟨f + 1, ?_⟩
    rw [zX] at h ⊢
    rw [hs]
    exact h
theorem zF_as {S : zSc} {y : Nat} {s s' : zC} {rv : Option Value} {M' : zM} (h : zF S y s' rv M') (hs : zgo1 S y s = zgo1 S y s') : zF S y s rv M' := zF_same hs h
theorem zF_one {S : zSc} {y : Nat} {s s' : zC} {ps : List Prop} {rv : Option Value} {M' : zM} (hs : zgo1 S y s = some (ps, .inl s')) (hps : zall ps) (h : zF S y s' rv M') : zF S y s rv M' := by
  obtain ⟨f, h⟩ := h
  refine ⟨f + 1, ?_⟩
  rw [zX, hs]
  exact ⟨hps, h⟩
theorem zall_app : ∀ {a b : List Prop}, zall (a ++ b) → zall a ∧ zall b
  | [], _, h => ⟨trivial, h⟩
  | _ :: a, _, h => ⟨⟨h.1, (zall_app (a := a) h.2).1⟩, (zall_app (a := a) h.2).2⟩
theorem zF_go {S : zSc} {y n : Nat} {s s' : zC} {ps : List Prop} {rv : Option Value} {M' : zM} (hs : zgo S y n s = some (ps, s')) (hps : zall ps) (h : zF S y s' rv M') : zF S y s rv M' := by
  induction n generalizing s ps with
  | zero =>
    cases hs
    exact h
  | succ n ih =>
    unfold zgo at hs
    cases hg : zgo1 S y s with
    | none => rw [hg] at hs; cases hs
    | some x =>
      rw [hg] at hs
      obtain ⟨qs, t' | x⟩ := x
      · dsimp only at hs
        cases hg2 : zgo S y n t' with
        | none => rw [hg2] at hs; cases hs
        | some x2 =>
          rw [hg2] at hs
          obtain ⟨qs2, t2⟩ := x2
          cases hs
          obtain ⟨h1, h2⟩ := zall_app hps
          exact zF_one hg h1 (ih hg2 h2)
      · cases hs
theorem zF_br {S : zSc} {y t : Nat} {s : zC} {P : Prop} {u : zC} {rv : Option Value} {M' : zM} (hs : zgo1 S y s = some ([], .inr (.inl (P, t, u)))) (h1 : P → zF S y (t, u.2) rv M') (h2 : ¬ P → zF S y u rv M') : zF S y s rv M' := by
  obtain ⟨pc, lv, st, sh, M⟩ := u
  by_cases hP : P
  · obtain ⟨f, h⟩ := h1 hP
    refine ⟨f + 1, ?_⟩
    rw [zX, hs]
    exact ⟨trivial, fun _ => h, fun q => absurd hP q⟩
  · obtain ⟨f, h⟩ := h2 hP
    refine ⟨f + 1, ?_⟩
    rw [zX, hs]
    exact ⟨trivial, fun q => absurd q hP, fun _ => h⟩
section ZBr
variable {S : zSc} {y t : Nat} {s : zC} {x w : Int32} {u : zC} {rv : Option Value} {M' : zM}
theorem zF_eq (hs : zgo1 S y s = some ([], .inr (.inl (x = w, t, u)))) (h1 : x = w → zF S y (t, u.2) rv M') (h2 : ¬ x = w → zF S y u rv M') : zF S y s rv M' := zF_br hs h1 h2
theorem zF_ne (hs : zgo1 S y s = some ([], .inr (.inl (¬ x = w, t, u)))) (h1 : ¬ x = w → zF S y (t, u.2) rv M') (h2 : x = w → zF S y u rv M') : zF S y s rv M' := zF_br hs h1 (fun h => h2 (Classical.not_not.mp h))
theorem zF_lt (hs : zgo1 S y s = some ([], .inr (.inl (x < w, t, u)))) (h1 : x < w → zF S y (t, u.2) rv M') (h2 : ¬ x < w → zF S y u rv M') : zF S y s rv M' := zF_br hs h1 h2
theorem zF_ge (hs : zgo1 S y s = some ([], .inr (.inl (w ≤ x, t, u)))) (h1 : ¬ x < w → zF S y (t, u.2) rv M') (h2 : x < w → zF S y u rv M') : zF S y s rv M' := zF_br hs (fun h => h1 (Int32.not_lt.mpr h)) (fun h => h2 (Int32.not_le.mp h))
theorem zF_gt (hs : zgo1 S y s = some ([], .inr (.inl (w < x, t, u)))) (h1 : w < x → zF S y (t, u.2) rv M') (h2 : ¬ w < x → zF S y u rv M') : zF S y s rv M' := zF_br hs h1 h2
theorem zF_le (hs : zgo1 S y s = some ([], .inr (.inl (x ≤ w, t, u)))) (h1 : ¬ w < x → zF S y (t, u.2) rv M') (h2 : w < x → zF S y u rv M') : zF S y s rv M' := zF_br hs (fun h => h1 (Int32.not_lt.mpr h)) (fun h => h2 (Int32.not_le.mp h))
end ZBr
theorem zF_ret {S : zSc} {y : Nat} {s : zC} {ps : List Prop} {rv : Option Value} {M' : zM} (hs : zgo1 S y s = some (ps, .inr (.inr (.inr (rv, zh, M'))))) (hps : zall ps) : zF S y s rv M' := by
  refine ⟨1, ?_⟩
  rw [zX, hs]
  exact ⟨hps, rfl, rfl, rfl⟩
theorem zF_call {S : zSc} {y y' : Nat} {s : zC} {as : List Value} {u : zC} {r1 rv : Option Value} {M1 M' : zM} (hs : zgo1 S y s = some ([], .inr (.inr (.inl (y', as, u))))) (hm : zmc y' = 0 ∧ zms y' = 0) {pc : Nat} {lv : zL} {st : List Value} {M : zM} (hu : u = (pc, lv, st, zh, M)) (h1 : zF S y' (0, lv_args 0 as, [], zh, M) r1 M1) (h2 : zF S y (pc, lv, r1.toList ++ st, zh, M1) rv M') : zF S y s rv M' := by
  subst hu
  obtain ⟨f1, h1⟩ := h1
  obtain ⟨f2, h2⟩ := h2
  refine ⟨max f1 f2 + 1, ?_⟩
  rw [zX, hs]
  refine ⟨trivial, zX_up (Nat.le_max_left f1 f2) (zX_mono _ _ _ _ _ (fun r sh M hq => ?_) h1)⟩
  obtain ⟨rfl, rfl, rfl⟩ := hq
  exact ⟨⟨by rw [hm.1]; rfl, by rw [hm.2]; rfl⟩, zX_up (Nat.le_max_right f1 f2) h2⟩
theorem zF_sw {S : zSc} {y t T : Nat} {s : zC} {lv : zL} {st : List Value} {M : zM} {rv : Option Value} {M' : zM} (hs : zgo1 S y s = some ([], .inl (T, lv, st, zh, M))) (ht : T = t) (h : zF S y (t, lv, st, zh, M) rv M') : zF S y s rv M' := by
  subst ht
  exact zF_one hs trivial h
theorem ztab_d {lo hi : Int} {d : Nat} {ts : List Nat} {x : Int32} (h : ∀ j, j < ts.length → ts.getD j d = d ∨ ¬ x.toInt = lo + (j : Int)) : ztab lo hi d ts x = d := by
  unfold ztab
  split
  · rfl
  · rename_i hn
    by_cases hj : (x.toInt - lo).toNat < ts.length
    · rcases h _ hj with q | q
      · exact q
      · exact absurd (by omega) q
    · rw [List.getD_eq_getElem?_getD, List.getElem?_eq_none (by omega)]
      rfl
/-! the plain functions -/
def zb {α β : Type} (o : Option α) (f : α → Option β) : Option β := match o with
  | some a => f a
  | none => none
def zb2 {α β γ : Type} (o : Option (α × β)) (f : α → β → Option γ) : Option γ := match o with
  | some (a, b) => f a b
  | none => none
def zb3 {α β γ δ : Type} (o : Option (α × β × γ)) (f : α → β → γ → Option δ) : Option δ := match o with
  | some (a, b, c) => f a b c
  | none => none
def zb4 {α β γ δ ε : Type} (o : Option (α × β × γ × δ)) (f : α → β → γ → δ → Option ε) : Option ε := match o with
  | some (a, b, c, d) => f a b c d
  | none => none
theorem zb_some {α β : Type} {o : Option α} {f : α → Option β} {r : β} (h : zb o f = some r) : ∃ a, o = some a ∧ f a = some r := by
  cases o with
  | none => cases h
  | some a => exact ⟨a, rfl, h⟩
theorem zb2_some {α β γ : Type} {o : Option (α × β)} {f : α → β → Option γ} {r : γ} (h : zb2 o f = some r) : ∃ a b, o = some (a, b) ∧ f a b = some r := by
  cases o with
  | none => cases h
  | some a => exact ⟨a.1, a.2, rfl, h⟩
theorem zb3_some {α β γ δ : Type} {o : Option (α × β × γ)} {f : α → β → γ → Option δ} {r : δ} (h : zb3 o f = some r) : ∃ a b c, o = some (a, b, c) ∧ f a b c = some r := by
  cases o with
  | none => cases h
  | some a => exact ⟨a.1, a.2.1, a.2.2, rfl, h⟩
theorem zb4_some {α β γ δ ε : Type} {o : Option (α × β × γ × δ)} {f : α → β → γ → δ → Option ε} {r : ε} (h : zb4 o f = some r) : ∃ a b c d, o = some (a, b, c, d) ∧ f a b c d = some r := by
  cases o with
  | none => cases h
  | some a => exact ⟨a.1, a.2.1, a.2.2.1, a.2.2.2, rfl, h⟩
noncomputable def zq {α : Type} (P : Prop) (k : Option α) : Option α := @ite _ P (Classical.propDecidable P) k none
theorem zq_pos {α : Type} {P : Prop} {k : Option α} (h : P) : zq P k = k := by unfold zq; exact if_pos h
theorem zq_some {α : Type} {P : Prop} {k : Option α} {r : α} (h : zq P k = some r) : P ∧ k = some r := by
  unfold zq at h
  by_cases hP : P
  · rw [if_pos hP] at h
    exact ⟨hP, h⟩
  · rw [if_neg hP] at h
    cases h
def zlj {α β : Type} (j : α) (f : α → β) : β := f j
theorem zlj_e {α β : Type} {j : α} {f : α → Option β} {r : β} {g : Prop} (h : zlj j f = some r) (p : α → Prop) (hj : p j) (hf : ∀ k, p k → f k = some r → g) : g := hf j hj h
def zfu : Nat := 100000
def zlp {σ ρ : Type} (b : (σ → Option ρ) → σ → Option ρ) : Nat → σ → Option ρ
  | 0, _ => none
  | n + 1, s => b (zlp b n) s
theorem zlp_ind {σ ρ : Type} {b : (σ → Option ρ) → σ → Option ρ} {P : σ → ρ → Prop} (hb : ∀ rc : σ → Option ρ, (∀ a r, rc a = some r → P a r) → ∀ a r, b rc a = some r → P a r) : ∀ (n : Nat) (a : σ) (r : ρ), zlp b n a = some r → P a r
  | 0, _, _, h => by cases h
  | n + 1, a, r, h => hb (zlp b n) (zlp_ind hb n) a r h
end ZRules
