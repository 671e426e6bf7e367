section ZPure
theorem zI_0 : zI zM0 := by
  refine ⟨0, 0, 0, 0, zM0, ⟨⟨by omega, by omega, fun t h => absurd h (by omega), fun s t _ h => absurd h (by omega), fun j _ h => absurd rfl h, fun j _ => (by decide : (0 : Int32) ≤ 0)⟩, by omega, Or.inl rfl, fun t i h => absurd h (by omega), fun t i h => absurd h (by omega), fun _ => (⟨by decide, by decide⟩ : sIn 0 99 0), fun _ => (⟨by decide, by decide⟩ : sIn 0 3 0), fun _ => (⟨by decide, by decide⟩ : sIn 0 15 0), fun _ => (⟨by decide, by decide⟩ : sIn 0 99 0), fun _ => (⟨by decide, by decide⟩ : sIn 0 99 0), fun _ => (⟨by decide, by decide⟩ : sIn 0 2 0), fun _ => (⟨by decide, by decide⟩ : sIn 0 6 0), fun _ => (⟨by decide, by decide⟩ : sIn 0 3 0), fun _ h => absurd rfl h, fun _ h => absurd rfl h, fun _ => (⟨by decide, by decide⟩ : sIn 0 15 0)⟩, ?_, ?_, ?_, ?_, Or.inl ⟨rfl, rfl⟩, Or.inl ⟨rfl, rfl⟩, Or.inl rfl⟩
  · exact ⟨rfl, rfl, rfl, rfl, rfl, rfl, rfl, rfl, rfl, rfl, rfl, rfl, rfl, rfl, rfl, rfl, rfl, rfl⟩
  · exact ⟨⟨rfl, rfl, rfl, rfl, rfl, rfl, rfl, rfl, rfl, rfl, rfl, rfl, rfl, fun _ h => absurd rfl h, fun _ h => absurd rfl h⟩, rfl, rfl, rfl⟩
  · exact fun p _ j _ => rfl
  · exact ⟨⟨0, by omega, rfl, rfl, fun j h => absurd h (by omega)⟩, rfl⟩
theorem law_all {S : zSc} (hS : S.1 ≤ 3584) : ∃ M', qL_law S zM0 = some (1, M') := by
  unfold qL_law
  refine zlp_inv (fun j v => v.1 = nI (7 * j) ∧ zI v.2) (S.1 / 7) (E := fun e => ∃ M', e = some (1, M')) (show S.1 / 7 < 100000 by omega) (fun j hj v hv => ?_) (fun v hv => ?_) (s := (0, zM0)) ⟨rfl, zI_0⟩
  · obtain ⟨v1, M⟩ := v
    obtain ⟨h1, hI⟩ := hv
    obtain ⟨M', h2, h3⟩ := law_step (S := S) (j := j) (by omega) hS hI
    have h1 : v1 = nI (7 * j) := h1
    subst h1
    exact ⟨(nI (7 * j + 7), M'), ⟨by rw [show 7 * (j + 1) = 7 * j + 7 by omega], h2⟩, h3⟩
  · obtain ⟨v1, M⟩ := v
    obtain ⟨h1, hI⟩ := hv
    have h1 : v1 = nI (7 * (S.1 / 7)) := h1
    subst h1
    refine ⟨some (1, M), ⟨M, rfl⟩, fun rc => ?_⟩
    have hc : Int32.ofNat S.1 - 7 < nI (7 * (S.1 / 7)) := by
      by_cases h : S.1 < 7
      · rw [show 7 * (S.1 / 7) = 0 by omega]
        exact pk_sneg (a := S.1) (b := 7) (by omega) h
      · rw [show Int32.ofNat S.1 - 7 = nI (S.1 - 7) from pk_sub (a := S.1) (b := 7) (by omega)]
        exact nI_lt (by omega) (by omega)
    unfold qL_law_L18
    dsimp only
    rw [if_pos hc]
theorem zpure (S : zSc) (hS : S.1 ≤ 3584) : ∃ M' : zM, zF S 212 (18, [(3, .int 0), (2, .ref 86), (1, .ref 1), (0, .ref 0)], [], zh, zM0) (some (.int 1)) M' := by
  obtain ⟨M', h⟩ := law_all hS
  exact ⟨M', qL_law_ok h⟩
end ZPure
