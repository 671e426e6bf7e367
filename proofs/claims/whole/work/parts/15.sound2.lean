section ZSound2
set_option maxHeartbeats 8000000 in
/-- f steps of the plain machine are steps of the machine -/
theorem zsound (l : Launch) : ∀ f : Nat, zSnd l f := by
  intro f
  induction f with
  | zero =>
    intro p e R s m args below meth c Q S G y n0 s0 Qa hy F hcap hfin H locs cells slots ls pc lv st sh M hX
    exact absurd hX (by simp [zX])
  | succ f ih =>
    intro p e R s m args below meth c Q S G y n0 s0 Qa hy F hcap hfin H locs cells slots ls pc lv st sh M hX hH hS hl hc0 hs0
    rw [zX] at hX
    cases hg : zgo1 S y (pc, lv, st, sh, M) with
    | none => rw [hg] at hX; exact hX.elim
    | some x =>
      rw [hg] at hX
      obtain ⟨en, hlk, hst⟩ : ∃ en : zN, zlk pc (zcode y) = some en ∧ zstep S en lv st sh M = some x := by
        unfold zgo1 at hg
        dsimp only at hg
        split at hg
        · cases hg
        · rename_i en hen
          exact ⟨en, hen, hg⟩
      obtain ⟨⟨q, hq, hmem⟩, hpc⟩ := zlk_mem hlk
      have hchk : zchk y en = true := by
        have h := zmchk_ok y hy
        unfold zmchk at h
        rw [Bool.and_eq_true] at h
        exact List.all_eq_true.mp (List.all_eq_true.mp h.1 q hq) en hmem
      obtain ⟨pc1, ins, len, v, a, b, k, nrm, ts⟩ := en
      dsimp only at hpc
      subst hpc
      unfold zchk at hchk
      simp only [Bool.and_eq_true, decide_eq_true_eq] at hchk
      obtain ⟨⟨hd, hlen⟩, hsp⟩ := hchk
      have hsp : zspec y (pc1, ins, len, v, a, b, k, [], ts) = true := hsp
      have hst : zstep S (pc1, ins, len, v, a, b, k, [], ts) (zpick nrm lv) st sh M = some x := hst
      have hl := zpick_has nrm hl
      generalize zpick nrm lv = lv1 at hst hl
      have key : ∀ (t : zC) (cells1 slots1 : Nat), zX S f y t Qa → zKk p l e R s m args below meth c cells slots Q G y sh t := by
        intro t cells1 slots1 ht
        obtain ⟨pc2, lv2, st2, sh2, M2⟩ := t
        intro H' locs' ls' cells' slots' hc' hs' hH' hS' hl'
        exact ih p e R s m args below meth c Q S G y n0 s0 Qa hy F hcap hfin H' locs' cells' slots' ls' pc2 lv2 st2 sh2 M2 ht hH' hS' hl' (by omega) (by omega)
      obtain ⟨ps, t' | ⟨P, tg, pc', lv', st', sh', M'⟩ | ⟨y', as, pc', lv', st', sh', M'⟩ | ⟨r, sh', M'⟩⟩ := x
      · obtain ⟨pc', lv', st', sh', M'⟩ := t'
        obtain ⟨r, sh2, M2, h1, h2⟩ := zX_ex f y _ Qa hX.2
        have hcc := hcap r sh2 M2 h1
        have h3 : sh'.length ≤ sh2.length := h2.1
        have h4 : zsl sh' ≤ zsl sh2 := h2.2
        exact zone F hd hlen hsp hst hX.1 hH hS hl (by omega) (by omega) (key _ 0 0 hX.2)
      · have hbr : (∃ cd n, ins = .ifCond cd n) ∨ (∃ cd n, ins = .if_icmp cd n) := zbr_ins hst
        have e1 : sh' = sh := (zbr_sh hst).1
        rcases hbr with ⟨cd, n, rfl⟩ | ⟨cd, n, rfl⟩
        · exact zo_ifCond F hd hlen hsp hst hH hS hl (fun h => key _ 0 0 (hX.2.1 h)) (fun h => key _ 0 0 (hX.2.2 h))
        · exact zo_if_icmp F hd hlen hsp hst hH hS hl (fun h => key _ 0 0 (hX.2.1 h)) (fun h => key _ 0 0 (hX.2.2 h))
      · obtain ⟨r, sh2, M2, h1, h2⟩ := zX_ex f y' _ _ hX.2
        obtain ⟨r3, sh3, M3, h3, h4⟩ := zX_ex f y _ Qa h1.2
        have hcc := hcap r3 sh3 M3 h3
        have h5 : sh2.length ≤ sh3.length := h4.1
        have h6 : zsl sh2 ≤ zsl sh3 := h4.2
        have h7 := h1.1
        obtain ⟨rfl, rfl, rfl, rfl, hlt, hc9, hrun⟩ := zcall_run (l := l) (e := e) (below := below) (H := H) (locs := locs) (cells := cells) (slots := slots) (ls := ls) F hd hlen hsp hst
        have hM := zmet ih (G := G) hlt hX.2 hc9 (fun r sh' M' h => h.1)
        refine zcall_go (hrun hM hH hS hl (by omega) (by omega)) hS fun r sh4 M4 H1 locs1 hq4 hH4 hS4 => ?_
        exact ih p e R s m args below meth c Q S G y n0 s0 Qa hy F hcap hfin H1 locs1 _ _ ls _ _ _ sh4 M4 hq4.2 hH4 hS4 hl (by have := hq4.1.1; omega) (by have := hq4.1.2; omega)
      · obtain ⟨e1, e2, e3, hr⟩ := zret hd hlen hsp hst hX.1
        subst e1
        subst e2
        subst e3
        have e4 : (r.toList).map (ztr G) = (r.map (ztr G)).toList := by cases r <;> rfl
        rw [e4]
        exact hfin r sh' M' H locs cells slots ls pc1 hX.2 hH hS hc0 hs0 hr
end ZSound2
