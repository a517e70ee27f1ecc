/-! THE LOOP; WHAT IS STILL OWED -/
theorem lw_H_to {L : Nat} {xs : Nat → Int32} {dep i : Nat} {M : im_M} {P Q : Option Value → im_M → Nat → Prop} (h : lw_H L xs dep P i M) (k : ∀ v M t, P v M t → Q v M t) : lw_H L xs dep Q i M := by
  intro Lc hl
  obtain ⟨n, v, M', t, e, p⟩ := h Lc hl
  exact ⟨n, v, M', t, e, k v M' t p⟩
theorem lw_loop (h4 : owed 4) (h10 : owed 10) (h14 : owed 14) (h17 : owed 17) (h19 : owed 19) (h20 : owed 20) {L : Nat} {xs : Nat → Int32} {dep : Nat} (hL : L ≤ 2560) : ∀ (m i T : Nat) (w : Bool) (M : im_M), L < i + 5 * m + 5 → i ≤ 2560 → T + m ≤ 512 → lw_S w M → RL w M → lw_H L xs dep (fun v M' t => v = some (.int 1) ∧ (∃ w', lw_S w' M') ∧ T + t ≤ 512) i M := by
  intro m
  induction m with
  | zero =>
    intro i T w M h1 h2 h3 hM q Lc hl
    exact lw_exit hM.1 hL (by omega) h2 hl ⟨rfl, ⟨w, hM⟩, by omega⟩
  | succ m ih =>
    intro i T w M h1 h2 h3 hM q
    by_cases h : L < i + 5
    · intro Lc hl
      exact lw_exit hM.1 hL h h2 hl ⟨rfl, ⟨w, hM⟩, by omega⟩
    · refine lw_any h4 h10 h14 h17 h19 h20 hL (by omega) hM q ?_ ?_
      · intro t ht w1 M1 hM1 q1
        refine lw_H_to (ih (i + 5) (T + t) w1 M1 (by omega) (by omega) (by omega) hM1 q1) ?_
        rintro v M' t2 ⟨a1, a2, a3⟩
        exact ⟨a1, a2, by omega⟩
      · intro w1 M1 hM1 q1
        exact ih (i + 5) T w1 M1 (by omega) (by omega) (by omega) hM1 q1
theorem lw_end (h4 : owed 4) (h10 : owed 10) (h14 : owed 14) (h17 : owed 17) (h19 : owed 19) (h20 : owed 20) : ∀ (L : Nat) (xs : Nat → Int32), L ≤ 2560 → lw_Run L xs := by
  intro L xs hL
  have h := lw_pre (L := L) (xs := xs) (dep := 27) (P := fun v M' t => v = some (.int 1) ∧ (∃ w', lw_S w' M') ∧ 0 + t ≤ 512) (fun Lc hl => lw_loop h4 h10 h14 h17 h19 h20 (dep := 0) hL 512 0 0 false mm_341 (by omega) (by omega) (by omega) lw_S0 RL_start Lc hl)
  obtain ⟨n, v, M', t, h1, rfl, ⟨w', hM⟩, ht⟩ := h
  refine ⟨n, _, _, _, h1, by omega, ?_, ?_⟩
  · rw [hM.1]
    omega
  · have := lw_tot (L := L) (xs := xs) hM
    omega
