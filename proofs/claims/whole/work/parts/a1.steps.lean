/-! A TURN OF THE LOOP, FOR THE CALLS THAT ARE THROUGH -/
section STEPS
variable {L : Nat} {xs : Nat → Int32} {dep i : Nat} {w : Bool} {M : im_M} {P : Option Value → im_M → Nat → Prop}
theorem x_0 (hL : L ≤ 2560) (hi : i + 5 ≤ L) (hM : lw_S w M) (q : RL w M) (hk : xs i &&& 31 = 0) (hn : ∀ t, t ≤ 1 → ∀ w1 M1, lw_S w1 M1 → RL w1 M1 → lw_H L xs dep (fun v2 M2 t2 => P v2 M2 (t + t2)) (i + 5) M1) : lw_H L xs dep P i M := by
  refine law_0 hL hi hM hk ?_ hn
  by_cases h : ¬ xs (i + 1) < 1 ∧ xs (i + 1) ≤ 8
  · exact wr_feed hM (c_feed q h.1 h.2)
  · exact wt_feed_0 hM (H_feed_no (dep := dep + 23) (fun z => h ⟨Int32.not_lt.mpr z.1, z.2⟩)) (n_feed q h)
theorem x_1 (hL : L ≤ 2560) (hi : i + 5 ≤ L) (hM : lw_S w M) (q : RL w M) (hk : xs i &&& 31 = 1) (hn : ∀ w1 M1, lw_S w1 M1 → RL w1 M1 → lw_H L xs dep P (i + 5) M1) : lw_H L xs dep P i M := law_1 hL hi hM hk (c_wipe q) hn
theorem x_2 (hL : L ≤ 2560) (hi : i + 5 ≤ L) (hM : lw_S w M) (q : RL w M) (hk : xs i &&& 31 = 2) (hn : ∀ t, t ≤ 1 → ∀ w1 M1, lw_S w1 M1 → RL w1 M1 → lw_H L xs dep (fun v2 M2 t2 => P v2 M2 (t + t2)) (i + 5) M1) : lw_H L xs dep P i M := by
  refine law_2 hL hi hM hk ?_ hn
  by_cases h : ¬ xs (i + 1) < 0 ∧ ¬ 3 < xs (i + 1) ∧ ¬ xs (i + 2) < 1 ∧ ¬ 32 < xs (i + 2) ∧ ¬ xs (i + 3) < 1 ∧ ¬ 32 < xs (i + 3) ∧ ¬ xs (i + 4) < 0 ∧ xs (i + 4) ≤ 32
  · obtain ⟨h1, h2, h3, h4, h5, h6, h7, h8⟩ := h
    exact wr_font hM (c_font q h1 h2 h3 h4 h5 h6 h7 h8)
  · exact wt_font_0 hM (H_font_no (dep := dep + 23) h) (n_font q h)
theorem x_3 (hL : L ≤ 2560) (hi : i + 5 ≤ L) (hM : lw_S w M) (q : RL w M) (hk : xs i &&& 31 = 3) (hn : ∀ t, t ≤ 1 → ∀ w1 M1, lw_S w1 M1 → RL w1 M1 → lw_H L xs dep (fun v2 M2 t2 => P v2 M2 (t + t2)) (i + 5) M1) : lw_H L xs dep P i M := by
  refine law_3 hL hi hM hk ?_ hn
  by_cases h : ¬ xs (i + 1) < 0 ∧ ¬ 3 < xs (i + 1) ∧ ¬ xs (i + 2) < 0 ∧ xs (i + 2) ≤ 255
  · obtain ⟨h1, h2, h3, h4⟩ := h
    obtain ⟨a, ea, ha⟩ := iz3 h1 (n := 3) (Int32.not_lt.mp h2) (by omega)
    obtain ⟨b, eb, hb⟩ := iz3 h3 (n := 255) h4 (by omega)
    have ec : (3 * xs (i + 1) + 1).toNatClampNeg = 3 * a + 1 := by
      rw [ea, nI_n, nI_n, nI_mul, nI_add, nI_clamp (by omega)]
    by_cases h5 : ¬ xs (i + 3) < 0 ∧ xs (i + 3) < im_i M 57 (3 * a + 1)
    · exact wr_cell hM (c_cell q h1 h2 h3 h4 h5.1 (by rw [ec]; exact h5.2))
    · refine wt_cell_1 hM ?_ ?_
      · rw [ea, eb]
        exact H_cell_1 (dep := dep + 23) ha hb h5 hM
      · rw [ea]
        exact n_cell_1 q ha h3 h4 h5
  · exact wt_cell_0 hM (H_cell_0 (dep := dep + 23) h hM) (n_cell_0 q h)
theorem x_5 (hL : L ≤ 2560) (hi : i + 5 ≤ L) (hM : lw_S w M) (q : RL w M) (hk : xs i &&& 31 = 5) (hn : ∀ w1 M1, lw_S w1 M1 → RL w1 M1 → lw_H L xs dep P (i + 5) M1) : lw_H L xs dep P i M := law_5 hL hi hM hk (c_fault q) hn
theorem x_6 (hL : L ≤ 2560) (hi : i + 5 ≤ L) (hM : lw_S w M) (q : RL w M) (hk : xs i &&& 31 = 6) (hn : ∀ w1 M1, lw_S w1 M1 → RL w1 M1 → lw_H L xs dep P (i + 5) M1) : lw_H L xs dep P i M := law_6 hL hi hM hk (c_place q) hn
theorem x_7 (hL : L ≤ 2560) (hi : i + 5 ≤ L) (hM : lw_S w M) (q : RL w M) (hk : xs i &&& 31 = 7) (hn : ∀ t, t ≤ 1 → ∀ w1 M1, lw_S w1 M1 → RL w1 M1 → lw_H L xs dep (fun v2 M2 t2 => P v2 M2 (t + t2)) (i + 5) M1) : lw_H L xs dep P i M := by
  refine law_7 hL hi hM hk ?_ hn
  by_cases h : ¬ xs (i + 2) < 0 ∧ xs (i + 2) ≤ 3
  · exact wr_label hM (ed_mono (c_label (M2 := M) q h.1 h.2) (fun x hx => hx _ (fr0_o fr0_refl) rfl))
  · exact wt_label_0 hM (H_label_0 (dep := dep + 23) h hM) (n_label q h)
theorem x_8 (hL : L ≤ 2560) (hi : i + 5 ≤ L) (hM : lw_S w M) (q : RL w M) (hk : xs i &&& 31 = 8) (hn : ∀ t, t ≤ 1 → ∀ w1 M1, lw_S w1 M1 → RL w1 M1 → lw_H L xs dep (fun v2 M2 t2 => P v2 M2 (t + t2)) (i + 5) M1) : lw_H L xs dep P i M := by
  refine law_8 hL hi hM hk ?_ hn
  by_cases h : ¬ xs (i + 2) < 0 ∧ xs (i + 2) ≤ 8
  · by_cases h2 : ¬ xs (i + 1) < 0 ∧ xs (i + 1) < im_i M 11 3
    · exact wr_order hM (ed_mono (c_order (M2 := M) q h.1 h.2 h2.1 h2.2) (fun x hx => hx _ (fr0_o fr0_refl) rfl))
    · obtain ⟨b, eb, hb⟩ := iz3 h.1 (n := 8) h.2 (by omega)
      refine wt_order_1 hM ?_ (n_order_1 q h.1 h.2 h2)
      rw [eb]
      exact H_order_1 (dep := dep + 23) hb h2 hM
  · exact wt_order_0 hM (H_order_0 (dep := dep + 23) h hM) (n_order_0 q h)
theorem x_9 (hL : L ≤ 2560) (hi : i + 5 ≤ L) (hM : lw_S w M) (q : RL w M) (hk : xs i &&& 31 = 9) (hn : ∀ t, t ≤ 1 → ∀ w1 M1, lw_S w1 M1 → RL w1 M1 → lw_H L xs dep (fun v2 M2 t2 => P v2 M2 (t + t2)) (i + 5) M1) : lw_H L xs dep P i M := by
  refine law_9 hL hi hM hk ?_ hn
  by_cases h2 : ¬ xs (i + 1) < 0 ∧ xs (i + 1) < im_i M 11 3
  · exact wr_data hM (ed_mono (c_data q h2.1 h2.2) (fun x hx => hx _ (fr0_o fr0_refl) rfl))
  · exact wt_data_1 hM (H_data_1 (dep := dep + 23) h2 hM) (n_data q h2)
theorem x_11 (hL : L ≤ 2560) (hi : i + 5 ≤ L) (hM : lw_S w M) (q : RL w M) (hk : xs i &&& 31 = 11) (hn : ∀ w1 M1, lw_S w1 M1 → RL w1 M1 → lw_H L xs dep P (i + 5) M1) : lw_H L xs dep P i M := law_11 hL hi hM hk (c_drawn q) hn
theorem x_12 (hL : L ≤ 2560) (hi : i + 5 ≤ L) (hM : lw_S w M) (q : RL w M) (hk : xs i &&& 31 = 12) (hn : ∀ w1 M1, lw_S w1 M1 → RL w1 M1 → lw_H L xs dep P (i + 5) M1) : lw_H L xs dep P i M := law_12 hL hi hM hk (c_spoil q) hn
theorem x_13 (hL : L ≤ 2560) (hi : i + 5 ≤ L) (hM : lw_S w M) (q : RL w M) (hk : xs i &&& 31 = 13) (hn : ∀ t, t ≤ 1 → ∀ w1 M1, lw_S w1 M1 → RL w1 M1 → lw_H L xs dep (fun v2 M2 t2 => P v2 M2 (t + t2)) (i + 5) M1) : lw_H L xs dep P i M := by
  refine law_13 hL hi hM hk ?_ hn
  by_cases h : ¬ xs (i + 1) < 0 ∧ xs (i + 1) ≤ 3
  · exact wr_turn hM (c_turn q h.1 h.2)
  · exact wt_turn_0 hM (H_turn_0 (dep := dep + 23) h hM) (n_turn q h)
theorem x_15 (hL : L ≤ 2560) (hi : i + 5 ≤ L) (hM : lw_S w M) (q : RL w M) (hk : xs i &&& 31 = 15) (hn : ∀ w1 M1, lw_S w1 M1 → RL w1 M1 → lw_H L xs dep P (i + 5) M1) : lw_H L xs dep P i M := law_15 hL hi hM hk (c_dots q) hn
theorem x_16 (hL : L ≤ 2560) (hi : i + 5 ≤ L) (hM : lw_S w M) (q : RL w M) (hk : xs i &&& 31 = 16) (hn : ∀ t, t ≤ 1 → ∀ w1 M1, lw_S w1 M1 → RL w1 M1 → lw_H L xs dep (fun v2 M2 t2 => P v2 M2 (t + t2)) (i + 5) M1) : lw_H L xs dep P i M := by
  refine law_16 hL hi hM hk ?_ hn
  rcases has_01 (p0 := xs (i + 1)) (p1 := xs (i + 2)) q with h | h
  · exact wr_run hM (c_run q h)
  · exact wt_run_1 hM (H_run_1 (dep := dep + 22) h hM) (n_run q h)
theorem x_18 (hL : L ≤ 2560) (hi : i + 5 ≤ L) (hM : lw_S w M) (q : RL w M) (hk : xs i &&& 31 = 18) (hn : ∀ t, t ≤ 1 → ∀ w1 M1, lw_S w1 M1 → RL w1 M1 → lw_H L xs dep (fun v2 M2 t2 => P v2 M2 (t + t2)) (i + 5) M1) : lw_H L xs dep P i M := by
  refine law_18 hL hi hM hk ?_ hn
  by_cases h : ¬ xs (i + 2) < 0 ∧ xs (i + 2) ≤ 5
  · exact wr_found hM (ed_mono (c_found q h.1 h.2) (fun x hx => hx _ (fr0_o fr0_refl) rfl))
  · exact wt_found_0 hM (H_found_0 (dep := dep + 23) h hM) (n_found q h)
theorem x_21 (hL : L ≤ 2560) (hi : i + 5 ≤ L) (hM : lw_S w M) (q : RL w M) (hk : xs i &&& 31 = 21) (hn : ∀ t, t ≤ 1 → ∀ w1 M1, lw_S w1 M1 → RL w1 M1 → lw_H L xs dep (fun v2 M2 t2 => P v2 M2 (t + t2)) (i + 5) M1) : lw_H L xs dep P i M := by
  refine law_21 hL hi hM hk ?_ hn
  by_cases h : ¬ xs (i + 1) < 0 ∧ xs (i + 1) ≤ 6
  · exact wr_reading hM (ed_mono (c_reading q h.1 h.2) (fun x hx => hx _ (fr0_o fr0_refl) rfl))
  · exact wt_reading_0 hM (H_reading_0 (dep := dep + 23) h hM) (n_reading q h)
theorem x_22 (hL : L ≤ 2560) (hi : i + 5 ≤ L) (hM : lw_S w M) (q : RL w M) (hk : xs i &&& 31 = 22) (hn : ∀ w1 M1, lw_S w1 M1 → RL w1 M1 → lw_H L xs dep P (i + 5) M1) : lw_H L xs dep P i M := law_22 hL hi hM hk (c_got q) hn
end STEPS
/-- what is still owed of a call: from the head of the loop, where it is the next one, to the head again -/
def owed (k : Int32) : Prop := ∀ {L : Nat} {xs : Nat → Int32} {dep i : Nat} {w : Bool} {M : im_M} {P : Option Value → im_M → Nat → Prop}, L ≤ 2560 → i + 5 ≤ L → lw_S w M → RL w M → xs i &&& 31 = k → (∀ t, t ≤ 1 → ∀ w1 M1, lw_S w1 M1 → RL w1 M1 → lw_H L xs dep (fun v2 M2 t2 => P v2 M2 (t + t2)) (i + 5) M1) → (∀ w1 M1, lw_S w1 M1 → RL w1 M1 → lw_H L xs dep P (i + 5) M1) → lw_H L xs dep P i M
theorem lw_any (h4 : owed 4) (h10 : owed 10) (h14 : owed 14) (h17 : owed 17) (h19 : owed 19) (h20 : owed 20) {L : Nat} {xs : Nat → Int32} {dep i : Nat} {w : Bool} {M : im_M} {P : Option Value → im_M → Nat → Prop} (hL : L ≤ 2560) (hi : i + 5 ≤ L) (hM : lw_S w M) (q : RL w M) (hn : ∀ t, t ≤ 1 → ∀ w1 M1, lw_S w1 M1 → RL w1 M1 → lw_H L xs dep (fun v2 M2 t2 => P v2 M2 (t + t2)) (i + 5) M1) (hn0 : ∀ w1 M1, lw_S w1 M1 → RL w1 M1 → lw_H L xs dep P (i + 5) M1) : lw_H L xs dep P i M := by
  by_cases h : (xs i &&& 31) ∈ [0, 1, 2, 3, 4, 5, 6, 7, 8, 9, 10, 11, 12, 13, 14, 15, 16, 17, 18, 19, 20, 21, 22]
  · simp only [List.mem_cons, List.not_mem_nil, or_false] at h
    rcases h with k | k | k | k | k | k | k | k | k | k | k | k | k | k | k | k | k | k | k | k | k | k | k
    · exact x_0 hL hi hM q k hn
    · exact x_1 hL hi hM q k hn0
    · exact x_2 hL hi hM q k hn
    · exact x_3 hL hi hM q k hn
    · exact h4 hL hi hM q k hn hn0
    · exact x_5 hL hi hM q k hn0
    · exact x_6 hL hi hM q k hn0
    · exact x_7 hL hi hM q k hn
    · exact x_8 hL hi hM q k hn
    · exact x_9 hL hi hM q k hn
    · exact h10 hL hi hM q k hn hn0
    · exact x_11 hL hi hM q k hn0
    · exact x_12 hL hi hM q k hn0
    · exact x_13 hL hi hM q k hn
    · exact h14 hL hi hM q k hn hn0
    · exact x_15 hL hi hM q k hn0
    · exact x_16 hL hi hM q k hn
    · exact h17 hL hi hM q k hn hn0
    · exact x_18 hL hi hM q k hn
    · exact h19 hL hi hM q k hn hn0
    · exact h20 hL hi hM q k hn hn0
    · exact x_21 hL hi hM q k hn
    · exact x_22 hL hi hM q k hn0
  · exact law_23 hL hi hM h q hn0
