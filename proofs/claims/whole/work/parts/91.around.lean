/-! THE LAW'S OWN METHODS, OUT OF THE FUNCTIONS -/
theorem ia_S {G : im_G} {dep : Nat} {d : im_J} {P : Option Value → im_M → Prop} {F : im_F} (h : ia G dep d P F) : ∃ v M, P v M := by
  obtain ⟨_, v, M, _, q⟩ := h
  exact ⟨v, M, q⟩
theorem ia_to {G : im_G} {dep : Nat} {d : im_J} {P Q : Option Value → im_M → Prop} {F : im_F} (h : ia G dep d P F) (k : ∀ v M, P v M → Q v M) : ia G dep d Q F := by
  obtain ⟨n, v, M, e, q⟩ := h
  exact ⟨n, v, M, e, k v M q⟩
theorem wr_feed {L : Nat} {xs : Nat → Int32} {dep : Nat} {w : Bool} {M : im_M} {p0 : Int32} {p1 : Int64} {K : Bool → Int32 → im_M → Prop} (hM : lw_S w M) (h : ed (f_H_feed p0 p1 M) (fun r => K w 0 (im_setL r.2 138 0 r.1.toInt64))) : lw_W L xs dep JW_feed JW_feed_h [.ref 0, .int p0, .long p1, .ref 138] M K := by
  obtain ⟨⟨x, M1⟩, e, hK⟩ := h
  have q := f_H_feed_ok (L := L) (xs := xs) (dep := dep + 27) hM (Q := fun r => r = (x, M1)) ⟨_, e, rfl⟩
  have hM1 : lw_S w M1 := by
    obtain ⟨v, M2, _, _, hs, hr⟩ := ia_S q
    cases hr
    exact hs
  refine ⟨0, _, 0, w, lw_sL hM1, by decide, W_feed (dep := dep + 28) hM hM1 (ia_to q ?_), hK⟩
  rintro v M2 ⟨z, rfl, _, hr⟩
  cases hr
  exact ⟨rfl, rfl⟩
theorem wt_feed_0 {L : Nat} {xs : Nat → Int32} {dep : Nat} {w : Bool} {M : im_M} {p0 : Int32} {p1 : Int64} {K : Bool → Int32 → im_M → Prop} (hM : lw_S w M) (h : it (tb_G L xs) tb_X (dep + 28) J_H_feed (fun E M1 => E = 0 ∧ M1 = im_noX M) (0, lv_args 0 [.ref 0, .int p0, .long p1], [], M)) (hK : K w 1 (im_noX M)) : lw_W L xs dep JW_feed JW_feed_h [.ref 0, .int p0, .long p1, .ref 138] M K := ⟨1, im_noX M, 1, w, hM, by decide, W_feed_0 (dep := dep + 28) hM h, hK⟩
theorem wr_font {L : Nat} {xs : Nat → Int32} {dep : Nat} {w : Bool} {M : im_M} {p0 : Int32} {p1 : Int32} {p2 : Int32} {p3 : Int32} {K : Bool → Int32 → im_M → Prop} (hM : lw_S w M) (h : ed (f_H_font p0 p1 p2 p3 M) (fun r => K w 0 r)) : lw_W L xs dep JW_font JW_font_h [.ref 0, .int p0, .int p1, .int p2, .int p3] M K := by
  obtain ⟨M1, e, hK⟩ := h
  have q := f_H_font_ok (L := L) (xs := xs) (dep := dep + 25) hM (Q := fun r => r = M1) ⟨_, e, rfl⟩
  have hM1 : lw_S w M1 := by
    obtain ⟨v, M2, _, hs, hr⟩ := ia_S q
    cases hr
    exact hs
  refine ⟨0, _, 0, w, hM1, by decide, W_font (dep := dep + 28) hM hM1 (ia_to q ?_), hK⟩
  rintro v M2 ⟨rfl, _, hr⟩
  exact ⟨rfl, hr⟩
theorem wt_font_0 {L : Nat} {xs : Nat → Int32} {dep : Nat} {w : Bool} {M : im_M} {p0 : Int32} {p1 : Int32} {p2 : Int32} {p3 : Int32} {K : Bool → Int32 → im_M → Prop} (hM : lw_S w M) (h : it (tb_G L xs) tb_X (dep + 28) J_H_font (fun E M1 => E = 0 ∧ M1 = im_noX M) (0, lv_args 0 [.ref 0, .int p0, .int p1, .int p2, .int p3], [], M)) (hK : K w 1 (im_noX M)) : lw_W L xs dep JW_font JW_font_h [.ref 0, .int p0, .int p1, .int p2, .int p3] M K := ⟨1, im_noX M, 1, w, hM, by decide, W_font_0 (dep := dep + 28) hM h, hK⟩
theorem wr_cell {L : Nat} {xs : Nat → Int32} {dep : Nat} {w : Bool} {M : im_M} {p0 : Int32} {p1 : Int32} {p2 : Int32} {p3 : Int32} {K : Bool → Int32 → im_M → Prop} (hM : lw_S w M) (h : ed (f_H_cell p0 p1 p2 p3 M) (fun r => K w 0 r)) : lw_W L xs dep JW_cell JW_cell_h [.ref 0, .int p0, .int p1, .int p2, .int p3] M K := by
  obtain ⟨M1, e, hK⟩ := h
  have q := f_H_cell_ok (L := L) (xs := xs) (dep := dep + 27) hM (Q := fun r => r = M1) ⟨_, e, rfl⟩
  have hM1 : lw_S w M1 := by
    obtain ⟨v, M2, _, hs, hr⟩ := ia_S q
    cases hr
    exact hs
  refine ⟨0, _, 0, w, hM1, by decide, W_cell (dep := dep + 28) hM hM1 (ia_to q ?_), hK⟩
  rintro v M2 ⟨rfl, _, hr⟩
  exact ⟨rfl, hr⟩
theorem wt_cell_0 {L : Nat} {xs : Nat → Int32} {dep : Nat} {w : Bool} {M : im_M} {p0 : Int32} {p1 : Int32} {p2 : Int32} {p3 : Int32} {K : Bool → Int32 → im_M → Prop} (hM : lw_S w M) (h : it (tb_G L xs) tb_X (dep + 28) J_H_cell (fun E M1 => E = 0 ∧ M1 = im_noX M) (0, lv_args 0 [.ref 0, .int p0, .int p1, .int p2, .int p3], [], M)) (hK : K w 1 (im_noX M)) : lw_W L xs dep JW_cell JW_cell_h [.ref 0, .int p0, .int p1, .int p2, .int p3] M K := ⟨1, im_noX M, 1, w, hM, by decide, W_cell_0 (dep := dep + 28) hM h, hK⟩
theorem wt_cell_1 {L : Nat} {xs : Nat → Int32} {dep : Nat} {w : Bool} {M : im_M} {p0 : Int32} {p1 : Int32} {p2 : Int32} {p3 : Int32} {K : Bool → Int32 → im_M → Prop} (hM : lw_S w M) (h : it (tb_G L xs) tb_X (dep + 28) J_H_cell (fun E M1 => E = 1 ∧ M1 = im_noX M) (0, lv_args 0 [.ref 0, .int p0, .int p1, .int p2, .int p3], [], M)) (hK : K w 2 (im_noX M)) : lw_W L xs dep JW_cell JW_cell_h [.ref 0, .int p0, .int p1, .int p2, .int p3] M K := ⟨2, im_noX M, 1, w, hM, by decide, W_cell_1 (dep := dep + 28) hM h, hK⟩
theorem wr_label {L : Nat} {xs : Nat → Int32} {dep : Nat} {w : Bool} {M : im_M} {p0 : Int32} {p1 : Int32} {K : Bool → Int32 → im_M → Prop} (hM : lw_S w M) (h : ed (f_H_label p0 p1 M) (fun x => K w 0 (im_setL M 138 0 x.toInt64))) : lw_W L xs dep JW_label JW_label_h [.ref 0, .int p0, .int p1, .ref 138] M K := by
  obtain ⟨x, e, hK⟩ := h
  have q := f_H_label_ok (L := L) (xs := xs) (dep := dep + 28) hM (Q := fun r => r = x) ⟨_, e, rfl⟩
  refine ⟨0, _, 0, w, lw_sL hM, by decide, W_label (dep := dep + 28) hM hM (ia_to q ?_), hK⟩
  rintro v M2 ⟨z, rfl, hm, hr⟩
  exact ⟨by rw [hr], hm⟩
theorem wt_label_0 {L : Nat} {xs : Nat → Int32} {dep : Nat} {w : Bool} {M : im_M} {p0 : Int32} {p1 : Int32} {K : Bool → Int32 → im_M → Prop} (hM : lw_S w M) (h : it (tb_G L xs) tb_X (dep + 28) J_H_label (fun E M1 => E = 0 ∧ M1 = im_noX M) (0, lv_args 0 [.ref 0, .int p0, .int p1], [], M)) (hK : K w 1 (im_noX M)) : lw_W L xs dep JW_label JW_label_h [.ref 0, .int p0, .int p1, .ref 138] M K := ⟨1, im_noX M, 1, w, hM, by decide, W_label_0 (dep := dep + 28) hM h, hK⟩
theorem wr_order {L : Nat} {xs : Nat → Int32} {dep : Nat} {w : Bool} {M : im_M} {p0 : Int32} {p1 : Int32} {K : Bool → Int32 → im_M → Prop} (hM : lw_S w M) (h : ed (f_H_order p0 p1 M) (fun x => K w 0 (im_setL M 138 0 x.toInt64))) : lw_W L xs dep JW_order JW_order_h [.ref 0, .int p0, .int p1, .ref 138] M K := by
  obtain ⟨x, e, hK⟩ := h
  have q := f_H_order_ok (L := L) (xs := xs) (dep := dep + 27) hM (Q := fun r => r = x) ⟨_, e, rfl⟩
  refine ⟨0, _, 0, w, lw_sL hM, by decide, W_order (dep := dep + 28) hM hM (ia_to q ?_), hK⟩
  rintro v M2 ⟨z, rfl, hm, hr⟩
  exact ⟨by rw [hr], hm⟩
theorem wt_order_0 {L : Nat} {xs : Nat → Int32} {dep : Nat} {w : Bool} {M : im_M} {p0 : Int32} {p1 : Int32} {K : Bool → Int32 → im_M → Prop} (hM : lw_S w M) (h : it (tb_G L xs) tb_X (dep + 28) J_H_order (fun E M1 => E = 0 ∧ M1 = im_noX M) (0, lv_args 0 [.ref 0, .int p0, .int p1], [], M)) (hK : K w 1 (im_noX M)) : lw_W L xs dep JW_order JW_order_h [.ref 0, .int p0, .int p1, .ref 138] M K := ⟨1, im_noX M, 1, w, hM, by decide, W_order_0 (dep := dep + 28) hM h, hK⟩
theorem wt_order_1 {L : Nat} {xs : Nat → Int32} {dep : Nat} {w : Bool} {M : im_M} {p0 : Int32} {p1 : Int32} {K : Bool → Int32 → im_M → Prop} (hM : lw_S w M) (h : it (tb_G L xs) tb_X (dep + 28) J_H_order (fun E M1 => E = 1 ∧ M1 = im_noX M) (0, lv_args 0 [.ref 0, .int p0, .int p1], [], M)) (hK : K w 2 (im_noX M)) : lw_W L xs dep JW_order JW_order_h [.ref 0, .int p0, .int p1, .ref 138] M K := ⟨2, im_noX M, 1, w, hM, by decide, W_order_1 (dep := dep + 28) hM h, hK⟩
theorem wr_data {L : Nat} {xs : Nat → Int32} {dep : Nat} {w : Bool} {M : im_M} {p0 : Int32} {p1 : Int32} {K : Bool → Int32 → im_M → Prop} (hM : lw_S w M) (h : ed (f_H_data p0 p1 M) (fun x => K w 0 (im_setL M 138 0 x))) : lw_W L xs dep JW_data JW_data_h [.ref 0, .int p0, .int p1, .ref 138] M K := by
  obtain ⟨x, e, hK⟩ := h
  have q := f_H_data_ok (L := L) (xs := xs) (dep := dep + 27) hM (Q := fun r => r = x) ⟨_, e, rfl⟩
  refine ⟨0, _, 0, w, lw_sL hM, by decide, W_data (dep := dep + 28) hM hM (ia_to q ?_), hK⟩
  rintro v M2 ⟨z, rfl, hm, hr⟩
  exact ⟨by rw [hr], hm⟩
theorem wt_data_1 {L : Nat} {xs : Nat → Int32} {dep : Nat} {w : Bool} {M : im_M} {p0 : Int32} {p1 : Int32} {K : Bool → Int32 → im_M → Prop} (hM : lw_S w M) (h : it (tb_G L xs) tb_X (dep + 28) J_H_data (fun E M1 => E = 1 ∧ M1 = im_noX M) (0, lv_args 0 [.ref 0, .int p0, .int p1], [], M)) (hK : K w 1 (im_noX M)) : lw_W L xs dep JW_data JW_data_h [.ref 0, .int p0, .int p1, .ref 138] M K := ⟨1, im_noX M, 1, w, hM, by decide, W_data_1 (dep := dep + 28) hM h, hK⟩
theorem wr_print {L : Nat} {xs : Nat → Int32} {dep : Nat} {w : Bool} {M : im_M} {p0 : Int32} {K : Bool → Int32 → im_M → Prop} (hM : lw_S w M) (h : ed (f_H_print w p0 M) (fun r => K w 0 (im_setL r.2 138 0 r.1.toInt64))) : lw_W L xs dep JW_print JW_print_h [.ref 0, .int p0, .ref 138] M K := by
  obtain ⟨⟨x, M1⟩, e, hK⟩ := h
  have q := f_H_print_ok (L := L) (xs := xs) (dep := dep + 18) hM (Q := fun r => r = (x, M1)) ⟨_, e, rfl⟩
  have hM1 : lw_S w M1 := by
    obtain ⟨v, M2, _, _, hs, hr⟩ := ia_S q
    cases hr
    exact hs
  refine ⟨0, _, 0, w, lw_sL hM1, by decide, W_print (dep := dep + 28) hM hM1 (ia_to q ?_), hK⟩
  rintro v M2 ⟨z, rfl, _, hr⟩
  cases hr
  exact ⟨rfl, rfl⟩
theorem wt_print_1 {L : Nat} {xs : Nat → Int32} {dep : Nat} {w : Bool} {M : im_M} {p0 : Int32} {K : Bool → Int32 → im_M → Prop} (hM : lw_S w M) (h : it (tb_G L xs) tb_X (dep + 28) J_H_print (fun E M1 => E = 1 ∧ M1 = im_noX M) (0, lv_args 0 [.ref 0, .int p0], [], M)) (hK : K w 1 (im_noX M)) : lw_W L xs dep JW_print JW_print_h [.ref 0, .int p0, .ref 138] M K := ⟨1, im_noX M, 1, w, hM, by decide, W_print_1 (dep := dep + 28) hM h, hK⟩
theorem wr_turn {L : Nat} {xs : Nat → Int32} {dep : Nat} {w : Bool} {M : im_M} {p0 : Int32} {K : Bool → Int32 → im_M → Prop} (hM : lw_S w M) (h : ed (f_H_turn w p0 M) (fun r => K r.1 0 r.2)) : lw_W L xs dep JW_turn JW_turn_h [.ref 0, .int p0] M K := by
  obtain ⟨⟨w1, M1⟩, e, hK⟩ := h
  have q := f_H_turn_ok (L := L) (xs := xs) (dep := dep + 26) hM (Q := fun r => r = (w1, M1)) ⟨_, e, rfl⟩
  have hM1 : lw_S w1 M1 := by
    obtain ⟨v, M2, _, w2, hs, hr⟩ := ia_S q
    cases hr
    exact hs
  refine ⟨0, _, 0, w1, hM1, by decide, W_turn (dep := dep + 28) hM hM1 (ia_to q ?_), hK⟩
  rintro v M2 ⟨rfl, w2, _, hr⟩
  cases hr
  exact ⟨rfl, rfl⟩
theorem wt_turn_0 {L : Nat} {xs : Nat → Int32} {dep : Nat} {w : Bool} {M : im_M} {p0 : Int32} {K : Bool → Int32 → im_M → Prop} (hM : lw_S w M) (h : it (tb_G L xs) tb_X (dep + 28) J_H_turn (fun E M1 => E = 0 ∧ M1 = im_noX M) (0, lv_args 0 [.ref 0, .int p0], [], M)) (hK : K w 1 (im_noX M)) : lw_W L xs dep JW_turn JW_turn_h [.ref 0, .int p0] M K := ⟨1, im_noX M, 1, w, hM, by decide, W_turn_0 (dep := dep + 28) hM h, hK⟩
theorem wr_told {L : Nat} {xs : Nat → Int32} {dep : Nat} {w : Bool} {M : im_M} {p0 : Int32} {K : Bool → Int32 → im_M → Prop} (hM : lw_S w M) (h : ed (f_H_told w p0 M) (fun x => K w 0 (im_setL M 138 0 x.toInt64))) : lw_W L xs dep JW_told JW_told_h [.ref 0, .int p0, .ref 138] M K := by
  obtain ⟨x, e, hK⟩ := h
  have q := f_H_told_ok (L := L) (xs := xs) (dep := dep + 26) hM (Q := fun r => r = x) ⟨_, e, rfl⟩
  refine ⟨0, _, 0, w, lw_sL hM, by decide, W_told (dep := dep + 28) hM hM (ia_to q ?_), hK⟩
  rintro v M2 ⟨z, rfl, hm, hr⟩
  exact ⟨by rw [hr], hm⟩
theorem wt_told_0 {L : Nat} {xs : Nat → Int32} {dep : Nat} {w : Bool} {M : im_M} {p0 : Int32} {K : Bool → Int32 → im_M → Prop} (hM : lw_S w M) (h : it (tb_G L xs) tb_X (dep + 28) J_H_told (fun E M1 => E = 0 ∧ M1 = im_noX M) (0, lv_args 0 [.ref 0, .int p0], [], M)) (hK : K w 1 (im_noX M)) : lw_W L xs dep JW_told JW_told_h [.ref 0, .int p0, .ref 138] M K := ⟨1, im_noX M, 1, w, hM, by decide, W_told_0 (dep := dep + 28) hM h, hK⟩
theorem wr_run {L : Nat} {xs : Nat → Int32} {dep : Nat} {w : Bool} {M : im_M} {p0 : Int32} {p1 : Int32} {p2 : Int32} {p3 : Int32} {K : Bool → Int32 → im_M → Prop} (hM : lw_S w M) (h : ed (f_H_run w p0 p1 p2 p3 M) (fun r => K w 0 (im_setL r.2 138 0 r.1.toInt64))) : lw_W L xs dep JW_run JW_run_h [.ref 0, .int p0, .int p1, .int p2, .int p3, .ref 138] M K := by
  obtain ⟨⟨x, M1⟩, e, hK⟩ := h
  have q := f_H_run_ok (L := L) (xs := xs) (dep := dep + 26) hM (Q := fun r => r = (x, M1)) ⟨_, e, rfl⟩
  have hM1 : lw_S w M1 := by
    obtain ⟨v, M2, _, _, hs, hr⟩ := ia_S q
    cases hr
    exact hs
  refine ⟨0, _, 0, w, lw_sL hM1, by decide, W_run (dep := dep + 28) hM hM1 (ia_to q ?_), hK⟩
  rintro v M2 ⟨z, rfl, _, hr⟩
  cases hr
  exact ⟨rfl, rfl⟩
theorem wt_run_1 {L : Nat} {xs : Nat → Int32} {dep : Nat} {w : Bool} {M : im_M} {p0 : Int32} {p1 : Int32} {p2 : Int32} {p3 : Int32} {K : Bool → Int32 → im_M → Prop} (hM : lw_S w M) (h : it (tb_G L xs) tb_X (dep + 28) J_H_run (fun E M1 => E = 1 ∧ M1 = im_noX M) (0, lv_args 0 [.ref 0, .int p0, .int p1, .int p2, .int p3], [], M)) (hK : K w 1 (im_noX M)) : lw_W L xs dep JW_run JW_run_h [.ref 0, .int p0, .int p1, .int p2, .int p3, .ref 138] M K := ⟨1, im_noX M, 1, w, hM, by decide, W_run_1 (dep := dep + 28) hM h, hK⟩
theorem wr_scan {L : Nat} {xs : Nat → Int32} {dep : Nat} {w : Bool} {M : im_M} {p0 : Int32} {p1 : Int32} {p2 : Int32} {K : Bool → Int32 → im_M → Prop} (hM : lw_S w M) (h : ed (f_H_scan w p0 p1 p2 M) (fun r => K w 0 (im_setL r.2 138 0 r.1.toInt64))) : lw_W L xs dep JW_scan JW_scan_h [.ref 0, .int p0, .int p1, .int p2, .ref 138] M K := by
  obtain ⟨⟨x, M1⟩, e, hK⟩ := h
  have q := f_H_scan_ok (L := L) (xs := xs) (dep := dep + 22) hM (Q := fun r => r = (x, M1)) ⟨_, e, rfl⟩
  have hM1 : lw_S w M1 := by
    obtain ⟨v, M2, _, _, hs, hr⟩ := ia_S q
    cases hr
    exact hs
  refine ⟨0, _, 0, w, lw_sL hM1, by decide, W_scan (dep := dep + 28) hM hM1 (ia_to q ?_), hK⟩
  rintro v M2 ⟨z, rfl, _, hr⟩
  cases hr
  exact ⟨rfl, rfl⟩
theorem wt_scan_0 {L : Nat} {xs : Nat → Int32} {dep : Nat} {w : Bool} {M : im_M} {p0 : Int32} {p1 : Int32} {p2 : Int32} {K : Bool → Int32 → im_M → Prop} (hM : lw_S w M) (h : it (tb_G L xs) tb_X (dep + 28) J_H_scan (fun E M1 => E = 0 ∧ M1 = im_noX M) (0, lv_args 0 [.ref 0, .int p0, .int p1, .int p2], [], M)) (hK : K w 1 (im_noX M)) : lw_W L xs dep JW_scan JW_scan_h [.ref 0, .int p0, .int p1, .int p2, .ref 138] M K := ⟨1, im_noX M, 1, w, hM, by decide, W_scan_0 (dep := dep + 28) hM h, hK⟩
theorem wr_found {L : Nat} {xs : Nat → Int32} {dep : Nat} {w : Bool} {M : im_M} {p0 : Int32} {p1 : Int32} {K : Bool → Int32 → im_M → Prop} (hM : lw_S w M) (h : ed (f_H_found p0 p1 M) (fun x => K w 0 (im_setL M 138 0 x.toInt64))) : lw_W L xs dep JW_found JW_found_h [.ref 0, .int p0, .int p1, .ref 138] M K := by
  obtain ⟨x, e, hK⟩ := h
  have q := f_H_found_ok (L := L) (xs := xs) (dep := dep + 27) hM (Q := fun r => r = x) ⟨_, e, rfl⟩
  refine ⟨0, _, 0, w, lw_sL hM, by decide, W_found (dep := dep + 28) hM hM (ia_to q ?_), hK⟩
  rintro v M2 ⟨z, rfl, hm, hr⟩
  exact ⟨by rw [hr], hm⟩
theorem wt_found_0 {L : Nat} {xs : Nat → Int32} {dep : Nat} {w : Bool} {M : im_M} {p0 : Int32} {p1 : Int32} {K : Bool → Int32 → im_M → Prop} (hM : lw_S w M) (h : it (tb_G L xs) tb_X (dep + 28) J_H_found (fun E M1 => E = 0 ∧ M1 = im_noX M) (0, lv_args 0 [.ref 0, .int p0, .int p1], [], M)) (hK : K w 1 (im_noX M)) : lw_W L xs dep JW_found JW_found_h [.ref 0, .int p0, .int p1, .ref 138] M K := ⟨1, im_noX M, 1, w, hM, by decide, W_found_0 (dep := dep + 28) hM h, hK⟩
theorem wr_bars {L : Nat} {xs : Nat → Int32} {dep : Nat} {w : Bool} {M : im_M} {p0 : Int32} {p1 : Int32} {p2 : Int32} {K : Bool → Int32 → im_M → Prop} (hM : lw_S w M) (h : ed (f_H_bars w p0 p1 p2 M) (fun r => K w 0 (im_setL r.2 138 0 r.1.toInt64))) : lw_W L xs dep JW_bars JW_bars_h [.ref 0, .int p0, .int p1, .int p2, .ref 138] M K := by
  obtain ⟨⟨x, M1⟩, e, hK⟩ := h
  have q := f_H_bars_ok (L := L) (xs := xs) (dep := dep + 23) hM (Q := fun r => r = (x, M1)) ⟨_, e, rfl⟩
  have hM1 : lw_S w M1 := by
    obtain ⟨v, M2, _, _, hs, hr⟩ := ia_S q
    cases hr
    exact hs
  refine ⟨0, _, 0, w, lw_sL hM1, by decide, W_bars (dep := dep + 28) hM hM1 (ia_to q ?_), hK⟩
  rintro v M2 ⟨z, rfl, _, hr⟩
  cases hr
  exact ⟨rfl, rfl⟩
theorem wt_bars_1 {L : Nat} {xs : Nat → Int32} {dep : Nat} {w : Bool} {M : im_M} {p0 : Int32} {p1 : Int32} {p2 : Int32} {K : Bool → Int32 → im_M → Prop} (hM : lw_S w M) (h : it (tb_G L xs) tb_X (dep + 28) J_H_bars (fun E M1 => E = 1 ∧ M1 = im_noX M) (0, lv_args 0 [.ref 0, .int p0, .int p1, .int p2], [], M)) (hK : K w 1 (im_noX M)) : lw_W L xs dep JW_bars JW_bars_h [.ref 0, .int p0, .int p1, .int p2, .ref 138] M K := ⟨1, im_noX M, 1, w, hM, by decide, W_bars_1 (dep := dep + 28) hM h, hK⟩
theorem wr_reading {L : Nat} {xs : Nat → Int32} {dep : Nat} {w : Bool} {M : im_M} {p0 : Int32} {K : Bool → Int32 → im_M → Prop} (hM : lw_S w M) (h : ed (f_H_reading p0 M) (fun x => K w 0 (im_setL M 138 0 x.toInt64))) : lw_W L xs dep JW_reading JW_reading_h [.ref 0, .int p0, .ref 138] M K := by
  obtain ⟨x, e, hK⟩ := h
  have q := f_H_reading_ok (L := L) (xs := xs) (dep := dep + 28) hM (Q := fun r => r = x) ⟨_, e, rfl⟩
  refine ⟨0, _, 0, w, lw_sL hM, by decide, W_reading (dep := dep + 28) hM hM (ia_to q ?_), hK⟩
  rintro v M2 ⟨z, rfl, hm, hr⟩
  exact ⟨by rw [hr], hm⟩
theorem wt_reading_0 {L : Nat} {xs : Nat → Int32} {dep : Nat} {w : Bool} {M : im_M} {p0 : Int32} {K : Bool → Int32 → im_M → Prop} (hM : lw_S w M) (h : it (tb_G L xs) tb_X (dep + 28) J_H_reading (fun E M1 => E = 0 ∧ M1 = im_noX M) (0, lv_args 0 [.ref 0, .int p0], [], M)) (hK : K w 1 (im_noX M)) : lw_W L xs dep JW_reading JW_reading_h [.ref 0, .int p0, .ref 138] M K := ⟨1, im_noX M, 1, w, hM, by decide, W_reading_0 (dep := dep + 28) hM h, hK⟩
