/-! THE LAW'S OWN METHODS AROUND THE CALLS -/
theorem im_forg_ok {d : im_J} {h i : Nat} {L : List (Nat × Value)} (hd : decode d.2.1 h = .ok (.astore i, 2)) (hi : i < d.2.2.1) : im_forg d h L = some (h + 2, L.filter (fun q => !(q.1 == i) && !(q.1 + 1 == i && q.2.category == 2))) := by
  simp only [im_forg, hd]
  rw [if_pos hi]
theorem im_forg_okn {d : im_J} {h : Nat} {i : Fin 4} {L : List (Nat × Value)} (hd : decode d.2.1 h = .ok (.astore_n i, 1)) (hi : (i : Nat) < d.2.2.1) : im_forg d h L = some (h + 1, L.filter (fun q => !(q.1 == (i : Nat)) && !(q.1 + 1 == (i : Nat) && q.2.category == 2))) := by
  simp only [im_forg, hd]
  rw [if_pos hi]
theorem JW_feed_d0 : decode JW_feed.2.1 0 = .ok (.aload 4, 2) := by decide +kernel
theorem JW_feed_d2 : decode JW_feed.2.1 2 = .ok (.iconst 0, 1) := by decide +kernel
theorem JW_feed_d3 : decode JW_feed.2.1 3 = .ok (.aload_n 0, 1) := by decide +kernel
theorem JW_feed_d4 : decode JW_feed.2.1 4 = .ok (.iload_n 1, 1) := by decide +kernel
theorem JW_feed_d5 : decode JW_feed.2.1 5 = .ok (.lload_n 2, 1) := by decide +kernel
theorem JW_feed_d6 : decode JW_feed.2.1 6 = .ok (.invokevirtual 7, 3) := by decide +kernel
theorem JW_feed_d9 : decode JW_feed.2.1 9 = .ok (.i2l, 1) := by decide +kernel
theorem JW_feed_d10 : decode JW_feed.2.1 10 = .ok (.lastore, 1) := by decide +kernel
theorem JW_feed_d11 : decode JW_feed.2.1 11 = .ok (.goto 7, 3) := by decide +kernel
theorem JW_feed_d18 : decode JW_feed.2.1 18 = .ok (.iconst 0, 1) := by decide +kernel
theorem JW_feed_d19 : decode JW_feed.2.1 19 = .ok (.ireturn, 1) := by decide +kernel
theorem JW_feed_d14 : decode JW_feed.2.1 14 = .ok (.astore 5, 2) := by decide +kernel
theorem JW_feed_d16 : decode JW_feed.2.1 16 = .ok (.iconst 1, 1) := by decide +kernel
theorem JW_feed_d17 : decode JW_feed.2.1 17 = .ok (.ireturn, 1) := by decide +kernel
theorem W_feed {L : Nat} {xs : Nat → Int32} {dep : Nat} {w w2 : Bool} {M M2 : im_M} {p0 : Int32} {p1 : Int64} {x : Int32} (hM : lw_S w M) (hM2 : lw_S w2 M2) (hc : ia (tb_G L xs) dep J_H_feed (fun r M1 => r = some (.int x) ∧ M1 = M2) (0, lv_args 0 [.ref 0, .int p0, .long p1], [], M)) : ix (tb_G L xs) tb_X (dep + 1) JW_feed JW_feed_h (fun r M1 t => r = some (.int 0) ∧ M1 = im_setL M2 138 0 x.toInt64 ∧ t = 0) (0, lv_args 0 [.ref 0, .int p0, .long p1, .ref 138], [], M) := by
  have hS : im_St (tb_G L xs) (dep + 1) JW_feed (ix (tb_G L xs) tb_X (dep + 1) JW_feed JW_feed_h (fun r M1 t => r = some (.int 0) ∧ M1 = im_setL M2 138 0 x.toInt64 ∧ t = 0)) := ix_St (tb_GX L xs)
  have l0 : im_lk (lv_args 0 [.ref 0, .int p0, .long p1, .ref 138]) 0 = some (.ref 0) := rfl
  have l1 : im_lk (lv_args 0 [.ref 0, .int p0, .long p1, .ref 138]) 1 = some (.int p0) := rfl
  have l2 : im_lk (lv_args 0 [.ref 0, .int p0, .long p1, .ref 138]) 2 = some (.long p1) := rfl
  have l4 : im_lk (lv_args 0 [.ref 0, .int p0, .long p1, .ref 138]) 4 = some (.ref 138) := rfl
  refine iq_aload hS 2 JW_feed_d0 l4 rfl ?_
  refine iq_iconst hS 3 JW_feed_d2 (v := 0) (by decide +kernel) rfl ?_
  refine iq_aload_n hS 4 JW_feed_d3 l0 rfl ?_
  refine iq_iload_n hS 5 JW_feed_d4 l1 rfl ?_
  refine iq_lload_n hS 6 JW_feed_d5 l2 rfl ?_
  refine iq_call hS 9 JW_feed_d6 rfl (pr_inst (vs := [_, _]) lc_18_7 lT_95 rfl rfl (by decide) (by decide) rfl (Nat.le_of_ble_eq_true rfl) (Nat.le_of_ble_eq_true rfl) (fun _ => Or.inl (pr_b (ka_0 hM) (by decide) rfl))) hc rfl ?_
  rintro v M1 ⟨rfl, rfl⟩
  refine iq_i2l hS 10 JW_feed_d9 rfl ?_
  refine iq_lastore hS 11 JW_feed_d10 ⟨(ka_138 hM2).1, (ka_138 hM2).2, by decide, ix_lt (kl_138 hM2) (by decide)⟩ rfl ?_
  refine iq_goto hS JW_feed_d11 (t := 18) rfl ?_
  refine iq_iconst hS 19 JW_feed_d18 (v := 0) (by decide +kernel) rfl ?_
  exact ix_iret JW_feed_d19 rfl rfl ⟨rfl, rfl, rfl⟩
theorem W_feed_0 {L : Nat} {xs : Nat → Int32} {dep : Nat} {w : Bool} {M M2 : im_M} {p0 : Int32} {p1 : Int64} (hM : lw_S w M) (hc : it (tb_G L xs) tb_X dep J_H_feed (fun E M1 => E = 0 ∧ M1 = M2) (0, lv_args 0 [.ref 0, .int p0, .long p1], [], M)) : ix (tb_G L xs) tb_X (dep + 1) JW_feed JW_feed_h (fun r M1 t => r = some (.int 1) ∧ M1 = M2 ∧ t = 1) (0, lv_args 0 [.ref 0, .int p0, .long p1, .ref 138], [], M) := by
  have hS : im_St (tb_G L xs) (dep + 1) JW_feed (ix (tb_G L xs) tb_X (dep + 1) JW_feed JW_feed_h (fun r M1 t => r = some (.int 1) ∧ M1 = M2 ∧ t = 1)) := ix_St (tb_GX L xs)
  have l0 : im_lk (lv_args 0 [.ref 0, .int p0, .long p1, .ref 138]) 0 = some (.ref 0) := rfl
  have l1 : im_lk (lv_args 0 [.ref 0, .int p0, .long p1, .ref 138]) 1 = some (.int p0) := rfl
  have l2 : im_lk (lv_args 0 [.ref 0, .int p0, .long p1, .ref 138]) 2 = some (.long p1) := rfl
  have l4 : im_lk (lv_args 0 [.ref 0, .int p0, .long p1, .ref 138]) 4 = some (.ref 138) := rfl
  refine iq_aload hS 2 JW_feed_d0 l4 rfl ?_
  refine iq_iconst hS 3 JW_feed_d2 (v := 0) (by decide +kernel) rfl ?_
  refine iq_aload_n hS 4 JW_feed_d3 l0 rfl ?_
  refine iq_iload_n hS 5 JW_feed_d4 l1 rfl ?_
  refine iq_lload_n hS 6 JW_feed_d5 l2 rfl ?_
  refine ix_caught (tb_GX L xs) JW_feed_d6 (pr_inst (vs := [_, _]) lc_18_7 lT_95 rfl rfl (by decide) (by decide) rfl (Nat.le_of_ble_eq_true rfl) (Nat.le_of_ble_eq_true rfl) (fun _ => Or.inl ⟨(ka_0 hM).1, by rw [(ka_0 hM).2]; decide, by rw [(ka_0 hM).2]; rfl⟩)) hc (fun E M1 h => ?_)
  obtain ⟨rfl, rfl⟩ := h
  refine ⟨14, 16, _, by decide +kernel, im_forg_ok JW_feed_d14 (by decide), ?_⟩
  refine iq_iconst (ix_St (tb_GX L xs)) 17 JW_feed_d16 (v := 1) (by decide +kernel) rfl ?_
  exact ix_iret JW_feed_d17 rfl rfl ⟨rfl, rfl, rfl⟩
theorem JW_font_d0 : decode JW_font.2.1 0 = .ok (.aload_n 0, 1) := by decide +kernel
theorem JW_font_d1 : decode JW_font.2.1 1 = .ok (.iload_n 1, 1) := by decide +kernel
theorem JW_font_d2 : decode JW_font.2.1 2 = .ok (.iload_n 2, 1) := by decide +kernel
theorem JW_font_d3 : decode JW_font.2.1 3 = .ok (.iload_n 3, 1) := by decide +kernel
theorem JW_font_d4 : decode JW_font.2.1 4 = .ok (.iload 4, 2) := by decide +kernel
theorem JW_font_d6 : decode JW_font.2.1 6 = .ok (.invokevirtual 15, 3) := by decide +kernel
theorem JW_font_d9 : decode JW_font.2.1 9 = .ok (.goto 7, 3) := by decide +kernel
theorem JW_font_d16 : decode JW_font.2.1 16 = .ok (.iconst 0, 1) := by decide +kernel
theorem JW_font_d17 : decode JW_font.2.1 17 = .ok (.ireturn, 1) := by decide +kernel
theorem JW_font_d12 : decode JW_font.2.1 12 = .ok (.astore 5, 2) := by decide +kernel
theorem JW_font_d14 : decode JW_font.2.1 14 = .ok (.iconst 1, 1) := by decide +kernel
theorem JW_font_d15 : decode JW_font.2.1 15 = .ok (.ireturn, 1) := by decide +kernel
theorem W_font {L : Nat} {xs : Nat → Int32} {dep : Nat} {w w2 : Bool} {M M2 : im_M} {p0 : Int32} {p1 : Int32} {p2 : Int32} {p3 : Int32} (hM : lw_S w M) (hM2 : lw_S w2 M2) (hc : ia (tb_G L xs) dep J_H_font (fun r M1 => r = none ∧ M1 = M2) (0, lv_args 0 [.ref 0, .int p0, .int p1, .int p2, .int p3], [], M)) : ix (tb_G L xs) tb_X (dep + 1) JW_font JW_font_h (fun r M1 t => r = some (.int 0) ∧ M1 = M2 ∧ t = 0) (0, lv_args 0 [.ref 0, .int p0, .int p1, .int p2, .int p3], [], M) := by
  have hS : im_St (tb_G L xs) (dep + 1) JW_font (ix (tb_G L xs) tb_X (dep + 1) JW_font JW_font_h (fun r M1 t => r = some (.int 0) ∧ M1 = M2 ∧ t = 0)) := ix_St (tb_GX L xs)
  have l0 : im_lk (lv_args 0 [.ref 0, .int p0, .int p1, .int p2, .int p3]) 0 = some (.ref 0) := rfl
  have l1 : im_lk (lv_args 0 [.ref 0, .int p0, .int p1, .int p2, .int p3]) 1 = some (.int p0) := rfl
  have l2 : im_lk (lv_args 0 [.ref 0, .int p0, .int p1, .int p2, .int p3]) 2 = some (.int p1) := rfl
  have l3 : im_lk (lv_args 0 [.ref 0, .int p0, .int p1, .int p2, .int p3]) 3 = some (.int p2) := rfl
  have l4 : im_lk (lv_args 0 [.ref 0, .int p0, .int p1, .int p2, .int p3]) 4 = some (.int p3) := rfl
  refine iq_aload_n hS 1 JW_font_d0 l0 rfl ?_
  refine iq_iload_n hS 2 JW_font_d1 l1 rfl ?_
  refine iq_iload_n hS 3 JW_font_d2 l2 rfl ?_
  refine iq_iload_n hS 4 JW_font_d3 l3 rfl ?_
  refine iq_iload hS 6 JW_font_d4 l4 rfl ?_
  refine iq_call hS 9 JW_font_d6 rfl (pr_inst (vs := [_, _, _, _]) lc_18_15 lT_97 rfl rfl (by decide) (by decide) rfl (Nat.le_of_ble_eq_true rfl) (Nat.le_of_ble_eq_true rfl) (fun _ => Or.inl (pr_b (ka_0 hM) (by decide) rfl))) hc rfl ?_
  rintro v M1 ⟨rfl, rfl⟩
  refine iq_goto hS JW_font_d9 (t := 16) rfl ?_
  refine iq_iconst hS 17 JW_font_d16 (v := 0) (by decide +kernel) rfl ?_
  exact ix_iret JW_font_d17 rfl rfl ⟨rfl, rfl, rfl⟩
theorem W_font_0 {L : Nat} {xs : Nat → Int32} {dep : Nat} {w : Bool} {M M2 : im_M} {p0 : Int32} {p1 : Int32} {p2 : Int32} {p3 : Int32} (hM : lw_S w M) (hc : it (tb_G L xs) tb_X dep J_H_font (fun E M1 => E = 0 ∧ M1 = M2) (0, lv_args 0 [.ref 0, .int p0, .int p1, .int p2, .int p3], [], M)) : ix (tb_G L xs) tb_X (dep + 1) JW_font JW_font_h (fun r M1 t => r = some (.int 1) ∧ M1 = M2 ∧ t = 1) (0, lv_args 0 [.ref 0, .int p0, .int p1, .int p2, .int p3], [], M) := by
  have hS : im_St (tb_G L xs) (dep + 1) JW_font (ix (tb_G L xs) tb_X (dep + 1) JW_font JW_font_h (fun r M1 t => r = some (.int 1) ∧ M1 = M2 ∧ t = 1)) := ix_St (tb_GX L xs)
  have l0 : im_lk (lv_args 0 [.ref 0, .int p0, .int p1, .int p2, .int p3]) 0 = some (.ref 0) := rfl
  have l1 : im_lk (lv_args 0 [.ref 0, .int p0, .int p1, .int p2, .int p3]) 1 = some (.int p0) := rfl
  have l2 : im_lk (lv_args 0 [.ref 0, .int p0, .int p1, .int p2, .int p3]) 2 = some (.int p1) := rfl
  have l3 : im_lk (lv_args 0 [.ref 0, .int p0, .int p1, .int p2, .int p3]) 3 = some (.int p2) := rfl
  have l4 : im_lk (lv_args 0 [.ref 0, .int p0, .int p1, .int p2, .int p3]) 4 = some (.int p3) := rfl
  refine iq_aload_n hS 1 JW_font_d0 l0 rfl ?_
  refine iq_iload_n hS 2 JW_font_d1 l1 rfl ?_
  refine iq_iload_n hS 3 JW_font_d2 l2 rfl ?_
  refine iq_iload_n hS 4 JW_font_d3 l3 rfl ?_
  refine iq_iload hS 6 JW_font_d4 l4 rfl ?_
  refine ix_caught (tb_GX L xs) JW_font_d6 (pr_inst (vs := [_, _, _, _]) lc_18_15 lT_97 rfl rfl (by decide) (by decide) rfl (Nat.le_of_ble_eq_true rfl) (Nat.le_of_ble_eq_true rfl) (fun _ => Or.inl ⟨(ka_0 hM).1, by rw [(ka_0 hM).2]; decide, by rw [(ka_0 hM).2]; rfl⟩)) hc (fun E M1 h => ?_)
  obtain ⟨rfl, rfl⟩ := h
  refine ⟨12, 14, _, by decide +kernel, im_forg_ok JW_font_d12 (by decide), ?_⟩
  refine iq_iconst (ix_St (tb_GX L xs)) 15 JW_font_d14 (v := 1) (by decide +kernel) rfl ?_
  exact ix_iret JW_font_d15 rfl rfl ⟨rfl, rfl, rfl⟩
theorem JW_cell_d0 : decode JW_cell.2.1 0 = .ok (.aload_n 0, 1) := by decide +kernel
theorem JW_cell_d1 : decode JW_cell.2.1 1 = .ok (.iload_n 1, 1) := by decide +kernel
theorem JW_cell_d2 : decode JW_cell.2.1 2 = .ok (.iload_n 2, 1) := by decide +kernel
theorem JW_cell_d3 : decode JW_cell.2.1 3 = .ok (.iload_n 3, 1) := by decide +kernel
theorem JW_cell_d4 : decode JW_cell.2.1 4 = .ok (.iload 4, 2) := by decide +kernel
theorem JW_cell_d6 : decode JW_cell.2.1 6 = .ok (.invokevirtual 19, 3) := by decide +kernel
theorem JW_cell_d9 : decode JW_cell.2.1 9 = .ok (.goto 11, 3) := by decide +kernel
theorem JW_cell_d20 : decode JW_cell.2.1 20 = .ok (.iconst 0, 1) := by decide +kernel
theorem JW_cell_d21 : decode JW_cell.2.1 21 = .ok (.ireturn, 1) := by decide +kernel
theorem JW_cell_d12 : decode JW_cell.2.1 12 = .ok (.astore 5, 2) := by decide +kernel
theorem JW_cell_d14 : decode JW_cell.2.1 14 = .ok (.iconst 1, 1) := by decide +kernel
theorem JW_cell_d15 : decode JW_cell.2.1 15 = .ok (.ireturn, 1) := by decide +kernel
theorem JW_cell_d16 : decode JW_cell.2.1 16 = .ok (.astore 5, 2) := by decide +kernel
theorem JW_cell_d18 : decode JW_cell.2.1 18 = .ok (.iconst 2, 1) := by decide +kernel
theorem JW_cell_d19 : decode JW_cell.2.1 19 = .ok (.ireturn, 1) := by decide +kernel
theorem W_cell {L : Nat} {xs : Nat → Int32} {dep : Nat} {w w2 : Bool} {M M2 : im_M} {p0 : Int32} {p1 : Int32} {p2 : Int32} {p3 : Int32} (hM : lw_S w M) (hM2 : lw_S w2 M2) (hc : ia (tb_G L xs) dep J_H_cell (fun r M1 => r = none ∧ M1 = M2) (0, lv_args 0 [.ref 0, .int p0, .int p1, .int p2, .int p3], [], M)) : ix (tb_G L xs) tb_X (dep + 1) JW_cell JW_cell_h (fun r M1 t => r = some (.int 0) ∧ M1 = M2 ∧ t = 0) (0, lv_args 0 [.ref 0, .int p0, .int p1, .int p2, .int p3], [], M) := by
  have hS : im_St (tb_G L xs) (dep + 1) JW_cell (ix (tb_G L xs) tb_X (dep + 1) JW_cell JW_cell_h (fun r M1 t => r = some (.int 0) ∧ M1 = M2 ∧ t = 0)) := ix_St (tb_GX L xs)
  have l0 : im_lk (lv_args 0 [.ref 0, .int p0, .int p1, .int p2, .int p3]) 0 = some (.ref 0) := rfl
  have l1 : im_lk (lv_args 0 [.ref 0, .int p0, .int p1, .int p2, .int p3]) 1 = some (.int p0) := rfl
  have l2 : im_lk (lv_args 0 [.ref 0, .int p0, .int p1, .int p2, .int p3]) 2 = some (.int p1) := rfl
  have l3 : im_lk (lv_args 0 [.ref 0, .int p0, .int p1, .int p2, .int p3]) 3 = some (.int p2) := rfl
  have l4 : im_lk (lv_args 0 [.ref 0, .int p0, .int p1, .int p2, .int p3]) 4 = some (.int p3) := rfl
  refine iq_aload_n hS 1 JW_cell_d0 l0 rfl ?_
  refine iq_iload_n hS 2 JW_cell_d1 l1 rfl ?_
  refine iq_iload_n hS 3 JW_cell_d2 l2 rfl ?_
  refine iq_iload_n hS 4 JW_cell_d3 l3 rfl ?_
  refine iq_iload hS 6 JW_cell_d4 l4 rfl ?_
  refine iq_call hS 9 JW_cell_d6 rfl (pr_inst (vs := [_, _, _, _]) lc_18_19 lT_99 rfl rfl (by decide) (by decide) rfl (Nat.le_of_ble_eq_true rfl) (Nat.le_of_ble_eq_true rfl) (fun _ => Or.inl (pr_b (ka_0 hM) (by decide) rfl))) hc rfl ?_
  rintro v M1 ⟨rfl, rfl⟩
  refine iq_goto hS JW_cell_d9 (t := 20) rfl ?_
  refine iq_iconst hS 21 JW_cell_d20 (v := 0) (by decide +kernel) rfl ?_
  exact ix_iret JW_cell_d21 rfl rfl ⟨rfl, rfl, rfl⟩
theorem W_cell_0 {L : Nat} {xs : Nat → Int32} {dep : Nat} {w : Bool} {M M2 : im_M} {p0 : Int32} {p1 : Int32} {p2 : Int32} {p3 : Int32} (hM : lw_S w M) (hc : it (tb_G L xs) tb_X dep J_H_cell (fun E M1 => E = 0 ∧ M1 = M2) (0, lv_args 0 [.ref 0, .int p0, .int p1, .int p2, .int p3], [], M)) : ix (tb_G L xs) tb_X (dep + 1) JW_cell JW_cell_h (fun r M1 t => r = some (.int 1) ∧ M1 = M2 ∧ t = 1) (0, lv_args 0 [.ref 0, .int p0, .int p1, .int p2, .int p3], [], M) := by
  have hS : im_St (tb_G L xs) (dep + 1) JW_cell (ix (tb_G L xs) tb_X (dep + 1) JW_cell JW_cell_h (fun r M1 t => r = some (.int 1) ∧ M1 = M2 ∧ t = 1)) := ix_St (tb_GX L xs)
  have l0 : im_lk (lv_args 0 [.ref 0, .int p0, .int p1, .int p2, .int p3]) 0 = some (.ref 0) := rfl
  have l1 : im_lk (lv_args 0 [.ref 0, .int p0, .int p1, .int p2, .int p3]) 1 = some (.int p0) := rfl
  have l2 : im_lk (lv_args 0 [.ref 0, .int p0, .int p1, .int p2, .int p3]) 2 = some (.int p1) := rfl
  have l3 : im_lk (lv_args 0 [.ref 0, .int p0, .int p1, .int p2, .int p3]) 3 = some (.int p2) := rfl
  have l4 : im_lk (lv_args 0 [.ref 0, .int p0, .int p1, .int p2, .int p3]) 4 = some (.int p3) := rfl
  refine iq_aload_n hS 1 JW_cell_d0 l0 rfl ?_
  refine iq_iload_n hS 2 JW_cell_d1 l1 rfl ?_
  refine iq_iload_n hS 3 JW_cell_d2 l2 rfl ?_
  refine iq_iload_n hS 4 JW_cell_d3 l3 rfl ?_
  refine iq_iload hS 6 JW_cell_d4 l4 rfl ?_
  refine ix_caught (tb_GX L xs) JW_cell_d6 (pr_inst (vs := [_, _, _, _]) lc_18_19 lT_99 rfl rfl (by decide) (by decide) rfl (Nat.le_of_ble_eq_true rfl) (Nat.le_of_ble_eq_true rfl) (fun _ => Or.inl ⟨(ka_0 hM).1, by rw [(ka_0 hM).2]; decide, by rw [(ka_0 hM).2]; rfl⟩)) hc (fun E M1 h => ?_)
  obtain ⟨rfl, rfl⟩ := h
  refine ⟨12, 14, _, by decide +kernel, im_forg_ok JW_cell_d12 (by decide), ?_⟩
  refine iq_iconst (ix_St (tb_GX L xs)) 15 JW_cell_d14 (v := 1) (by decide +kernel) rfl ?_
  exact ix_iret JW_cell_d15 rfl rfl ⟨rfl, rfl, rfl⟩
theorem W_cell_1 {L : Nat} {xs : Nat → Int32} {dep : Nat} {w : Bool} {M M2 : im_M} {p0 : Int32} {p1 : Int32} {p2 : Int32} {p3 : Int32} (hM : lw_S w M) (hc : it (tb_G L xs) tb_X dep J_H_cell (fun E M1 => E = 1 ∧ M1 = M2) (0, lv_args 0 [.ref 0, .int p0, .int p1, .int p2, .int p3], [], M)) : ix (tb_G L xs) tb_X (dep + 1) JW_cell JW_cell_h (fun r M1 t => r = some (.int 2) ∧ M1 = M2 ∧ t = 1) (0, lv_args 0 [.ref 0, .int p0, .int p1, .int p2, .int p3], [], M) := by
  have hS : im_St (tb_G L xs) (dep + 1) JW_cell (ix (tb_G L xs) tb_X (dep + 1) JW_cell JW_cell_h (fun r M1 t => r = some (.int 2) ∧ M1 = M2 ∧ t = 1)) := ix_St (tb_GX L xs)
  have l0 : im_lk (lv_args 0 [.ref 0, .int p0, .int p1, .int p2, .int p3]) 0 = some (.ref 0) := rfl
  have l1 : im_lk (lv_args 0 [.ref 0, .int p0, .int p1, .int p2, .int p3]) 1 = some (.int p0) := rfl
  have l2 : im_lk (lv_args 0 [.ref 0, .int p0, .int p1, .int p2, .int p3]) 2 = some (.int p1) := rfl
  have l3 : im_lk (lv_args 0 [.ref 0, .int p0, .int p1, .int p2, .int p3]) 3 = some (.int p2) := rfl
  have l4 : im_lk (lv_args 0 [.ref 0, .int p0, .int p1, .int p2, .int p3]) 4 = some (.int p3) := rfl
  refine iq_aload_n hS 1 JW_cell_d0 l0 rfl ?_
  refine iq_iload_n hS 2 JW_cell_d1 l1 rfl ?_
  refine iq_iload_n hS 3 JW_cell_d2 l2 rfl ?_
  refine iq_iload_n hS 4 JW_cell_d3 l3 rfl ?_
  refine iq_iload hS 6 JW_cell_d4 l4 rfl ?_
  refine ix_caught (tb_GX L xs) JW_cell_d6 (pr_inst (vs := [_, _, _, _]) lc_18_19 lT_99 rfl rfl (by decide) (by decide) rfl (Nat.le_of_ble_eq_true rfl) (Nat.le_of_ble_eq_true rfl) (fun _ => Or.inl ⟨(ka_0 hM).1, by rw [(ka_0 hM).2]; decide, by rw [(ka_0 hM).2]; rfl⟩)) hc (fun E M1 h => ?_)
  obtain ⟨rfl, rfl⟩ := h
  refine ⟨16, 18, _, by decide +kernel, im_forg_ok JW_cell_d16 (by decide), ?_⟩
  refine iq_iconst (ix_St (tb_GX L xs)) 19 JW_cell_d18 (v := 2) (by decide +kernel) rfl ?_
  exact ix_iret JW_cell_d19 rfl rfl ⟨rfl, rfl, rfl⟩
theorem JW_label_d0 : decode JW_label.2.1 0 = .ok (.aload_n 3, 1) := by decide +kernel
theorem JW_label_d1 : decode JW_label.2.1 1 = .ok (.iconst 0, 1) := by decide +kernel
theorem JW_label_d2 : decode JW_label.2.1 2 = .ok (.aload_n 0, 1) := by decide +kernel
theorem JW_label_d3 : decode JW_label.2.1 3 = .ok (.iload_n 1, 1) := by decide +kernel
theorem JW_label_d4 : decode JW_label.2.1 4 = .ok (.iload_n 2, 1) := by decide +kernel
theorem JW_label_d5 : decode JW_label.2.1 5 = .ok (.invokevirtual 24, 3) := by decide +kernel
theorem JW_label_d8 : decode JW_label.2.1 8 = .ok (.i2l, 1) := by decide +kernel
theorem JW_label_d9 : decode JW_label.2.1 9 = .ok (.lastore, 1) := by decide +kernel
theorem JW_label_d10 : decode JW_label.2.1 10 = .ok (.goto 7, 3) := by decide +kernel
theorem JW_label_d17 : decode JW_label.2.1 17 = .ok (.iconst 0, 1) := by decide +kernel
theorem JW_label_d18 : decode JW_label.2.1 18 = .ok (.ireturn, 1) := by decide +kernel
theorem JW_label_d13 : decode JW_label.2.1 13 = .ok (.astore 4, 2) := by decide +kernel
theorem JW_label_d15 : decode JW_label.2.1 15 = .ok (.iconst 1, 1) := by decide +kernel
theorem JW_label_d16 : decode JW_label.2.1 16 = .ok (.ireturn, 1) := by decide +kernel
theorem W_label {L : Nat} {xs : Nat → Int32} {dep : Nat} {w w2 : Bool} {M M2 : im_M} {p0 : Int32} {p1 : Int32} {x : Int32} (hM : lw_S w M) (hM2 : lw_S w2 M2) (hc : ia (tb_G L xs) dep J_H_label (fun r M1 => r = some (.int x) ∧ M1 = M2) (0, lv_args 0 [.ref 0, .int p0, .int p1], [], M)) : ix (tb_G L xs) tb_X (dep + 1) JW_label JW_label_h (fun r M1 t => r = some (.int 0) ∧ M1 = im_setL M2 138 0 x.toInt64 ∧ t = 0) (0, lv_args 0 [.ref 0, .int p0, .int p1, .ref 138], [], M) := by
  have hS : im_St (tb_G L xs) (dep + 1) JW_label (ix (tb_G L xs) tb_X (dep + 1) JW_label JW_label_h (fun r M1 t => r = some (.int 0) ∧ M1 = im_setL M2 138 0 x.toInt64 ∧ t = 0)) := ix_St (tb_GX L xs)
  have l0 : im_lk (lv_args 0 [.ref 0, .int p0, .int p1, .ref 138]) 0 = some (.ref 0) := rfl
  have l1 : im_lk (lv_args 0 [.ref 0, .int p0, .int p1, .ref 138]) 1 = some (.int p0) := rfl
  have l2 : im_lk (lv_args 0 [.ref 0, .int p0, .int p1, .ref 138]) 2 = some (.int p1) := rfl
  have l3 : im_lk (lv_args 0 [.ref 0, .int p0, .int p1, .ref 138]) 3 = some (.ref 138) := rfl
  refine iq_aload_n hS 1 JW_label_d0 l3 rfl ?_
  refine iq_iconst hS 2 JW_label_d1 (v := 0) (by decide +kernel) rfl ?_
  refine iq_aload_n hS 3 JW_label_d2 l0 rfl ?_
  refine iq_iload_n hS 4 JW_label_d3 l1 rfl ?_
  refine iq_iload_n hS 5 JW_label_d4 l2 rfl ?_
  refine iq_call hS 8 JW_label_d5 rfl (pr_inst (vs := [_, _]) lc_18_24 lT_102 rfl rfl (by decide) (by decide) rfl (Nat.le_of_ble_eq_true rfl) (Nat.le_of_ble_eq_true rfl) (fun _ => Or.inl (pr_b (ka_0 hM) (by decide) rfl))) hc rfl ?_
  rintro v M1 ⟨rfl, rfl⟩
  refine iq_i2l hS 9 JW_label_d8 rfl ?_
  refine iq_lastore hS 10 JW_label_d9 ⟨(ka_138 hM2).1, (ka_138 hM2).2, by decide, ix_lt (kl_138 hM2) (by decide)⟩ rfl ?_
  refine iq_goto hS JW_label_d10 (t := 17) rfl ?_
  refine iq_iconst hS 18 JW_label_d17 (v := 0) (by decide +kernel) rfl ?_
  exact ix_iret JW_label_d18 rfl rfl ⟨rfl, rfl, rfl⟩
theorem W_label_0 {L : Nat} {xs : Nat → Int32} {dep : Nat} {w : Bool} {M M2 : im_M} {p0 : Int32} {p1 : Int32} (hM : lw_S w M) (hc : it (tb_G L xs) tb_X dep J_H_label (fun E M1 => E = 0 ∧ M1 = M2) (0, lv_args 0 [.ref 0, .int p0, .int p1], [], M)) : ix (tb_G L xs) tb_X (dep + 1) JW_label JW_label_h (fun r M1 t => r = some (.int 1) ∧ M1 = M2 ∧ t = 1) (0, lv_args 0 [.ref 0, .int p0, .int p1, .ref 138], [], M) := by
  have hS : im_St (tb_G L xs) (dep + 1) JW_label (ix (tb_G L xs) tb_X (dep + 1) JW_label JW_label_h (fun r M1 t => r = some (.int 1) ∧ M1 = M2 ∧ t = 1)) := ix_St (tb_GX L xs)
  have l0 : im_lk (lv_args 0 [.ref 0, .int p0, .int p1, .ref 138]) 0 = some (.ref 0) := rfl
  have l1 : im_lk (lv_args 0 [.ref 0, .int p0, .int p1, .ref 138]) 1 = some (.int p0) := rfl
  have l2 : im_lk (lv_args 0 [.ref 0, .int p0, .int p1, .ref 138]) 2 = some (.int p1) := rfl
  have l3 : im_lk (lv_args 0 [.ref 0, .int p0, .int p1, .ref 138]) 3 = some (.ref 138) := rfl
  refine iq_aload_n hS 1 JW_label_d0 l3 rfl ?_
  refine iq_iconst hS 2 JW_label_d1 (v := 0) (by decide +kernel) rfl ?_
  refine iq_aload_n hS 3 JW_label_d2 l0 rfl ?_
  refine iq_iload_n hS 4 JW_label_d3 l1 rfl ?_
  refine iq_iload_n hS 5 JW_label_d4 l2 rfl ?_
  refine ix_caught (tb_GX L xs) JW_label_d5 (pr_inst (vs := [_, _]) lc_18_24 lT_102 rfl rfl (by decide) (by decide) rfl (Nat.le_of_ble_eq_true rfl) (Nat.le_of_ble_eq_true rfl) (fun _ => Or.inl ⟨(ka_0 hM).1, by rw [(ka_0 hM).2]; decide, by rw [(ka_0 hM).2]; rfl⟩)) hc (fun E M1 h => ?_)
  obtain ⟨rfl, rfl⟩ := h
  refine ⟨13, 15, _, by decide +kernel, im_forg_ok JW_label_d13 (by decide), ?_⟩
  refine iq_iconst (ix_St (tb_GX L xs)) 16 JW_label_d15 (v := 1) (by decide +kernel) rfl ?_
  exact ix_iret JW_label_d16 rfl rfl ⟨rfl, rfl, rfl⟩
theorem JW_order_d0 : decode JW_order.2.1 0 = .ok (.aload_n 3, 1) := by decide +kernel
theorem JW_order_d1 : decode JW_order.2.1 1 = .ok (.iconst 0, 1) := by decide +kernel
theorem JW_order_d2 : decode JW_order.2.1 2 = .ok (.aload_n 0, 1) := by decide +kernel
theorem JW_order_d3 : decode JW_order.2.1 3 = .ok (.iload_n 1, 1) := by decide +kernel
theorem JW_order_d4 : decode JW_order.2.1 4 = .ok (.iload_n 2, 1) := by decide +kernel
theorem JW_order_d5 : decode JW_order.2.1 5 = .ok (.invokevirtual 28, 3) := by decide +kernel
theorem JW_order_d8 : decode JW_order.2.1 8 = .ok (.i2l, 1) := by decide +kernel
theorem JW_order_d9 : decode JW_order.2.1 9 = .ok (.lastore, 1) := by decide +kernel
theorem JW_order_d10 : decode JW_order.2.1 10 = .ok (.goto 11, 3) := by decide +kernel
theorem JW_order_d21 : decode JW_order.2.1 21 = .ok (.iconst 0, 1) := by decide +kernel
theorem JW_order_d22 : decode JW_order.2.1 22 = .ok (.ireturn, 1) := by decide +kernel
theorem JW_order_d13 : decode JW_order.2.1 13 = .ok (.astore 4, 2) := by decide +kernel
theorem JW_order_d15 : decode JW_order.2.1 15 = .ok (.iconst 1, 1) := by decide +kernel
theorem JW_order_d16 : decode JW_order.2.1 16 = .ok (.ireturn, 1) := by decide +kernel
theorem JW_order_d17 : decode JW_order.2.1 17 = .ok (.astore 4, 2) := by decide +kernel
theorem JW_order_d19 : decode JW_order.2.1 19 = .ok (.iconst 2, 1) := by decide +kernel
theorem JW_order_d20 : decode JW_order.2.1 20 = .ok (.ireturn, 1) := by decide +kernel
theorem W_order {L : Nat} {xs : Nat → Int32} {dep : Nat} {w w2 : Bool} {M M2 : im_M} {p0 : Int32} {p1 : Int32} {x : Int32} (hM : lw_S w M) (hM2 : lw_S w2 M2) (hc : ia (tb_G L xs) dep J_H_order (fun r M1 => r = some (.int x) ∧ M1 = M2) (0, lv_args 0 [.ref 0, .int p0, .int p1], [], M)) : ix (tb_G L xs) tb_X (dep + 1) JW_order JW_order_h (fun r M1 t => r = some (.int 0) ∧ M1 = im_setL M2 138 0 x.toInt64 ∧ t = 0) (0, lv_args 0 [.ref 0, .int p0, .int p1, .ref 138], [], M) := by
  have hS : im_St (tb_G L xs) (dep + 1) JW_order (ix (tb_G L xs) tb_X (dep + 1) JW_order JW_order_h (fun r M1 t => r = some (.int 0) ∧ M1 = im_setL M2 138 0 x.toInt64 ∧ t = 0)) := ix_St (tb_GX L xs)
  have l0 : im_lk (lv_args 0 [.ref 0, .int p0, .int p1, .ref 138]) 0 = some (.ref 0) := rfl
  have l1 : im_lk (lv_args 0 [.ref 0, .int p0, .int p1, .ref 138]) 1 = some (.int p0) := rfl
  have l2 : im_lk (lv_args 0 [.ref 0, .int p0, .int p1, .ref 138]) 2 = some (.int p1) := rfl
  have l3 : im_lk (lv_args 0 [.ref 0, .int p0, .int p1, .ref 138]) 3 = some (.ref 138) := rfl
  refine iq_aload_n hS 1 JW_order_d0 l3 rfl ?_
  refine iq_iconst hS 2 JW_order_d1 (v := 0) (by decide +kernel) rfl ?_
  refine iq_aload_n hS 3 JW_order_d2 l0 rfl ?_
  refine iq_iload_n hS 4 JW_order_d3 l1 rfl ?_
  refine iq_iload_n hS 5 JW_order_d4 l2 rfl ?_
  refine iq_call hS 8 JW_order_d5 rfl (pr_inst (vs := [_, _]) lc_18_28 lT_103 rfl rfl (by decide) (by decide) rfl (Nat.le_of_ble_eq_true rfl) (Nat.le_of_ble_eq_true rfl) (fun _ => Or.inl (pr_b (ka_0 hM) (by decide) rfl))) hc rfl ?_
  rintro v M1 ⟨rfl, rfl⟩
  refine iq_i2l hS 9 JW_order_d8 rfl ?_
  refine iq_lastore hS 10 JW_order_d9 ⟨(ka_138 hM2).1, (ka_138 hM2).2, by decide, ix_lt (kl_138 hM2) (by decide)⟩ rfl ?_
  refine iq_goto hS JW_order_d10 (t := 21) rfl ?_
  refine iq_iconst hS 22 JW_order_d21 (v := 0) (by decide +kernel) rfl ?_
  exact ix_iret JW_order_d22 rfl rfl ⟨rfl, rfl, rfl⟩
theorem W_order_0 {L : Nat} {xs : Nat → Int32} {dep : Nat} {w : Bool} {M M2 : im_M} {p0 : Int32} {p1 : Int32} (hM : lw_S w M) (hc : it (tb_G L xs) tb_X dep J_H_order (fun E M1 => E = 0 ∧ M1 = M2) (0, lv_args 0 [.ref 0, .int p0, .int p1], [], M)) : ix (tb_G L xs) tb_X (dep + 1) JW_order JW_order_h (fun r M1 t => r = some (.int 1) ∧ M1 = M2 ∧ t = 1) (0, lv_args 0 [.ref 0, .int p0, .int p1, .ref 138], [], M) := by
  have hS : im_St (tb_G L xs) (dep + 1) JW_order (ix (tb_G L xs) tb_X (dep + 1) JW_order JW_order_h (fun r M1 t => r = some (.int 1) ∧ M1 = M2 ∧ t = 1)) := ix_St (tb_GX L xs)
  have l0 : im_lk (lv_args 0 [.ref 0, .int p0, .int p1, .ref 138]) 0 = some (.ref 0) := rfl
  have l1 : im_lk (lv_args 0 [.ref 0, .int p0, .int p1, .ref 138]) 1 = some (.int p0) := rfl
  have l2 : im_lk (lv_args 0 [.ref 0, .int p0, .int p1, .ref 138]) 2 = some (.int p1) := rfl
  have l3 : im_lk (lv_args 0 [.ref 0, .int p0, .int p1, .ref 138]) 3 = some (.ref 138) := rfl
  refine iq_aload_n hS 1 JW_order_d0 l3 rfl ?_
  refine iq_iconst hS 2 JW_order_d1 (v := 0) (by decide +kernel) rfl ?_
  refine iq_aload_n hS 3 JW_order_d2 l0 rfl ?_
  refine iq_iload_n hS 4 JW_order_d3 l1 rfl ?_
  refine iq_iload_n hS 5 JW_order_d4 l2 rfl ?_
  refine ix_caught (tb_GX L xs) JW_order_d5 (pr_inst (vs := [_, _]) lc_18_28 lT_103 rfl rfl (by decide) (by decide) rfl (Nat.le_of_ble_eq_true rfl) (Nat.le_of_ble_eq_true rfl) (fun _ => Or.inl ⟨(ka_0 hM).1, by rw [(ka_0 hM).2]; decide, by rw [(ka_0 hM).2]; rfl⟩)) hc (fun E M1 h => ?_)
  obtain ⟨rfl, rfl⟩ := h
  refine ⟨13, 15, _, by decide +kernel, im_forg_ok JW_order_d13 (by decide), ?_⟩
  refine iq_iconst (ix_St (tb_GX L xs)) 16 JW_order_d15 (v := 1) (by decide +kernel) rfl ?_
  exact ix_iret JW_order_d16 rfl rfl ⟨rfl, rfl, rfl⟩
theorem W_order_1 {L : Nat} {xs : Nat → Int32} {dep : Nat} {w : Bool} {M M2 : im_M} {p0 : Int32} {p1 : Int32} (hM : lw_S w M) (hc : it (tb_G L xs) tb_X dep J_H_order (fun E M1 => E = 1 ∧ M1 = M2) (0, lv_args 0 [.ref 0, .int p0, .int p1], [], M)) : ix (tb_G L xs) tb_X (dep + 1) JW_order JW_order_h (fun r M1 t => r = some (.int 2) ∧ M1 = M2 ∧ t = 1) (0, lv_args 0 [.ref 0, .int p0, .int p1, .ref 138], [], M) := by
  have hS : im_St (tb_G L xs) (dep + 1) JW_order (ix (tb_G L xs) tb_X (dep + 1) JW_order JW_order_h (fun r M1 t => r = some (.int 2) ∧ M1 = M2 ∧ t = 1)) := ix_St (tb_GX L xs)
  have l0 : im_lk (lv_args 0 [.ref 0, .int p0, .int p1, .ref 138]) 0 = some (.ref 0) := rfl
  have l1 : im_lk (lv_args 0 [.ref 0, .int p0, .int p1, .ref 138]) 1 = some (.int p0) := rfl
  have l2 : im_lk (lv_args 0 [.ref 0, .int p0, .int p1, .ref 138]) 2 = some (.int p1) := rfl
  have l3 : im_lk (lv_args 0 [.ref 0, .int p0, .int p1, .ref 138]) 3 = some (.ref 138) := rfl
  refine iq_aload_n hS 1 JW_order_d0 l3 rfl ?_
  refine iq_iconst hS 2 JW_order_d1 (v := 0) (by decide +kernel) rfl ?_
  refine iq_aload_n hS 3 JW_order_d2 l0 rfl ?_
  refine iq_iload_n hS 4 JW_order_d3 l1 rfl ?_
  refine iq_iload_n hS 5 JW_order_d4 l2 rfl ?_
  refine ix_caught (tb_GX L xs) JW_order_d5 (pr_inst (vs := [_, _]) lc_18_28 lT_103 rfl rfl (by decide) (by decide) rfl (Nat.le_of_ble_eq_true rfl) (Nat.le_of_ble_eq_true rfl) (fun _ => Or.inl ⟨(ka_0 hM).1, by rw [(ka_0 hM).2]; decide, by rw [(ka_0 hM).2]; rfl⟩)) hc (fun E M1 h => ?_)
  obtain ⟨rfl, rfl⟩ := h
  refine ⟨17, 19, _, by decide +kernel, im_forg_ok JW_order_d17 (by decide), ?_⟩
  refine iq_iconst (ix_St (tb_GX L xs)) 20 JW_order_d19 (v := 2) (by decide +kernel) rfl ?_
  exact ix_iret JW_order_d20 rfl rfl ⟨rfl, rfl, rfl⟩
theorem JW_data_d0 : decode JW_data.2.1 0 = .ok (.aload_n 3, 1) := by decide +kernel
theorem JW_data_d1 : decode JW_data.2.1 1 = .ok (.iconst 0, 1) := by decide +kernel
theorem JW_data_d2 : decode JW_data.2.1 2 = .ok (.aload_n 0, 1) := by decide +kernel
theorem JW_data_d3 : decode JW_data.2.1 3 = .ok (.iload_n 1, 1) := by decide +kernel
theorem JW_data_d4 : decode JW_data.2.1 4 = .ok (.iload_n 2, 1) := by decide +kernel
theorem JW_data_d5 : decode JW_data.2.1 5 = .ok (.invokevirtual 31, 3) := by decide +kernel
theorem JW_data_d8 : decode JW_data.2.1 8 = .ok (.lastore, 1) := by decide +kernel
theorem JW_data_d9 : decode JW_data.2.1 9 = .ok (.goto 7, 3) := by decide +kernel
theorem JW_data_d16 : decode JW_data.2.1 16 = .ok (.iconst 0, 1) := by decide +kernel
theorem JW_data_d17 : decode JW_data.2.1 17 = .ok (.ireturn, 1) := by decide +kernel
theorem JW_data_d12 : decode JW_data.2.1 12 = .ok (.astore 4, 2) := by decide +kernel
theorem JW_data_d14 : decode JW_data.2.1 14 = .ok (.iconst 1, 1) := by decide +kernel
theorem JW_data_d15 : decode JW_data.2.1 15 = .ok (.ireturn, 1) := by decide +kernel
theorem W_data {L : Nat} {xs : Nat → Int32} {dep : Nat} {w w2 : Bool} {M M2 : im_M} {p0 : Int32} {p1 : Int32} {x : Int64} (hM : lw_S w M) (hM2 : lw_S w2 M2) (hc : ia (tb_G L xs) dep J_H_data (fun r M1 => r = some (.long x) ∧ M1 = M2) (0, lv_args 0 [.ref 0, .int p0, .int p1], [], M)) : ix (tb_G L xs) tb_X (dep + 1) JW_data JW_data_h (fun r M1 t => r = some (.int 0) ∧ M1 = im_setL M2 138 0 x ∧ t = 0) (0, lv_args 0 [.ref 0, .int p0, .int p1, .ref 138], [], M) := by
  have hS : im_St (tb_G L xs) (dep + 1) JW_data (ix (tb_G L xs) tb_X (dep + 1) JW_data JW_data_h (fun r M1 t => r = some (.int 0) ∧ M1 = im_setL M2 138 0 x ∧ t = 0)) := ix_St (tb_GX L xs)
  have l0 : im_lk (lv_args 0 [.ref 0, .int p0, .int p1, .ref 138]) 0 = some (.ref 0) := rfl
  have l1 : im_lk (lv_args 0 [.ref 0, .int p0, .int p1, .ref 138]) 1 = some (.int p0) := rfl
  have l2 : im_lk (lv_args 0 [.ref 0, .int p0, .int p1, .ref 138]) 2 = some (.int p1) := rfl
  have l3 : im_lk (lv_args 0 [.ref 0, .int p0, .int p1, .ref 138]) 3 = some (.ref 138) := rfl
  refine iq_aload_n hS 1 JW_data_d0 l3 rfl ?_
  refine iq_iconst hS 2 JW_data_d1 (v := 0) (by decide +kernel) rfl ?_
  refine iq_aload_n hS 3 JW_data_d2 l0 rfl ?_
  refine iq_iload_n hS 4 JW_data_d3 l1 rfl ?_
  refine iq_iload_n hS 5 JW_data_d4 l2 rfl ?_
  refine iq_call hS 8 JW_data_d5 rfl (pr_inst (vs := [_, _]) lc_18_31 lT_104 rfl rfl (by decide) (by decide) rfl (Nat.le_of_ble_eq_true rfl) (Nat.le_of_ble_eq_true rfl) (fun _ => Or.inl (pr_b (ka_0 hM) (by decide) rfl))) hc rfl ?_
  rintro v M1 ⟨rfl, rfl⟩
  refine iq_lastore hS 9 JW_data_d8 ⟨(ka_138 hM2).1, (ka_138 hM2).2, by decide, ix_lt (kl_138 hM2) (by decide)⟩ rfl ?_
  refine iq_goto hS JW_data_d9 (t := 16) rfl ?_
  refine iq_iconst hS 17 JW_data_d16 (v := 0) (by decide +kernel) rfl ?_
  exact ix_iret JW_data_d17 rfl rfl ⟨rfl, rfl, rfl⟩
theorem W_data_1 {L : Nat} {xs : Nat → Int32} {dep : Nat} {w : Bool} {M M2 : im_M} {p0 : Int32} {p1 : Int32} (hM : lw_S w M) (hc : it (tb_G L xs) tb_X dep J_H_data (fun E M1 => E = 1 ∧ M1 = M2) (0, lv_args 0 [.ref 0, .int p0, .int p1], [], M)) : ix (tb_G L xs) tb_X (dep + 1) JW_data JW_data_h (fun r M1 t => r = some (.int 1) ∧ M1 = M2 ∧ t = 1) (0, lv_args 0 [.ref 0, .int p0, .int p1, .ref 138], [], M) := by
  have hS : im_St (tb_G L xs) (dep + 1) JW_data (ix (tb_G L xs) tb_X (dep + 1) JW_data JW_data_h (fun r M1 t => r = some (.int 1) ∧ M1 = M2 ∧ t = 1)) := ix_St (tb_GX L xs)
  have l0 : im_lk (lv_args 0 [.ref 0, .int p0, .int p1, .ref 138]) 0 = some (.ref 0) := rfl
  have l1 : im_lk (lv_args 0 [.ref 0, .int p0, .int p1, .ref 138]) 1 = some (.int p0) := rfl
  have l2 : im_lk (lv_args 0 [.ref 0, .int p0, .int p1, .ref 138]) 2 = some (.int p1) := rfl
  have l3 : im_lk (lv_args 0 [.ref 0, .int p0, .int p1, .ref 138]) 3 = some (.ref 138) := rfl
  refine iq_aload_n hS 1 JW_data_d0 l3 rfl ?_
  refine iq_iconst hS 2 JW_data_d1 (v := 0) (by decide +kernel) rfl ?_
  refine iq_aload_n hS 3 JW_data_d2 l0 rfl ?_
  refine iq_iload_n hS 4 JW_data_d3 l1 rfl ?_
  refine iq_iload_n hS 5 JW_data_d4 l2 rfl ?_
  refine ix_caught (tb_GX L xs) JW_data_d5 (pr_inst (vs := [_, _]) lc_18_31 lT_104 rfl rfl (by decide) (by decide) rfl (Nat.le_of_ble_eq_true rfl) (Nat.le_of_ble_eq_true rfl) (fun _ => Or.inl ⟨(ka_0 hM).1, by rw [(ka_0 hM).2]; decide, by rw [(ka_0 hM).2]; rfl⟩)) hc (fun E M1 h => ?_)
  obtain ⟨rfl, rfl⟩ := h
  refine ⟨12, 14, _, by decide +kernel, im_forg_ok JW_data_d12 (by decide), ?_⟩
  refine iq_iconst (ix_St (tb_GX L xs)) 15 JW_data_d14 (v := 1) (by decide +kernel) rfl ?_
  exact ix_iret JW_data_d15 rfl rfl ⟨rfl, rfl, rfl⟩
theorem JW_print_d0 : decode JW_print.2.1 0 = .ok (.aload_n 2, 1) := by decide +kernel
theorem JW_print_d1 : decode JW_print.2.1 1 = .ok (.iconst 0, 1) := by decide +kernel
theorem JW_print_d2 : decode JW_print.2.1 2 = .ok (.aload_n 0, 1) := by decide +kernel
theorem JW_print_d3 : decode JW_print.2.1 3 = .ok (.iload_n 1, 1) := by decide +kernel
theorem JW_print_d4 : decode JW_print.2.1 4 = .ok (.invokevirtual 35, 3) := by decide +kernel
theorem JW_print_d7 : decode JW_print.2.1 7 = .ok (.i2l, 1) := by decide +kernel
theorem JW_print_d8 : decode JW_print.2.1 8 = .ok (.lastore, 1) := by decide +kernel
theorem JW_print_d9 : decode JW_print.2.1 9 = .ok (.goto 6, 3) := by decide +kernel
theorem JW_print_d15 : decode JW_print.2.1 15 = .ok (.iconst 0, 1) := by decide +kernel
theorem JW_print_d16 : decode JW_print.2.1 16 = .ok (.ireturn, 1) := by decide +kernel
theorem JW_print_d12 : decode JW_print.2.1 12 = .ok (.astore_n 3, 1) := by decide +kernel
theorem JW_print_d13 : decode JW_print.2.1 13 = .ok (.iconst 1, 1) := by decide +kernel
theorem JW_print_d14 : decode JW_print.2.1 14 = .ok (.ireturn, 1) := by decide +kernel
theorem W_print {L : Nat} {xs : Nat → Int32} {dep : Nat} {w w2 : Bool} {M M2 : im_M} {p0 : Int32} {x : Int32} (hM : lw_S w M) (hM2 : lw_S w2 M2) (hc : ia (tb_G L xs) dep J_H_print (fun r M1 => r = some (.int x) ∧ M1 = M2) (0, lv_args 0 [.ref 0, .int p0], [], M)) : ix (tb_G L xs) tb_X (dep + 1) JW_print JW_print_h (fun r M1 t => r = some (.int 0) ∧ M1 = im_setL M2 138 0 x.toInt64 ∧ t = 0) (0, lv_args 0 [.ref 0, .int p0, .ref 138], [], M) := by
  have hS : im_St (tb_G L xs) (dep + 1) JW_print (ix (tb_G L xs) tb_X (dep + 1) JW_print JW_print_h (fun r M1 t => r = some (.int 0) ∧ M1 = im_setL M2 138 0 x.toInt64 ∧ t = 0)) := ix_St (tb_GX L xs)
  have l0 : im_lk (lv_args 0 [.ref 0, .int p0, .ref 138]) 0 = some (.ref 0) := rfl
  have l1 : im_lk (lv_args 0 [.ref 0, .int p0, .ref 138]) 1 = some (.int p0) := rfl
  have l2 : im_lk (lv_args 0 [.ref 0, .int p0, .ref 138]) 2 = some (.ref 138) := rfl
  refine iq_aload_n hS 1 JW_print_d0 l2 rfl ?_
  refine iq_iconst hS 2 JW_print_d1 (v := 0) (by decide +kernel) rfl ?_
  refine iq_aload_n hS 3 JW_print_d2 l0 rfl ?_
  refine iq_iload_n hS 4 JW_print_d3 l1 rfl ?_
  refine iq_call hS 7 JW_print_d4 rfl (pr_inst (vs := [_]) lc_18_35 lT_105 rfl rfl (by decide) (by decide) rfl (Nat.le_of_ble_eq_true rfl) (Nat.le_of_ble_eq_true rfl) (fun _ => Or.inl (pr_b (ka_0 hM) (by decide) rfl))) hc rfl ?_
  rintro v M1 ⟨rfl, rfl⟩
  refine iq_i2l hS 8 JW_print_d7 rfl ?_
  refine iq_lastore hS 9 JW_print_d8 ⟨(ka_138 hM2).1, (ka_138 hM2).2, by decide, ix_lt (kl_138 hM2) (by decide)⟩ rfl ?_
  refine iq_goto hS JW_print_d9 (t := 15) rfl ?_
  refine iq_iconst hS 16 JW_print_d15 (v := 0) (by decide +kernel) rfl ?_
  exact ix_iret JW_print_d16 rfl rfl ⟨rfl, rfl, rfl⟩
theorem W_print_1 {L : Nat} {xs : Nat → Int32} {dep : Nat} {w : Bool} {M M2 : im_M} {p0 : Int32} (hM : lw_S w M) (hc : it (tb_G L xs) tb_X dep J_H_print (fun E M1 => E = 1 ∧ M1 = M2) (0, lv_args 0 [.ref 0, .int p0], [], M)) : ix (tb_G L xs) tb_X (dep + 1) JW_print JW_print_h (fun r M1 t => r = some (.int 1) ∧ M1 = M2 ∧ t = 1) (0, lv_args 0 [.ref 0, .int p0, .ref 138], [], M) := by
  have hS : im_St (tb_G L xs) (dep + 1) JW_print (ix (tb_G L xs) tb_X (dep + 1) JW_print JW_print_h (fun r M1 t => r = some (.int 1) ∧ M1 = M2 ∧ t = 1)) := ix_St (tb_GX L xs)
  have l0 : im_lk (lv_args 0 [.ref 0, .int p0, .ref 138]) 0 = some (.ref 0) := rfl
  have l1 : im_lk (lv_args 0 [.ref 0, .int p0, .ref 138]) 1 = some (.int p0) := rfl
  have l2 : im_lk (lv_args 0 [.ref 0, .int p0, .ref 138]) 2 = some (.ref 138) := rfl
  refine iq_aload_n hS 1 JW_print_d0 l2 rfl ?_
  refine iq_iconst hS 2 JW_print_d1 (v := 0) (by decide +kernel) rfl ?_
  refine iq_aload_n hS 3 JW_print_d2 l0 rfl ?_
  refine iq_iload_n hS 4 JW_print_d3 l1 rfl ?_
  refine ix_caught (tb_GX L xs) JW_print_d4 (pr_inst (vs := [_]) lc_18_35 lT_105 rfl rfl (by decide) (by decide) rfl (Nat.le_of_ble_eq_true rfl) (Nat.le_of_ble_eq_true rfl) (fun _ => Or.inl ⟨(ka_0 hM).1, by rw [(ka_0 hM).2]; decide, by rw [(ka_0 hM).2]; rfl⟩)) hc (fun E M1 h => ?_)
  obtain ⟨rfl, rfl⟩ := h
  refine ⟨12, 13, _, by decide +kernel, im_forg_okn JW_print_d12 (by decide), ?_⟩
  refine iq_iconst (ix_St (tb_GX L xs)) 14 JW_print_d13 (v := 1) (by decide +kernel) rfl ?_
  exact ix_iret JW_print_d14 rfl rfl ⟨rfl, rfl, rfl⟩
theorem JW_turn_d0 : decode JW_turn.2.1 0 = .ok (.aload_n 0, 1) := by decide +kernel
theorem JW_turn_d1 : decode JW_turn.2.1 1 = .ok (.iload_n 1, 1) := by decide +kernel
theorem JW_turn_d2 : decode JW_turn.2.1 2 = .ok (.invokevirtual 39, 3) := by decide +kernel
theorem JW_turn_d5 : decode JW_turn.2.1 5 = .ok (.goto 6, 3) := by decide +kernel
theorem JW_turn_d11 : decode JW_turn.2.1 11 = .ok (.iconst 0, 1) := by decide +kernel
theorem JW_turn_d12 : decode JW_turn.2.1 12 = .ok (.ireturn, 1) := by decide +kernel
theorem JW_turn_d8 : decode JW_turn.2.1 8 = .ok (.astore_n 2, 1) := by decide +kernel
theorem JW_turn_d9 : decode JW_turn.2.1 9 = .ok (.iconst 1, 1) := by decide +kernel
theorem JW_turn_d10 : decode JW_turn.2.1 10 = .ok (.ireturn, 1) := by decide +kernel
theorem W_turn {L : Nat} {xs : Nat → Int32} {dep : Nat} {w w2 : Bool} {M M2 : im_M} {p0 : Int32} (hM : lw_S w M) (hM2 : lw_S w2 M2) (hc : ia (tb_G L xs) dep J_H_turn (fun r M1 => r = none ∧ M1 = M2) (0, lv_args 0 [.ref 0, .int p0], [], M)) : ix (tb_G L xs) tb_X (dep + 1) JW_turn JW_turn_h (fun r M1 t => r = some (.int 0) ∧ M1 = M2 ∧ t = 0) (0, lv_args 0 [.ref 0, .int p0], [], M) := by
  have hS : im_St (tb_G L xs) (dep + 1) JW_turn (ix (tb_G L xs) tb_X (dep + 1) JW_turn JW_turn_h (fun r M1 t => r = some (.int 0) ∧ M1 = M2 ∧ t = 0)) := ix_St (tb_GX L xs)
  have l0 : im_lk (lv_args 0 [.ref 0, .int p0]) 0 = some (.ref 0) := rfl
  have l1 : im_lk (lv_args 0 [.ref 0, .int p0]) 1 = some (.int p0) := rfl
  refine iq_aload_n hS 1 JW_turn_d0 l0 rfl ?_
  refine iq_iload_n hS 2 JW_turn_d1 l1 rfl ?_
  refine iq_call hS 5 JW_turn_d2 rfl (pr_inst (vs := [_]) lc_18_39 lT_188 rfl rfl (by decide) (by decide) rfl (Nat.le_of_ble_eq_true rfl) (Nat.le_of_ble_eq_true rfl) (fun _ => Or.inl (pr_b (ka_0 hM) (by decide) rfl))) hc rfl ?_
  rintro v M1 ⟨rfl, rfl⟩
  refine iq_goto hS JW_turn_d5 (t := 11) rfl ?_
  refine iq_iconst hS 12 JW_turn_d11 (v := 0) (by decide +kernel) rfl ?_
  exact ix_iret JW_turn_d12 rfl rfl ⟨rfl, rfl, rfl⟩
theorem W_turn_0 {L : Nat} {xs : Nat → Int32} {dep : Nat} {w : Bool} {M M2 : im_M} {p0 : Int32} (hM : lw_S w M) (hc : it (tb_G L xs) tb_X dep J_H_turn (fun E M1 => E = 0 ∧ M1 = M2) (0, lv_args 0 [.ref 0, .int p0], [], M)) : ix (tb_G L xs) tb_X (dep + 1) JW_turn JW_turn_h (fun r M1 t => r = some (.int 1) ∧ M1 = M2 ∧ t = 1) (0, lv_args 0 [.ref 0, .int p0], [], M) := by
  have hS : im_St (tb_G L xs) (dep + 1) JW_turn (ix (tb_G L xs) tb_X (dep + 1) JW_turn JW_turn_h (fun r M1 t => r = some (.int 1) ∧ M1 = M2 ∧ t = 1)) := ix_St (tb_GX L xs)
  have l0 : im_lk (lv_args 0 [.ref 0, .int p0]) 0 = some (.ref 0) := rfl
  have l1 : im_lk (lv_args 0 [.ref 0, .int p0]) 1 = some (.int p0) := rfl
  refine iq_aload_n hS 1 JW_turn_d0 l0 rfl ?_
  refine iq_iload_n hS 2 JW_turn_d1 l1 rfl ?_
  refine ix_caught (tb_GX L xs) JW_turn_d2 (pr_inst (vs := [_]) lc_18_39 lT_188 rfl rfl (by decide) (by decide) rfl (Nat.le_of_ble_eq_true rfl) (Nat.le_of_ble_eq_true rfl) (fun _ => Or.inl ⟨(ka_0 hM).1, by rw [(ka_0 hM).2]; decide, by rw [(ka_0 hM).2]; rfl⟩)) hc (fun E M1 h => ?_)
  obtain ⟨rfl, rfl⟩ := h
  refine ⟨8, 9, _, by decide +kernel, im_forg_okn JW_turn_d8 (by decide), ?_⟩
  refine iq_iconst (ix_St (tb_GX L xs)) 10 JW_turn_d9 (v := 1) (by decide +kernel) rfl ?_
  exact ix_iret JW_turn_d10 rfl rfl ⟨rfl, rfl, rfl⟩
theorem JW_told_d0 : decode JW_told.2.1 0 = .ok (.aload_n 2, 1) := by decide +kernel
theorem JW_told_d1 : decode JW_told.2.1 1 = .ok (.iconst 0, 1) := by decide +kernel
theorem JW_told_d2 : decode JW_told.2.1 2 = .ok (.aload_n 0, 1) := by decide +kernel
theorem JW_told_d3 : decode JW_told.2.1 3 = .ok (.iload_n 1, 1) := by decide +kernel
theorem JW_told_d4 : decode JW_told.2.1 4 = .ok (.invokevirtual 43, 3) := by decide +kernel
theorem JW_told_d7 : decode JW_told.2.1 7 = .ok (.i2l, 1) := by decide +kernel
theorem JW_told_d8 : decode JW_told.2.1 8 = .ok (.lastore, 1) := by decide +kernel
theorem JW_told_d9 : decode JW_told.2.1 9 = .ok (.goto 6, 3) := by decide +kernel
theorem JW_told_d15 : decode JW_told.2.1 15 = .ok (.iconst 0, 1) := by decide +kernel
theorem JW_told_d16 : decode JW_told.2.1 16 = .ok (.ireturn, 1) := by decide +kernel
theorem JW_told_d12 : decode JW_told.2.1 12 = .ok (.astore_n 3, 1) := by decide +kernel
theorem JW_told_d13 : decode JW_told.2.1 13 = .ok (.iconst 1, 1) := by decide +kernel
theorem JW_told_d14 : decode JW_told.2.1 14 = .ok (.ireturn, 1) := by decide +kernel
theorem W_told {L : Nat} {xs : Nat → Int32} {dep : Nat} {w w2 : Bool} {M M2 : im_M} {p0 : Int32} {x : Int32} (hM : lw_S w M) (hM2 : lw_S w2 M2) (hc : ia (tb_G L xs) dep J_H_told (fun r M1 => r = some (.int x) ∧ M1 = M2) (0, lv_args 0 [.ref 0, .int p0], [], M)) : ix (tb_G L xs) tb_X (dep + 1) JW_told JW_told_h (fun r M1 t => r = some (.int 0) ∧ M1 = im_setL M2 138 0 x.toInt64 ∧ t = 0) (0, lv_args 0 [.ref 0, .int p0, .ref 138], [], M) := by
  have hS : im_St (tb_G L xs) (dep + 1) JW_told (ix (tb_G L xs) tb_X (dep + 1) JW_told JW_told_h (fun r M1 t => r = some (.int 0) ∧ M1 = im_setL M2 138 0 x.toInt64 ∧ t = 0)) := ix_St (tb_GX L xs)
  have l0 : im_lk (lv_args 0 [.ref 0, .int p0, .ref 138]) 0 = some (.ref 0) := rfl
  have l1 : im_lk (lv_args 0 [.ref 0, .int p0, .ref 138]) 1 = some (.int p0) := rfl
  have l2 : im_lk (lv_args 0 [.ref 0, .int p0, .ref 138]) 2 = some (.ref 138) := rfl
  refine iq_aload_n hS 1 JW_told_d0 l2 rfl ?_
  refine iq_iconst hS 2 JW_told_d1 (v := 0) (by decide +kernel) rfl ?_
  refine iq_aload_n hS 3 JW_told_d2 l0 rfl ?_
  refine iq_iload_n hS 4 JW_told_d3 l1 rfl ?_
  refine iq_call hS 7 JW_told_d4 rfl (pr_inst (vs := [_]) lc_18_43 lT_191 rfl rfl (by decide) (by decide) rfl (Nat.le_of_ble_eq_true rfl) (Nat.le_of_ble_eq_true rfl) (fun _ => Or.inl (pr_b (ka_0 hM) (by decide) rfl))) hc rfl ?_
  rintro v M1 ⟨rfl, rfl⟩
  refine iq_i2l hS 8 JW_told_d7 rfl ?_
  refine iq_lastore hS 9 JW_told_d8 ⟨(ka_138 hM2).1, (ka_138 hM2).2, by decide, ix_lt (kl_138 hM2) (by decide)⟩ rfl ?_
  refine iq_goto hS JW_told_d9 (t := 15) rfl ?_
  refine iq_iconst hS 16 JW_told_d15 (v := 0) (by decide +kernel) rfl ?_
  exact ix_iret JW_told_d16 rfl rfl ⟨rfl, rfl, rfl⟩
theorem W_told_0 {L : Nat} {xs : Nat → Int32} {dep : Nat} {w : Bool} {M M2 : im_M} {p0 : Int32} (hM : lw_S w M) (hc : it (tb_G L xs) tb_X dep J_H_told (fun E M1 => E = 0 ∧ M1 = M2) (0, lv_args 0 [.ref 0, .int p0], [], M)) : ix (tb_G L xs) tb_X (dep + 1) JW_told JW_told_h (fun r M1 t => r = some (.int 1) ∧ M1 = M2 ∧ t = 1) (0, lv_args 0 [.ref 0, .int p0, .ref 138], [], M) := by
  have hS : im_St (tb_G L xs) (dep + 1) JW_told (ix (tb_G L xs) tb_X (dep + 1) JW_told JW_told_h (fun r M1 t => r = some (.int 1) ∧ M1 = M2 ∧ t = 1)) := ix_St (tb_GX L xs)
  have l0 : im_lk (lv_args 0 [.ref 0, .int p0, .ref 138]) 0 = some (.ref 0) := rfl
  have l1 : im_lk (lv_args 0 [.ref 0, .int p0, .ref 138]) 1 = some (.int p0) := rfl
  have l2 : im_lk (lv_args 0 [.ref 0, .int p0, .ref 138]) 2 = some (.ref 138) := rfl
  refine iq_aload_n hS 1 JW_told_d0 l2 rfl ?_
  refine iq_iconst hS 2 JW_told_d1 (v := 0) (by decide +kernel) rfl ?_
  refine iq_aload_n hS 3 JW_told_d2 l0 rfl ?_
  refine iq_iload_n hS 4 JW_told_d3 l1 rfl ?_
  refine ix_caught (tb_GX L xs) JW_told_d4 (pr_inst (vs := [_]) lc_18_43 lT_191 rfl rfl (by decide) (by decide) rfl (Nat.le_of_ble_eq_true rfl) (Nat.le_of_ble_eq_true rfl) (fun _ => Or.inl ⟨(ka_0 hM).1, by rw [(ka_0 hM).2]; decide, by rw [(ka_0 hM).2]; rfl⟩)) hc (fun E M1 h => ?_)
  obtain ⟨rfl, rfl⟩ := h
  refine ⟨12, 13, _, by decide +kernel, im_forg_okn JW_told_d12 (by decide), ?_⟩
  refine iq_iconst (ix_St (tb_GX L xs)) 14 JW_told_d13 (v := 1) (by decide +kernel) rfl ?_
  exact ix_iret JW_told_d14 rfl rfl ⟨rfl, rfl, rfl⟩
theorem JW_run_d0 : decode JW_run.2.1 0 = .ok (.aload 5, 2) := by decide +kernel
theorem JW_run_d2 : decode JW_run.2.1 2 = .ok (.iconst 0, 1) := by decide +kernel
theorem JW_run_d3 : decode JW_run.2.1 3 = .ok (.aload_n 0, 1) := by decide +kernel
theorem JW_run_d4 : decode JW_run.2.1 4 = .ok (.iload_n 1, 1) := by decide +kernel
theorem JW_run_d5 : decode JW_run.2.1 5 = .ok (.iload_n 2, 1) := by decide +kernel
theorem JW_run_d6 : decode JW_run.2.1 6 = .ok (.iload_n 3, 1) := by decide +kernel
theorem JW_run_d7 : decode JW_run.2.1 7 = .ok (.iload 4, 2) := by decide +kernel
theorem JW_run_d9 : decode JW_run.2.1 9 = .ok (.invokevirtual 46, 3) := by decide +kernel
theorem JW_run_d12 : decode JW_run.2.1 12 = .ok (.i2l, 1) := by decide +kernel
theorem JW_run_d13 : decode JW_run.2.1 13 = .ok (.lastore, 1) := by decide +kernel
theorem JW_run_d14 : decode JW_run.2.1 14 = .ok (.goto 7, 3) := by decide +kernel
theorem JW_run_d21 : decode JW_run.2.1 21 = .ok (.iconst 0, 1) := by decide +kernel
theorem JW_run_d22 : decode JW_run.2.1 22 = .ok (.ireturn, 1) := by decide +kernel
theorem JW_run_d17 : decode JW_run.2.1 17 = .ok (.astore 6, 2) := by decide +kernel
theorem JW_run_d19 : decode JW_run.2.1 19 = .ok (.iconst 1, 1) := by decide +kernel
theorem JW_run_d20 : decode JW_run.2.1 20 = .ok (.ireturn, 1) := by decide +kernel
theorem W_run {L : Nat} {xs : Nat → Int32} {dep : Nat} {w w2 : Bool} {M M2 : im_M} {p0 : Int32} {p1 : Int32} {p2 : Int32} {p3 : Int32} {x : Int32} (hM : lw_S w M) (hM2 : lw_S w2 M2) (hc : ia (tb_G L xs) dep J_H_run (fun r M1 => r = some (.int x) ∧ M1 = M2) (0, lv_args 0 [.ref 0, .int p0, .int p1, .int p2, .int p3], [], M)) : ix (tb_G L xs) tb_X (dep + 1) JW_run JW_run_h (fun r M1 t => r = some (.int 0) ∧ M1 = im_setL M2 138 0 x.toInt64 ∧ t = 0) (0, lv_args 0 [.ref 0, .int p0, .int p1, .int p2, .int p3, .ref 138], [], M) := by
  have hS : im_St (tb_G L xs) (dep + 1) JW_run (ix (tb_G L xs) tb_X (dep + 1) JW_run JW_run_h (fun r M1 t => r = some (.int 0) ∧ M1 = im_setL M2 138 0 x.toInt64 ∧ t = 0)) := ix_St (tb_GX L xs)
  have l0 : im_lk (lv_args 0 [.ref 0, .int p0, .int p1, .int p2, .int p3, .ref 138]) 0 = some (.ref 0) := rfl
  have l1 : im_lk (lv_args 0 [.ref 0, .int p0, .int p1, .int p2, .int p3, .ref 138]) 1 = some (.int p0) := rfl
  have l2 : im_lk (lv_args 0 [.ref 0, .int p0, .int p1, .int p2, .int p3, .ref 138]) 2 = some (.int p1) := rfl
  have l3 : im_lk (lv_args 0 [.ref 0, .int p0, .int p1, .int p2, .int p3, .ref 138]) 3 = some (.int p2) := rfl
  have l4 : im_lk (lv_args 0 [.ref 0, .int p0, .int p1, .int p2, .int p3, .ref 138]) 4 = some (.int p3) := rfl
  have l5 : im_lk (lv_args 0 [.ref 0, .int p0, .int p1, .int p2, .int p3, .ref 138]) 5 = some (.ref 138) := rfl
  refine iq_aload hS 2 JW_run_d0 l5 rfl ?_
  refine iq_iconst hS 3 JW_run_d2 (v := 0) (by decide +kernel) rfl ?_
  refine iq_aload_n hS 4 JW_run_d3 l0 rfl ?_
  refine iq_iload_n hS 5 JW_run_d4 l1 rfl ?_
  refine iq_iload_n hS 6 JW_run_d5 l2 rfl ?_
  refine iq_iload_n hS 7 JW_run_d6 l3 rfl ?_
  refine iq_iload hS 9 JW_run_d7 l4 rfl ?_
  refine iq_call hS 12 JW_run_d9 rfl (pr_inst (vs := [_, _, _, _]) lc_18_46 lT_197 rfl rfl (by decide) (by decide) rfl (Nat.le_of_ble_eq_true rfl) (Nat.le_of_ble_eq_true rfl) (fun _ => Or.inl (pr_b (ka_0 hM) (by decide) rfl))) hc rfl ?_
  rintro v M1 ⟨rfl, rfl⟩
  refine iq_i2l hS 13 JW_run_d12 rfl ?_
  refine iq_lastore hS 14 JW_run_d13 ⟨(ka_138 hM2).1, (ka_138 hM2).2, by decide, ix_lt (kl_138 hM2) (by decide)⟩ rfl ?_
  refine iq_goto hS JW_run_d14 (t := 21) rfl ?_
  refine iq_iconst hS 22 JW_run_d21 (v := 0) (by decide +kernel) rfl ?_
  exact ix_iret JW_run_d22 rfl rfl ⟨rfl, rfl, rfl⟩
theorem W_run_1 {L : Nat} {xs : Nat → Int32} {dep : Nat} {w : Bool} {M M2 : im_M} {p0 : Int32} {p1 : Int32} {p2 : Int32} {p3 : Int32} (hM : lw_S w M) (hc : it (tb_G L xs) tb_X dep J_H_run (fun E M1 => E = 1 ∧ M1 = M2) (0, lv_args 0 [.ref 0, .int p0, .int p1, .int p2, .int p3], [], M)) : ix (tb_G L xs) tb_X (dep + 1) JW_run JW_run_h (fun r M1 t => r = some (.int 1) ∧ M1 = M2 ∧ t = 1) (0, lv_args 0 [.ref 0, .int p0, .int p1, .int p2, .int p3, .ref 138], [], M) := by
  have hS : im_St (tb_G L xs) (dep + 1) JW_run (ix (tb_G L xs) tb_X (dep + 1) JW_run JW_run_h (fun r M1 t => r = some (.int 1) ∧ M1 = M2 ∧ t = 1)) := ix_St (tb_GX L xs)
  have l0 : im_lk (lv_args 0 [.ref 0, .int p0, .int p1, .int p2, .int p3, .ref 138]) 0 = some (.ref 0) := rfl
  have l1 : im_lk (lv_args 0 [.ref 0, .int p0, .int p1, .int p2, .int p3, .ref 138]) 1 = some (.int p0) := rfl
  have l2 : im_lk (lv_args 0 [.ref 0, .int p0, .int p1, .int p2, .int p3, .ref 138]) 2 = some (.int p1) := rfl
  have l3 : im_lk (lv_args 0 [.ref 0, .int p0, .int p1, .int p2, .int p3, .ref 138]) 3 = some (.int p2) := rfl
  have l4 : im_lk (lv_args 0 [.ref 0, .int p0, .int p1, .int p2, .int p3, .ref 138]) 4 = some (.int p3) := rfl
  have l5 : im_lk (lv_args 0 [.ref 0, .int p0, .int p1, .int p2, .int p3, .ref 138]) 5 = some (.ref 138) := rfl
  refine iq_aload hS 2 JW_run_d0 l5 rfl ?_
  refine iq_iconst hS 3 JW_run_d2 (v := 0) (by decide +kernel) rfl ?_
  refine iq_aload_n hS 4 JW_run_d3 l0 rfl ?_
  refine iq_iload_n hS 5 JW_run_d4 l1 rfl ?_
  refine iq_iload_n hS 6 JW_run_d5 l2 rfl ?_
  refine iq_iload_n hS 7 JW_run_d6 l3 rfl ?_
  refine iq_iload hS 9 JW_run_d7 l4 rfl ?_
  refine ix_caught (tb_GX L xs) JW_run_d9 (pr_inst (vs := [_, _, _, _]) lc_18_46 lT_197 rfl rfl (by decide) (by decide) rfl (Nat.le_of_ble_eq_true rfl) (Nat.le_of_ble_eq_true rfl) (fun _ => Or.inl ⟨(ka_0 hM).1, by rw [(ka_0 hM).2]; decide, by rw [(ka_0 hM).2]; rfl⟩)) hc (fun E M1 h => ?_)
  obtain ⟨rfl, rfl⟩ := h
  refine ⟨17, 19, _, by decide +kernel, im_forg_ok JW_run_d17 (by decide), ?_⟩
  refine iq_iconst (ix_St (tb_GX L xs)) 20 JW_run_d19 (v := 1) (by decide +kernel) rfl ?_
  exact ix_iret JW_run_d20 rfl rfl ⟨rfl, rfl, rfl⟩
theorem JW_scan_d0 : decode JW_scan.2.1 0 = .ok (.aload 4, 2) := by decide +kernel
theorem JW_scan_d2 : decode JW_scan.2.1 2 = .ok (.iconst 0, 1) := by decide +kernel
theorem JW_scan_d3 : decode JW_scan.2.1 3 = .ok (.aload_n 0, 1) := by decide +kernel
theorem JW_scan_d4 : decode JW_scan.2.1 4 = .ok (.iload_n 1, 1) := by decide +kernel
theorem JW_scan_d5 : decode JW_scan.2.1 5 = .ok (.iload_n 2, 1) := by decide +kernel
theorem JW_scan_d6 : decode JW_scan.2.1 6 = .ok (.iload_n 3, 1) := by decide +kernel
theorem JW_scan_d7 : decode JW_scan.2.1 7 = .ok (.invokevirtual 50, 3) := by decide +kernel
theorem JW_scan_d10 : decode JW_scan.2.1 10 = .ok (.i2l, 1) := by decide +kernel
theorem JW_scan_d11 : decode JW_scan.2.1 11 = .ok (.lastore, 1) := by decide +kernel
theorem JW_scan_d12 : decode JW_scan.2.1 12 = .ok (.goto 7, 3) := by decide +kernel
theorem JW_scan_d19 : decode JW_scan.2.1 19 = .ok (.iconst 0, 1) := by decide +kernel
theorem JW_scan_d20 : decode JW_scan.2.1 20 = .ok (.ireturn, 1) := by decide +kernel
theorem JW_scan_d15 : decode JW_scan.2.1 15 = .ok (.astore 5, 2) := by decide +kernel
theorem JW_scan_d17 : decode JW_scan.2.1 17 = .ok (.iconst 1, 1) := by decide +kernel
theorem JW_scan_d18 : decode JW_scan.2.1 18 = .ok (.ireturn, 1) := by decide +kernel
theorem W_scan {L : Nat} {xs : Nat → Int32} {dep : Nat} {w w2 : Bool} {M M2 : im_M} {p0 : Int32} {p1 : Int32} {p2 : Int32} {x : Int32} (hM : lw_S w M) (hM2 : lw_S w2 M2) (hc : ia (tb_G L xs) dep J_H_scan (fun r M1 => r = some (.int x) ∧ M1 = M2) (0, lv_args 0 [.ref 0, .int p0, .int p1, .int p2], [], M)) : ix (tb_G L xs) tb_X (dep + 1) JW_scan JW_scan_h (fun r M1 t => r = some (.int 0) ∧ M1 = im_setL M2 138 0 x.toInt64 ∧ t = 0) (0, lv_args 0 [.ref 0, .int p0, .int p1, .int p2, .ref 138], [], M) := by
  have hS : im_St (tb_G L xs) (dep + 1) JW_scan (ix (tb_G L xs) tb_X (dep + 1) JW_scan JW_scan_h (fun r M1 t => r = some (.int 0) ∧ M1 = im_setL M2 138 0 x.toInt64 ∧ t = 0)) := ix_St (tb_GX L xs)
  have l0 : im_lk (lv_args 0 [.ref 0, .int p0, .int p1, .int p2, .ref 138]) 0 = some (.ref 0) := rfl
  have l1 : im_lk (lv_args 0 [.ref 0, .int p0, .int p1, .int p2, .ref 138]) 1 = some (.int p0) := rfl
  have l2 : im_lk (lv_args 0 [.ref 0, .int p0, .int p1, .int p2, .ref 138]) 2 = some (.int p1) := rfl
  have l3 : im_lk (lv_args 0 [.ref 0, .int p0, .int p1, .int p2, .ref 138]) 3 = some (.int p2) := rfl
  have l4 : im_lk (lv_args 0 [.ref 0, .int p0, .int p1, .int p2, .ref 138]) 4 = some (.ref 138) := rfl
  refine iq_aload hS 2 JW_scan_d0 l4 rfl ?_
  refine iq_iconst hS 3 JW_scan_d2 (v := 0) (by decide +kernel) rfl ?_
  refine iq_aload_n hS 4 JW_scan_d3 l0 rfl ?_
  refine iq_iload_n hS 5 JW_scan_d4 l1 rfl ?_
  refine iq_iload_n hS 6 JW_scan_d5 l2 rfl ?_
  refine iq_iload_n hS 7 JW_scan_d6 l3 rfl ?_
  refine iq_call hS 10 JW_scan_d7 rfl (pr_inst (vs := [_, _, _]) lc_18_50 lT_201 rfl rfl (by decide) (by decide) rfl (Nat.le_of_ble_eq_true rfl) (Nat.le_of_ble_eq_true rfl) (fun _ => Or.inl (pr_b (ka_0 hM) (by decide) rfl))) hc rfl ?_
  rintro v M1 ⟨rfl, rfl⟩
  refine iq_i2l hS 11 JW_scan_d10 rfl ?_
  refine iq_lastore hS 12 JW_scan_d11 ⟨(ka_138 hM2).1, (ka_138 hM2).2, by decide, ix_lt (kl_138 hM2) (by decide)⟩ rfl ?_
  refine iq_goto hS JW_scan_d12 (t := 19) rfl ?_
  refine iq_iconst hS 20 JW_scan_d19 (v := 0) (by decide +kernel) rfl ?_
  exact ix_iret JW_scan_d20 rfl rfl ⟨rfl, rfl, rfl⟩
theorem W_scan_0 {L : Nat} {xs : Nat → Int32} {dep : Nat} {w : Bool} {M M2 : im_M} {p0 : Int32} {p1 : Int32} {p2 : Int32} (hM : lw_S w M) (hc : it (tb_G L xs) tb_X dep J_H_scan (fun E M1 => E = 0 ∧ M1 = M2) (0, lv_args 0 [.ref 0, .int p0, .int p1, .int p2], [], M)) : ix (tb_G L xs) tb_X (dep + 1) JW_scan JW_scan_h (fun r M1 t => r = some (.int 1) ∧ M1 = M2 ∧ t = 1) (0, lv_args 0 [.ref 0, .int p0, .int p1, .int p2, .ref 138], [], M) := by
  have hS : im_St (tb_G L xs) (dep + 1) JW_scan (ix (tb_G L xs) tb_X (dep + 1) JW_scan JW_scan_h (fun r M1 t => r = some (.int 1) ∧ M1 = M2 ∧ t = 1)) := ix_St (tb_GX L xs)
  have l0 : im_lk (lv_args 0 [.ref 0, .int p0, .int p1, .int p2, .ref 138]) 0 = some (.ref 0) := rfl
  have l1 : im_lk (lv_args 0 [.ref 0, .int p0, .int p1, .int p2, .ref 138]) 1 = some (.int p0) := rfl
  have l2 : im_lk (lv_args 0 [.ref 0, .int p0, .int p1, .int p2, .ref 138]) 2 = some (.int p1) := rfl
  have l3 : im_lk (lv_args 0 [.ref 0, .int p0, .int p1, .int p2, .ref 138]) 3 = some (.int p2) := rfl
  have l4 : im_lk (lv_args 0 [.ref 0, .int p0, .int p1, .int p2, .ref 138]) 4 = some (.ref 138) := rfl
  refine iq_aload hS 2 JW_scan_d0 l4 rfl ?_
  refine iq_iconst hS 3 JW_scan_d2 (v := 0) (by decide +kernel) rfl ?_
  refine iq_aload_n hS 4 JW_scan_d3 l0 rfl ?_
  refine iq_iload_n hS 5 JW_scan_d4 l1 rfl ?_
  refine iq_iload_n hS 6 JW_scan_d5 l2 rfl ?_
  refine iq_iload_n hS 7 JW_scan_d6 l3 rfl ?_
  refine ix_caught (tb_GX L xs) JW_scan_d7 (pr_inst (vs := [_, _, _]) lc_18_50 lT_201 rfl rfl (by decide) (by decide) rfl (Nat.le_of_ble_eq_true rfl) (Nat.le_of_ble_eq_true rfl) (fun _ => Or.inl ⟨(ka_0 hM).1, by rw [(ka_0 hM).2]; decide, by rw [(ka_0 hM).2]; rfl⟩)) hc (fun E M1 h => ?_)
  obtain ⟨rfl, rfl⟩ := h
  refine ⟨15, 17, _, by decide +kernel, im_forg_ok JW_scan_d15 (by decide), ?_⟩
  refine iq_iconst (ix_St (tb_GX L xs)) 18 JW_scan_d17 (v := 1) (by decide +kernel) rfl ?_
  exact ix_iret JW_scan_d18 rfl rfl ⟨rfl, rfl, rfl⟩
theorem JW_found_d0 : decode JW_found.2.1 0 = .ok (.aload_n 3, 1) := by decide +kernel
theorem JW_found_d1 : decode JW_found.2.1 1 = .ok (.iconst 0, 1) := by decide +kernel
theorem JW_found_d2 : decode JW_found.2.1 2 = .ok (.aload_n 0, 1) := by decide +kernel
theorem JW_found_d3 : decode JW_found.2.1 3 = .ok (.iload_n 1, 1) := by decide +kernel
theorem JW_found_d4 : decode JW_found.2.1 4 = .ok (.iload_n 2, 1) := by decide +kernel
theorem JW_found_d5 : decode JW_found.2.1 5 = .ok (.invokevirtual 54, 3) := by decide +kernel
theorem JW_found_d8 : decode JW_found.2.1 8 = .ok (.i2l, 1) := by decide +kernel
theorem JW_found_d9 : decode JW_found.2.1 9 = .ok (.lastore, 1) := by decide +kernel
theorem JW_found_d10 : decode JW_found.2.1 10 = .ok (.goto 7, 3) := by decide +kernel
theorem JW_found_d17 : decode JW_found.2.1 17 = .ok (.iconst 0, 1) := by decide +kernel
theorem JW_found_d18 : decode JW_found.2.1 18 = .ok (.ireturn, 1) := by decide +kernel
theorem JW_found_d13 : decode JW_found.2.1 13 = .ok (.astore 4, 2) := by decide +kernel
theorem JW_found_d15 : decode JW_found.2.1 15 = .ok (.iconst 1, 1) := by decide +kernel
theorem JW_found_d16 : decode JW_found.2.1 16 = .ok (.ireturn, 1) := by decide +kernel
theorem W_found {L : Nat} {xs : Nat → Int32} {dep : Nat} {w w2 : Bool} {M M2 : im_M} {p0 : Int32} {p1 : Int32} {x : Int32} (hM : lw_S w M) (hM2 : lw_S w2 M2) (hc : ia (tb_G L xs) dep J_H_found (fun r M1 => r = some (.int x) ∧ M1 = M2) (0, lv_args 0 [.ref 0, .int p0, .int p1], [], M)) : ix (tb_G L xs) tb_X (dep + 1) JW_found JW_found_h (fun r M1 t => r = some (.int 0) ∧ M1 = im_setL M2 138 0 x.toInt64 ∧ t = 0) (0, lv_args 0 [.ref 0, .int p0, .int p1, .ref 138], [], M) := by
  have hS : im_St (tb_G L xs) (dep + 1) JW_found (ix (tb_G L xs) tb_X (dep + 1) JW_found JW_found_h (fun r M1 t => r = some (.int 0) ∧ M1 = im_setL M2 138 0 x.toInt64 ∧ t = 0)) := ix_St (tb_GX L xs)
  have l0 : im_lk (lv_args 0 [.ref 0, .int p0, .int p1, .ref 138]) 0 = some (.ref 0) := rfl
  have l1 : im_lk (lv_args 0 [.ref 0, .int p0, .int p1, .ref 138]) 1 = some (.int p0) := rfl
  have l2 : im_lk (lv_args 0 [.ref 0, .int p0, .int p1, .ref 138]) 2 = some (.int p1) := rfl
  have l3 : im_lk (lv_args 0 [.ref 0, .int p0, .int p1, .ref 138]) 3 = some (.ref 138) := rfl
  refine iq_aload_n hS 1 JW_found_d0 l3 rfl ?_
  refine iq_iconst hS 2 JW_found_d1 (v := 0) (by decide +kernel) rfl ?_
  refine iq_aload_n hS 3 JW_found_d2 l0 rfl ?_
  refine iq_iload_n hS 4 JW_found_d3 l1 rfl ?_
  refine iq_iload_n hS 5 JW_found_d4 l2 rfl ?_
  refine iq_call hS 8 JW_found_d5 rfl (pr_inst (vs := [_, _]) lc_18_54 lT_223 rfl rfl (by decide) (by decide) rfl (Nat.le_of_ble_eq_true rfl) (Nat.le_of_ble_eq_true rfl) (fun _ => Or.inl (pr_b (ka_0 hM) (by decide) rfl))) hc rfl ?_
  rintro v M1 ⟨rfl, rfl⟩
  refine iq_i2l hS 9 JW_found_d8 rfl ?_
  refine iq_lastore hS 10 JW_found_d9 ⟨(ka_138 hM2).1, (ka_138 hM2).2, by decide, ix_lt (kl_138 hM2) (by decide)⟩ rfl ?_
  refine iq_goto hS JW_found_d10 (t := 17) rfl ?_
  refine iq_iconst hS 18 JW_found_d17 (v := 0) (by decide +kernel) rfl ?_
  exact ix_iret JW_found_d18 rfl rfl ⟨rfl, rfl, rfl⟩
theorem W_found_0 {L : Nat} {xs : Nat → Int32} {dep : Nat} {w : Bool} {M M2 : im_M} {p0 : Int32} {p1 : Int32} (hM : lw_S w M) (hc : it (tb_G L xs) tb_X dep J_H_found (fun E M1 => E = 0 ∧ M1 = M2) (0, lv_args 0 [.ref 0, .int p0, .int p1], [], M)) : ix (tb_G L xs) tb_X (dep + 1) JW_found JW_found_h (fun r M1 t => r = some (.int 1) ∧ M1 = M2 ∧ t = 1) (0, lv_args 0 [.ref 0, .int p0, .int p1, .ref 138], [], M) := by
  have hS : im_St (tb_G L xs) (dep + 1) JW_found (ix (tb_G L xs) tb_X (dep + 1) JW_found JW_found_h (fun r M1 t => r = some (.int 1) ∧ M1 = M2 ∧ t = 1)) := ix_St (tb_GX L xs)
  have l0 : im_lk (lv_args 0 [.ref 0, .int p0, .int p1, .ref 138]) 0 = some (.ref 0) := rfl
  have l1 : im_lk (lv_args 0 [.ref 0, .int p0, .int p1, .ref 138]) 1 = some (.int p0) := rfl
  have l2 : im_lk (lv_args 0 [.ref 0, .int p0, .int p1, .ref 138]) 2 = some (.int p1) := rfl
  have l3 : im_lk (lv_args 0 [.ref 0, .int p0, .int p1, .ref 138]) 3 = some (.ref 138) := rfl
  refine iq_aload_n hS 1 JW_found_d0 l3 rfl ?_
  refine iq_iconst hS 2 JW_found_d1 (v := 0) (by decide +kernel) rfl ?_
  refine iq_aload_n hS 3 JW_found_d2 l0 rfl ?_
  refine iq_iload_n hS 4 JW_found_d3 l1 rfl ?_
  refine iq_iload_n hS 5 JW_found_d4 l2 rfl ?_
  refine ix_caught (tb_GX L xs) JW_found_d5 (pr_inst (vs := [_, _]) lc_18_54 lT_223 rfl rfl (by decide) (by decide) rfl (Nat.le_of_ble_eq_true rfl) (Nat.le_of_ble_eq_true rfl) (fun _ => Or.inl ⟨(ka_0 hM).1, by rw [(ka_0 hM).2]; decide, by rw [(ka_0 hM).2]; rfl⟩)) hc (fun E M1 h => ?_)
  obtain ⟨rfl, rfl⟩ := h
  refine ⟨13, 15, _, by decide +kernel, im_forg_ok JW_found_d13 (by decide), ?_⟩
  refine iq_iconst (ix_St (tb_GX L xs)) 16 JW_found_d15 (v := 1) (by decide +kernel) rfl ?_
  exact ix_iret JW_found_d16 rfl rfl ⟨rfl, rfl, rfl⟩
theorem JW_decode_d0 : decode JW_decode.2.1 0 = .ok (.aload_n 2, 1) := by decide +kernel
theorem JW_decode_d1 : decode JW_decode.2.1 1 = .ok (.iconst 0, 1) := by decide +kernel
theorem JW_decode_d2 : decode JW_decode.2.1 2 = .ok (.aload_n 0, 1) := by decide +kernel
theorem JW_decode_d3 : decode JW_decode.2.1 3 = .ok (.iload_n 1, 1) := by decide +kernel
theorem JW_decode_d4 : decode JW_decode.2.1 4 = .ok (.invokevirtual 57, 3) := by decide +kernel
theorem JW_decode_d7 : decode JW_decode.2.1 7 = .ok (.i2l, 1) := by decide +kernel
theorem JW_decode_d8 : decode JW_decode.2.1 8 = .ok (.lastore, 1) := by decide +kernel
theorem JW_decode_d9 : decode JW_decode.2.1 9 = .ok (.goto 6, 3) := by decide +kernel
theorem JW_decode_d15 : decode JW_decode.2.1 15 = .ok (.iconst 0, 1) := by decide +kernel
theorem JW_decode_d16 : decode JW_decode.2.1 16 = .ok (.ireturn, 1) := by decide +kernel
theorem JW_decode_d12 : decode JW_decode.2.1 12 = .ok (.astore_n 3, 1) := by decide +kernel
theorem JW_decode_d13 : decode JW_decode.2.1 13 = .ok (.iconst 1, 1) := by decide +kernel
theorem JW_decode_d14 : decode JW_decode.2.1 14 = .ok (.ireturn, 1) := by decide +kernel
theorem W_decode {L : Nat} {xs : Nat → Int32} {dep : Nat} {w w2 : Bool} {M M2 : im_M} {p0 : Int32} {x : Int32} (hM : lw_S w M) (hM2 : lw_S w2 M2) (hc : ia (tb_G L xs) dep J_H_decode (fun r M1 => r = some (.int x) ∧ M1 = M2) (0, lv_args 0 [.ref 0, .int p0], [], M)) : ix (tb_G L xs) tb_X (dep + 1) JW_decode JW_decode_h (fun r M1 t => r = some (.int 0) ∧ M1 = im_setL M2 138 0 x.toInt64 ∧ t = 0) (0, lv_args 0 [.ref 0, .int p0, .ref 138], [], M) := by
  have hS : im_St (tb_G L xs) (dep + 1) JW_decode (ix (tb_G L xs) tb_X (dep + 1) JW_decode JW_decode_h (fun r M1 t => r = some (.int 0) ∧ M1 = im_setL M2 138 0 x.toInt64 ∧ t = 0)) := ix_St (tb_GX L xs)
  have l0 : im_lk (lv_args 0 [.ref 0, .int p0, .ref 138]) 0 = some (.ref 0) := rfl
  have l1 : im_lk (lv_args 0 [.ref 0, .int p0, .ref 138]) 1 = some (.int p0) := rfl
  have l2 : im_lk (lv_args 0 [.ref 0, .int p0, .ref 138]) 2 = some (.ref 138) := rfl
  refine iq_aload_n hS 1 JW_decode_d0 l2 rfl ?_
  refine iq_iconst hS 2 JW_decode_d1 (v := 0) (by decide +kernel) rfl ?_
  refine iq_aload_n hS 3 JW_decode_d2 l0 rfl ?_
  refine iq_iload_n hS 4 JW_decode_d3 l1 rfl ?_
  refine iq_call hS 7 JW_decode_d4 rfl (pr_inst (vs := [_]) lc_18_57 lT_224 rfl rfl (by decide) (by decide) rfl (Nat.le_of_ble_eq_true rfl) (Nat.le_of_ble_eq_true rfl) (fun _ => Or.inl (pr_b (ka_0 hM) (by decide) rfl))) hc rfl ?_
  rintro v M1 ⟨rfl, rfl⟩
  refine iq_i2l hS 8 JW_decode_d7 rfl ?_
  refine iq_lastore hS 9 JW_decode_d8 ⟨(ka_138 hM2).1, (ka_138 hM2).2, by decide, ix_lt (kl_138 hM2) (by decide)⟩ rfl ?_
  refine iq_goto hS JW_decode_d9 (t := 15) rfl ?_
  refine iq_iconst hS 16 JW_decode_d15 (v := 0) (by decide +kernel) rfl ?_
  exact ix_iret JW_decode_d16 rfl rfl ⟨rfl, rfl, rfl⟩
theorem W_decode_1 {L : Nat} {xs : Nat → Int32} {dep : Nat} {w : Bool} {M M2 : im_M} {p0 : Int32} (hM : lw_S w M) (hc : it (tb_G L xs) tb_X dep J_H_decode (fun E M1 => E = 1 ∧ M1 = M2) (0, lv_args 0 [.ref 0, .int p0], [], M)) : ix (tb_G L xs) tb_X (dep + 1) JW_decode JW_decode_h (fun r M1 t => r = some (.int 1) ∧ M1 = M2 ∧ t = 1) (0, lv_args 0 [.ref 0, .int p0, .ref 138], [], M) := by
  have hS : im_St (tb_G L xs) (dep + 1) JW_decode (ix (tb_G L xs) tb_X (dep + 1) JW_decode JW_decode_h (fun r M1 t => r = some (.int 1) ∧ M1 = M2 ∧ t = 1)) := ix_St (tb_GX L xs)
  have l0 : im_lk (lv_args 0 [.ref 0, .int p0, .ref 138]) 0 = some (.ref 0) := rfl
  have l1 : im_lk (lv_args 0 [.ref 0, .int p0, .ref 138]) 1 = some (.int p0) := rfl
  have l2 : im_lk (lv_args 0 [.ref 0, .int p0, .ref 138]) 2 = some (.ref 138) := rfl
  refine iq_aload_n hS 1 JW_decode_d0 l2 rfl ?_
  refine iq_iconst hS 2 JW_decode_d1 (v := 0) (by decide +kernel) rfl ?_
  refine iq_aload_n hS 3 JW_decode_d2 l0 rfl ?_
  refine iq_iload_n hS 4 JW_decode_d3 l1 rfl ?_
  refine ix_caught (tb_GX L xs) JW_decode_d4 (pr_inst (vs := [_]) lc_18_57 lT_224 rfl rfl (by decide) (by decide) rfl (Nat.le_of_ble_eq_true rfl) (Nat.le_of_ble_eq_true rfl) (fun _ => Or.inl ⟨(ka_0 hM).1, by rw [(ka_0 hM).2]; decide, by rw [(ka_0 hM).2]; rfl⟩)) hc (fun E M1 h => ?_)
  obtain ⟨rfl, rfl⟩ := h
  refine ⟨12, 13, _, by decide +kernel, im_forg_okn JW_decode_d12 (by decide), ?_⟩
  refine iq_iconst (ix_St (tb_GX L xs)) 14 JW_decode_d13 (v := 1) (by decide +kernel) rfl ?_
  exact ix_iret JW_decode_d14 rfl rfl ⟨rfl, rfl, rfl⟩
theorem JW_bars_d0 : decode JW_bars.2.1 0 = .ok (.aload 4, 2) := by decide +kernel
theorem JW_bars_d2 : decode JW_bars.2.1 2 = .ok (.iconst 0, 1) := by decide +kernel
theorem JW_bars_d3 : decode JW_bars.2.1 3 = .ok (.aload_n 0, 1) := by decide +kernel
theorem JW_bars_d4 : decode JW_bars.2.1 4 = .ok (.iload_n 1, 1) := by decide +kernel
theorem JW_bars_d5 : decode JW_bars.2.1 5 = .ok (.iload_n 2, 1) := by decide +kernel
theorem JW_bars_d6 : decode JW_bars.2.1 6 = .ok (.iload_n 3, 1) := by decide +kernel
theorem JW_bars_d7 : decode JW_bars.2.1 7 = .ok (.invokevirtual 60, 3) := by decide +kernel
theorem JW_bars_d10 : decode JW_bars.2.1 10 = .ok (.i2l, 1) := by decide +kernel
theorem JW_bars_d11 : decode JW_bars.2.1 11 = .ok (.lastore, 1) := by decide +kernel
theorem JW_bars_d12 : decode JW_bars.2.1 12 = .ok (.goto 7, 3) := by decide +kernel
theorem JW_bars_d19 : decode JW_bars.2.1 19 = .ok (.iconst 0, 1) := by decide +kernel
theorem JW_bars_d20 : decode JW_bars.2.1 20 = .ok (.ireturn, 1) := by decide +kernel
theorem JW_bars_d15 : decode JW_bars.2.1 15 = .ok (.astore 5, 2) := by decide +kernel
theorem JW_bars_d17 : decode JW_bars.2.1 17 = .ok (.iconst 1, 1) := by decide +kernel
theorem JW_bars_d18 : decode JW_bars.2.1 18 = .ok (.ireturn, 1) := by decide +kernel
theorem W_bars {L : Nat} {xs : Nat → Int32} {dep : Nat} {w w2 : Bool} {M M2 : im_M} {p0 : Int32} {p1 : Int32} {p2 : Int32} {x : Int32} (hM : lw_S w M) (hM2 : lw_S w2 M2) (hc : ia (tb_G L xs) dep J_H_bars (fun r M1 => r = some (.int x) ∧ M1 = M2) (0, lv_args 0 [.ref 0, .int p0, .int p1, .int p2], [], M)) : ix (tb_G L xs) tb_X (dep + 1) JW_bars JW_bars_h (fun r M1 t => r = some (.int 0) ∧ M1 = im_setL M2 138 0 x.toInt64 ∧ t = 0) (0, lv_args 0 [.ref 0, .int p0, .int p1, .int p2, .ref 138], [], M) := by
  have hS : im_St (tb_G L xs) (dep + 1) JW_bars (ix (tb_G L xs) tb_X (dep + 1) JW_bars JW_bars_h (fun r M1 t => r = some (.int 0) ∧ M1 = im_setL M2 138 0 x.toInt64 ∧ t = 0)) := ix_St (tb_GX L xs)
  have l0 : im_lk (lv_args 0 [.ref 0, .int p0, .int p1, .int p2, .ref 138]) 0 = some (.ref 0) := rfl
  have l1 : im_lk (lv_args 0 [.ref 0, .int p0, .int p1, .int p2, .ref 138]) 1 = some (.int p0) := rfl
  have l2 : im_lk (lv_args 0 [.ref 0, .int p0, .int p1, .int p2, .ref 138]) 2 = some (.int p1) := rfl
  have l3 : im_lk (lv_args 0 [.ref 0, .int p0, .int p1, .int p2, .ref 138]) 3 = some (.int p2) := rfl
  have l4 : im_lk (lv_args 0 [.ref 0, .int p0, .int p1, .int p2, .ref 138]) 4 = some (.ref 138) := rfl
  refine iq_aload hS 2 JW_bars_d0 l4 rfl ?_
  refine iq_iconst hS 3 JW_bars_d2 (v := 0) (by decide +kernel) rfl ?_
  refine iq_aload_n hS 4 JW_bars_d3 l0 rfl ?_
  refine iq_iload_n hS 5 JW_bars_d4 l1 rfl ?_
  refine iq_iload_n hS 6 JW_bars_d5 l2 rfl ?_
  refine iq_iload_n hS 7 JW_bars_d6 l3 rfl ?_
  refine iq_call hS 10 JW_bars_d7 rfl (pr_inst (vs := [_, _, _]) lc_18_60 lT_248 rfl rfl (by decide) (by decide) rfl (Nat.le_of_ble_eq_true rfl) (Nat.le_of_ble_eq_true rfl) (fun _ => Or.inl (pr_b (ka_0 hM) (by decide) rfl))) hc rfl ?_
  rintro v M1 ⟨rfl, rfl⟩
  refine iq_i2l hS 11 JW_bars_d10 rfl ?_
  refine iq_lastore hS 12 JW_bars_d11 ⟨(ka_138 hM2).1, (ka_138 hM2).2, by decide, ix_lt (kl_138 hM2) (by decide)⟩ rfl ?_
  refine iq_goto hS JW_bars_d12 (t := 19) rfl ?_
  refine iq_iconst hS 20 JW_bars_d19 (v := 0) (by decide +kernel) rfl ?_
  exact ix_iret JW_bars_d20 rfl rfl ⟨rfl, rfl, rfl⟩
theorem W_bars_1 {L : Nat} {xs : Nat → Int32} {dep : Nat} {w : Bool} {M M2 : im_M} {p0 : Int32} {p1 : Int32} {p2 : Int32} (hM : lw_S w M) (hc : it (tb_G L xs) tb_X dep J_H_bars (fun E M1 => E = 1 ∧ M1 = M2) (0, lv_args 0 [.ref 0, .int p0, .int p1, .int p2], [], M)) : ix (tb_G L xs) tb_X (dep + 1) JW_bars JW_bars_h (fun r M1 t => r = some (.int 1) ∧ M1 = M2 ∧ t = 1) (0, lv_args 0 [.ref 0, .int p0, .int p1, .int p2, .ref 138], [], M) := by
  have hS : im_St (tb_G L xs) (dep + 1) JW_bars (ix (tb_G L xs) tb_X (dep + 1) JW_bars JW_bars_h (fun r M1 t => r = some (.int 1) ∧ M1 = M2 ∧ t = 1)) := ix_St (tb_GX L xs)
  have l0 : im_lk (lv_args 0 [.ref 0, .int p0, .int p1, .int p2, .ref 138]) 0 = some (.ref 0) := rfl
  have l1 : im_lk (lv_args 0 [.ref 0, .int p0, .int p1, .int p2, .ref 138]) 1 = some (.int p0) := rfl
  have l2 : im_lk (lv_args 0 [.ref 0, .int p0, .int p1, .int p2, .ref 138]) 2 = some (.int p1) := rfl
  have l3 : im_lk (lv_args 0 [.ref 0, .int p0, .int p1, .int p2, .ref 138]) 3 = some (.int p2) := rfl
  have l4 : im_lk (lv_args 0 [.ref 0, .int p0, .int p1, .int p2, .ref 138]) 4 = some (.ref 138) := rfl
  refine iq_aload hS 2 JW_bars_d0 l4 rfl ?_
  refine iq_iconst hS 3 JW_bars_d2 (v := 0) (by decide +kernel) rfl ?_
  refine iq_aload_n hS 4 JW_bars_d3 l0 rfl ?_
  refine iq_iload_n hS 5 JW_bars_d4 l1 rfl ?_
  refine iq_iload_n hS 6 JW_bars_d5 l2 rfl ?_
  refine iq_iload_n hS 7 JW_bars_d6 l3 rfl ?_
  refine ix_caught (tb_GX L xs) JW_bars_d7 (pr_inst (vs := [_, _, _]) lc_18_60 lT_248 rfl rfl (by decide) (by decide) rfl (Nat.le_of_ble_eq_true rfl) (Nat.le_of_ble_eq_true rfl) (fun _ => Or.inl ⟨(ka_0 hM).1, by rw [(ka_0 hM).2]; decide, by rw [(ka_0 hM).2]; rfl⟩)) hc (fun E M1 h => ?_)
  obtain ⟨rfl, rfl⟩ := h
  refine ⟨15, 17, _, by decide +kernel, im_forg_ok JW_bars_d15 (by decide), ?_⟩
  refine iq_iconst (ix_St (tb_GX L xs)) 18 JW_bars_d17 (v := 1) (by decide +kernel) rfl ?_
  exact ix_iret JW_bars_d18 rfl rfl ⟨rfl, rfl, rfl⟩
theorem JW_reading_d0 : decode JW_reading.2.1 0 = .ok (.aload_n 2, 1) := by decide +kernel
theorem JW_reading_d1 : decode JW_reading.2.1 1 = .ok (.iconst 0, 1) := by decide +kernel
theorem JW_reading_d2 : decode JW_reading.2.1 2 = .ok (.aload_n 0, 1) := by decide +kernel
theorem JW_reading_d3 : decode JW_reading.2.1 3 = .ok (.iload_n 1, 1) := by decide +kernel
theorem JW_reading_d4 : decode JW_reading.2.1 4 = .ok (.invokevirtual 64, 3) := by decide +kernel
theorem JW_reading_d7 : decode JW_reading.2.1 7 = .ok (.i2l, 1) := by decide +kernel
theorem JW_reading_d8 : decode JW_reading.2.1 8 = .ok (.lastore, 1) := by decide +kernel
theorem JW_reading_d9 : decode JW_reading.2.1 9 = .ok (.goto 6, 3) := by decide +kernel
theorem JW_reading_d15 : decode JW_reading.2.1 15 = .ok (.iconst 0, 1) := by decide +kernel
theorem JW_reading_d16 : decode JW_reading.2.1 16 = .ok (.ireturn, 1) := by decide +kernel
theorem JW_reading_d12 : decode JW_reading.2.1 12 = .ok (.astore_n 3, 1) := by decide +kernel
theorem JW_reading_d13 : decode JW_reading.2.1 13 = .ok (.iconst 1, 1) := by decide +kernel
theorem JW_reading_d14 : decode JW_reading.2.1 14 = .ok (.ireturn, 1) := by decide +kernel
theorem W_reading {L : Nat} {xs : Nat → Int32} {dep : Nat} {w w2 : Bool} {M M2 : im_M} {p0 : Int32} {x : Int32} (hM : lw_S w M) (hM2 : lw_S w2 M2) (hc : ia (tb_G L xs) dep J_H_reading (fun r M1 => r = some (.int x) ∧ M1 = M2) (0, lv_args 0 [.ref 0, .int p0], [], M)) : ix (tb_G L xs) tb_X (dep + 1) JW_reading JW_reading_h (fun r M1 t => r = some (.int 0) ∧ M1 = im_setL M2 138 0 x.toInt64 ∧ t = 0) (0, lv_args 0 [.ref 0, .int p0, .ref 138], [], M) := by
  have hS : im_St (tb_G L xs) (dep + 1) JW_reading (ix (tb_G L xs) tb_X (dep + 1) JW_reading JW_reading_h (fun r M1 t => r = some (.int 0) ∧ M1 = im_setL M2 138 0 x.toInt64 ∧ t = 0)) := ix_St (tb_GX L xs)
  have l0 : im_lk (lv_args 0 [.ref 0, .int p0, .ref 138]) 0 = some (.ref 0) := rfl
  have l1 : im_lk (lv_args 0 [.ref 0, .int p0, .ref 138]) 1 = some (.int p0) := rfl
  have l2 : im_lk (lv_args 0 [.ref 0, .int p0, .ref 138]) 2 = some (.ref 138) := rfl
  refine iq_aload_n hS 1 JW_reading_d0 l2 rfl ?_
  refine iq_iconst hS 2 JW_reading_d1 (v := 0) (by decide +kernel) rfl ?_
  refine iq_aload_n hS 3 JW_reading_d2 l0 rfl ?_
  refine iq_iload_n hS 4 JW_reading_d3 l1 rfl ?_
  refine iq_call hS 7 JW_reading_d4 rfl (pr_inst (vs := [_]) lc_18_64 lT_261 rfl rfl (by decide) (by decide) rfl (Nat.le_of_ble_eq_true rfl) (Nat.le_of_ble_eq_true rfl) (fun _ => Or.inl (pr_b (ka_0 hM) (by decide) rfl))) hc rfl ?_
  rintro v M1 ⟨rfl, rfl⟩
  refine iq_i2l hS 8 JW_reading_d7 rfl ?_
  refine iq_lastore hS 9 JW_reading_d8 ⟨(ka_138 hM2).1, (ka_138 hM2).2, by decide, ix_lt (kl_138 hM2) (by decide)⟩ rfl ?_
  refine iq_goto hS JW_reading_d9 (t := 15) rfl ?_
  refine iq_iconst hS 16 JW_reading_d15 (v := 0) (by decide +kernel) rfl ?_
  exact ix_iret JW_reading_d16 rfl rfl ⟨rfl, rfl, rfl⟩
theorem W_reading_0 {L : Nat} {xs : Nat → Int32} {dep : Nat} {w : Bool} {M M2 : im_M} {p0 : Int32} (hM : lw_S w M) (hc : it (tb_G L xs) tb_X dep J_H_reading (fun E M1 => E = 0 ∧ M1 = M2) (0, lv_args 0 [.ref 0, .int p0], [], M)) : ix (tb_G L xs) tb_X (dep + 1) JW_reading JW_reading_h (fun r M1 t => r = some (.int 1) ∧ M1 = M2 ∧ t = 1) (0, lv_args 0 [.ref 0, .int p0, .ref 138], [], M) := by
  have hS : im_St (tb_G L xs) (dep + 1) JW_reading (ix (tb_G L xs) tb_X (dep + 1) JW_reading JW_reading_h (fun r M1 t => r = some (.int 1) ∧ M1 = M2 ∧ t = 1)) := ix_St (tb_GX L xs)
  have l0 : im_lk (lv_args 0 [.ref 0, .int p0, .ref 138]) 0 = some (.ref 0) := rfl
  have l1 : im_lk (lv_args 0 [.ref 0, .int p0, .ref 138]) 1 = some (.int p0) := rfl
  have l2 : im_lk (lv_args 0 [.ref 0, .int p0, .ref 138]) 2 = some (.ref 138) := rfl
  refine iq_aload_n hS 1 JW_reading_d0 l2 rfl ?_
  refine iq_iconst hS 2 JW_reading_d1 (v := 0) (by decide +kernel) rfl ?_
  refine iq_aload_n hS 3 JW_reading_d2 l0 rfl ?_
  refine iq_iload_n hS 4 JW_reading_d3 l1 rfl ?_
  refine ix_caught (tb_GX L xs) JW_reading_d4 (pr_inst (vs := [_]) lc_18_64 lT_261 rfl rfl (by decide) (by decide) rfl (Nat.le_of_ble_eq_true rfl) (Nat.le_of_ble_eq_true rfl) (fun _ => Or.inl ⟨(ka_0 hM).1, by rw [(ka_0 hM).2]; decide, by rw [(ka_0 hM).2]; rfl⟩)) hc (fun E M1 h => ?_)
  obtain ⟨rfl, rfl⟩ := h
  refine ⟨12, 13, _, by decide +kernel, im_forg_okn JW_reading_d12 (by decide), ?_⟩
  refine iq_iconst (ix_St (tb_GX L xs)) 14 JW_reading_d13 (v := 1) (by decide +kernel) rfl ?_
  exact ix_iret JW_reading_d14 rfl rfl ⟨rfl, rfl, rfl⟩
