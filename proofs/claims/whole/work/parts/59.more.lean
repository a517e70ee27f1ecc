/-! CELL, LABEL, DRAWN, READING (CLASS) -/
theorem J_H_cell_d0 : decode J_H_cell.2.1 0 = .ok (.iload_n 1, 1) := by decide +kernel
theorem J_H_cell_d1 : decode J_H_cell.2.1 1 = .ok (.ifCond .lt 19, 3) := by decide +kernel
theorem J_H_cell_d4 : decode J_H_cell.2.1 4 = .ok (.iload_n 1, 1) := by decide +kernel
theorem J_H_cell_d5 : decode J_H_cell.2.1 5 = .ok (.iconst 3, 1) := by decide +kernel
theorem J_H_cell_d6 : decode J_H_cell.2.1 6 = .ok (.if_icmp .gt 14, 3) := by decide +kernel
theorem J_H_cell_d9 : decode J_H_cell.2.1 9 = .ok (.iload_n 2, 1) := by decide +kernel
theorem J_H_cell_d10 : decode J_H_cell.2.1 10 = .ok (.ifCond .lt 10, 3) := by decide +kernel
theorem J_H_cell_d13 : decode J_H_cell.2.1 13 = .ok (.iload_n 2, 1) := by decide +kernel
theorem J_H_cell_d14 : decode J_H_cell.2.1 14 = .ok (.sipush 255, 3) := by decide +kernel
theorem J_H_cell_d17 : decode J_H_cell.2.1 17 = .ok (.if_icmp .le 11, 3) := by decide +kernel
theorem J_H_cell_d20 : decode J_H_cell.2.1 20 = .ok (.new 84, 3) := by decide +kernel
theorem J_H_cell_d23 : decode J_H_cell.2.1 23 = .ok (.dup, 1) := by decide +kernel
theorem J_H_cell_d24 : decode J_H_cell.2.1 24 = .ok (.invokespecial 86, 3) := by decide +kernel
theorem J_H_cell_d27 : decode J_H_cell.2.1 27 = .ok (.athrow, 1) := by decide +kernel
theorem J_H_cell_d28 : decode J_H_cell.2.1 28 = .ok (.iload_n 3, 1) := by decide +kernel
theorem J_H_cell_d29 : decode J_H_cell.2.1 29 = .ok (.ifCond .lt 15, 3) := by decide +kernel
theorem J_H_cell_d32 : decode J_H_cell.2.1 32 = .ok (.iload_n 3, 1) := by decide +kernel
theorem J_H_cell_d33 : decode J_H_cell.2.1 33 = .ok (.aload_n 0, 1) := by decide +kernel
theorem J_H_cell_d34 : decode J_H_cell.2.1 34 = .ok (.getfield 60, 3) := by decide +kernel
theorem J_H_cell_d37 : decode J_H_cell.2.1 37 = .ok (.iload_n 1, 1) := by decide +kernel
theorem J_H_cell_d38 : decode J_H_cell.2.1 38 = .ok (.invokevirtual 99, 3) := by decide +kernel
theorem J_H_cell_d41 : decode J_H_cell.2.1 41 = .ok (.if_icmp .lt 11, 3) := by decide +kernel
theorem J_H_cell_d44 : decode J_H_cell.2.1 44 = .ok (.new 103, 3) := by decide +kernel
theorem J_H_cell_d47 : decode J_H_cell.2.1 47 = .ok (.dup, 1) := by decide +kernel
theorem J_H_cell_d48 : decode J_H_cell.2.1 48 = .ok (.invokespecial 105, 3) := by decide +kernel
theorem J_H_cell_d51 : decode J_H_cell.2.1 51 = .ok (.athrow, 1) := by decide +kernel
theorem J_H_cell_d52 : decode J_H_cell.2.1 52 = .ok (.aload_n 0, 1) := by decide +kernel
theorem J_H_cell_d53 : decode J_H_cell.2.1 53 = .ok (.getfield 60, 3) := by decide +kernel
theorem J_H_cell_d56 : decode J_H_cell.2.1 56 = .ok (.iload_n 1, 1) := by decide +kernel
theorem J_H_cell_d57 : decode J_H_cell.2.1 57 = .ok (.iload_n 2, 1) := by decide +kernel
theorem J_H_cell_d58 : decode J_H_cell.2.1 58 = .ok (.iload_n 3, 1) := by decide +kernel
theorem J_H_cell_d59 : decode J_H_cell.2.1 59 = .ok (.iload 4, 2) := by decide +kernel
theorem J_H_cell_d61 : decode J_H_cell.2.1 61 = .ok (.invokevirtual 106, 3) := by decide +kernel
theorem J_H_cell_d64 : decode J_H_cell.2.1 64 = .ok (.return_, 1) := by decide +kernel
theorem H_cell {L : Nat} {xs : Nat → Int32} {dep : Nat} {u : Bool} {M : im_M} {f c r n : Nat} {x : Int32} (hf : f ≤ 3) (hc : c ≤ 255) (hr : r < n) (hn : n ≤ 32) (hz : im_i M 57 (3 * f + 1) = nI n) (hM : lw_S u M) : ia (tb_G L xs) (dep + 1) J_H_cell (fun v M1 => v = none ∧ M1 = im_setI M 58 ((f * 256 + c) * 32 + r) x) (0, lv_args 0 [.ref 0, .int (nI f), .int (nI c), .int (nI r), .int x], [], M) := by
  have hS : im_St (tb_G L xs) (dep + 1) J_H_cell (ia (tb_G L xs) (dep + 1) J_H_cell (fun v M1 => v = none ∧ M1 = im_setI M 58 ((f * 256 + c) * 32 + r) x)) := ia_St
  have l0 : im_lk (lv_args 0 [.ref 0, .int (nI f), .int (nI c), .int (nI r), .int x]) 0 = some (.ref 0) := rfl
  have l1 : im_lk (lv_args 0 [.ref 0, .int (nI f), .int (nI c), .int (nI r), .int x]) 1 = some (.int (nI f)) := rfl
  have l2 : im_lk (lv_args 0 [.ref 0, .int (nI f), .int (nI c), .int (nI r), .int x]) 2 = some (.int (nI c)) := rfl
  have l3 : im_lk (lv_args 0 [.ref 0, .int (nI f), .int (nI c), .int (nI r), .int x]) 3 = some (.int (nI r)) := rfl
  have l4 : im_lk (lv_args 0 [.ref 0, .int (nI f), .int (nI c), .int (nI r), .int x]) 4 = some (.int x) := rfl
  refine iq_iload_n hS 1 J_H_cell_d0 l1 rfl ?_
  refine iq_if_lt hS 4 J_H_cell_d1 (t := 20) rfl (fun q1 => absurd q1 (nI_pos (by omega))) rfl (fun q1 => ?_)
  refine iq_iload_n hS 5 J_H_cell_d4 l1 rfl ?_
  refine iq_iconst hS 6 J_H_cell_d5 (v := 3) (by decide +kernel) rfl ?_
  refine iq_icmp_gt hS 9 J_H_cell_d6 (t := 20) rfl (fun q6 => absurd q6 (nI_nlt (a := 3) (by omega) (by decide))) rfl (fun q6 => ?_)
  refine iq_iload_n hS 10 J_H_cell_d9 l2 rfl ?_
  refine iq_if_lt hS 13 J_H_cell_d10 (t := 20) rfl (fun q10 => absurd q10 (nI_pos (by omega))) rfl (fun q10 => ?_)
  refine iq_iload_n hS 14 J_H_cell_d13 l2 rfl ?_
  refine iq_sipush hS 17 J_H_cell_d14 (v := 255) (by decide +kernel) rfl ?_
  refine iq_icmp_le hS 20 J_H_cell_d17 (t := 28) rfl (fun q17 => ?_) rfl (fun q17 => absurd (nI_le (b := 255) (by omega) (by decide)) q17)
  refine iq_iload_n hS 29 J_H_cell_d28 l3 rfl ?_
  refine iq_if_lt hS 32 J_H_cell_d29 (t := 44) rfl (fun q29 => absurd q29 (nI_pos (by omega))) rfl (fun q29 => ?_)
  refine iq_iload_n hS 33 J_H_cell_d32 l3 rfl ?_
  refine iq_aload_n hS 34 J_H_cell_d33 l0 rfl ?_
  refine iq_getR hS 37 J_H_cell_d34 lf_11_60 (Or.inl ⟨_, rfl⟩) (ka_0 hM) (ra_0_4 hM) rfl ?_
  refine iq_iload_n hS 38 J_H_cell_d37 l1 rfl ?_
  refine iq_call hS 41 J_H_cell_d38 rfl (pr_inst (vs := [_]) lc_11_99 lT_100 rfl rfl (by decide) (by decide) rfl (Nat.le_of_ble_eq_true rfl) (Nat.le_of_ble_eq_true rfl) (fun _ => Or.inl (pr_b (ka_56 hM) (by decide) rfl))) (H_rowsOf hf hM) rfl ?_
  rintro v M1 ⟨rfl, rfl⟩
  refine iq_icmp_lt hS 44 J_H_cell_d41 (t := 52) rfl (fun q41 => ?_) rfl (fun q41 => absurd (by rw [hz]; exact nI_lt hr (by omega)) q41)
  refine iq_aload_n hS 53 J_H_cell_d52 l0 rfl ?_
  refine iq_getR hS 56 J_H_cell_d53 lf_11_60 (Or.inl ⟨_, rfl⟩) (ka_0 hM) (ra_0_4 hM) rfl ?_
  refine iq_iload_n hS 57 J_H_cell_d56 l1 rfl ?_
  refine iq_iload_n hS 58 J_H_cell_d57 l2 rfl ?_
  refine iq_iload_n hS 59 J_H_cell_d58 l3 rfl ?_
  refine iq_iload hS 61 J_H_cell_d59 l4 rfl ?_
  refine iq_call hS 64 J_H_cell_d61 rfl (pr_inst (vs := [_, _, _, _]) lc_11_106 lT_101 rfl rfl (by decide) (by decide) rfl (Nat.le_of_ble_eq_true rfl) (Nat.le_of_ble_eq_true rfl) (fun _ => Or.inl (pr_b (ka_56 hM) (by decide) rfl))) (H_newRow hf hc (by omega) hM) rfl ?_
  rintro v M1 ⟨rfl, rfl⟩
  exact iq_ret J_H_cell_d64 rfl ⟨rfl, rfl⟩
theorem H_cell_0 {L : Nat} {xs : Nat → Int32} {dep : Nat} {u : Bool} {M : im_M} {p0 p1 p2 p3 : Int32} (hn : ¬ (¬ p0 < 0 ∧ ¬ 3 < p0 ∧ ¬ p1 < 0 ∧ p1 ≤ 255)) (hM : lw_S u M) : it (tb_G L xs) tb_X (dep + 5) J_H_cell (fun E M1 => E = 0 ∧ M1 = im_noX M) (0, lv_args 0 [.ref 0, .int p0, .int p1, .int p2, .int p3], [], M) := by
  have hS : im_St (tb_G L xs) (dep + 5) J_H_cell (it (tb_G L xs) tb_X (dep + 5) J_H_cell (fun E M1 => E = 0 ∧ M1 = im_noX M)) := it_St
  have l0 : im_lk (lv_args 0 [.ref 0, .int p0, .int p1, .int p2, .int p3]) 0 = some (.ref 0) := rfl
  have l1 : im_lk (lv_args 0 [.ref 0, .int p0, .int p1, .int p2, .int p3]) 1 = some (.int p0) := rfl
  have l2 : im_lk (lv_args 0 [.ref 0, .int p0, .int p1, .int p2, .int p3]) 2 = some (.int p1) := rfl
  have l3 : im_lk (lv_args 0 [.ref 0, .int p0, .int p1, .int p2, .int p3]) 3 = some (.int p2) := rfl
  have l4 : im_lk (lv_args 0 [.ref 0, .int p0, .int p1, .int p2, .int p3]) 4 = some (.int p3) := rfl
  refine iq_iload_n hS 1 J_H_cell_d0 l1 rfl ?_
  refine iq_if_lt hS 4 J_H_cell_d1 (t := 20) rfl (fun q1 => ?_) rfl (fun q1 => ?_)
  · exact it_now J_H_cell_d20 gx_84 J_H_cell_d23 J_H_cell_d24 J_H_cell_d27 (Nat.le_of_ble_eq_true rfl) (by omega) ⟨rfl, rfl⟩
  · refine iq_iload_n hS 5 J_H_cell_d4 l1 rfl ?_
    refine iq_iconst hS 6 J_H_cell_d5 (v := 3) (by decide +kernel) rfl ?_
    refine iq_icmp_gt hS 9 J_H_cell_d6 (t := 20) rfl (fun q6 => ?_) rfl (fun q6 => ?_)
    · exact it_now J_H_cell_d20 gx_84 J_H_cell_d23 J_H_cell_d24 J_H_cell_d27 (Nat.le_of_ble_eq_true rfl) (by omega) ⟨rfl, rfl⟩
    · refine iq_iload_n hS 10 J_H_cell_d9 l2 rfl ?_
      refine iq_if_lt hS 13 J_H_cell_d10 (t := 20) rfl (fun q10 => ?_) rfl (fun q10 => ?_)
      · exact it_now J_H_cell_d20 gx_84 J_H_cell_d23 J_H_cell_d24 J_H_cell_d27 (Nat.le_of_ble_eq_true rfl) (by omega) ⟨rfl, rfl⟩
      · refine iq_iload_n hS 14 J_H_cell_d13 l2 rfl ?_
        refine iq_sipush hS 17 J_H_cell_d14 (v := 255) (by decide +kernel) rfl ?_
        refine iq_icmp_le hS 20 J_H_cell_d17 (t := 28) rfl (fun q17 => absurd ⟨q1, q6, q10, q17⟩ hn) rfl (fun q17 => ?_)
        exact it_now J_H_cell_d20 gx_84 J_H_cell_d23 J_H_cell_d24 J_H_cell_d27 (Nat.le_of_ble_eq_true rfl) (by omega) ⟨rfl, rfl⟩
theorem H_cell_1 {L : Nat} {xs : Nat → Int32} {dep : Nat} {u : Bool} {M : im_M} {f c : Nat} {p2 p3 : Int32} (hf : f ≤ 3) (hc : c ≤ 255) (hn : ¬ (¬ p2 < 0 ∧ p2 < im_i M 57 (3 * f + 1))) (hM : lw_S u M) : it (tb_G L xs) tb_X (dep + 5) J_H_cell (fun E M1 => E = 1 ∧ M1 = im_noX M) (0, lv_args 0 [.ref 0, .int (nI f), .int (nI c), .int p2, .int p3], [], M) := by
  have hS : im_St (tb_G L xs) (dep + 5) J_H_cell (it (tb_G L xs) tb_X (dep + 5) J_H_cell (fun E M1 => E = 1 ∧ M1 = im_noX M)) := it_St
  have l0 : im_lk (lv_args 0 [.ref 0, .int (nI f), .int (nI c), .int p2, .int p3]) 0 = some (.ref 0) := rfl
  have l1 : im_lk (lv_args 0 [.ref 0, .int (nI f), .int (nI c), .int p2, .int p3]) 1 = some (.int (nI f)) := rfl
  have l2 : im_lk (lv_args 0 [.ref 0, .int (nI f), .int (nI c), .int p2, .int p3]) 2 = some (.int (nI c)) := rfl
  have l3 : im_lk (lv_args 0 [.ref 0, .int (nI f), .int (nI c), .int p2, .int p3]) 3 = some (.int p2) := rfl
  have l4 : im_lk (lv_args 0 [.ref 0, .int (nI f), .int (nI c), .int p2, .int p3]) 4 = some (.int p3) := rfl
  refine iq_iload_n hS 1 J_H_cell_d0 l1 rfl ?_
  refine iq_if_lt hS 4 J_H_cell_d1 (t := 20) rfl (fun q1 => absurd q1 (nI_pos (by omega))) rfl (fun q1 => ?_)
  refine iq_iload_n hS 5 J_H_cell_d4 l1 rfl ?_
  refine iq_iconst hS 6 J_H_cell_d5 (v := 3) (by decide +kernel) rfl ?_
  refine iq_icmp_gt hS 9 J_H_cell_d6 (t := 20) rfl (fun q6 => absurd q6 (nI_nlt (a := 3) (by omega) (by decide))) rfl (fun q6 => ?_)
  refine iq_iload_n hS 10 J_H_cell_d9 l2 rfl ?_
  refine iq_if_lt hS 13 J_H_cell_d10 (t := 20) rfl (fun q10 => absurd q10 (nI_pos (by omega))) rfl (fun q10 => ?_)
  refine iq_iload_n hS 14 J_H_cell_d13 l2 rfl ?_
  refine iq_sipush hS 17 J_H_cell_d14 (v := 255) (by decide +kernel) rfl ?_
  refine iq_icmp_le hS 20 J_H_cell_d17 (t := 28) rfl (fun q17 => ?_) rfl (fun q17 => absurd (nI_le (b := 255) (by omega) (by decide)) q17)
  refine iq_iload_n hS 29 J_H_cell_d28 l3 rfl ?_
  refine iq_if_lt hS 32 J_H_cell_d29 (t := 44) rfl (fun q29 => ?_) rfl (fun q29 => ?_)
  · exact it_now J_H_cell_d44 gx_103 J_H_cell_d47 J_H_cell_d48 J_H_cell_d51 (Nat.le_of_ble_eq_true rfl) (by omega) ⟨rfl, rfl⟩
  · refine iq_iload_n hS 33 J_H_cell_d32 l3 rfl ?_
    refine iq_aload_n hS 34 J_H_cell_d33 l0 rfl ?_
    refine iq_getR hS 37 J_H_cell_d34 lf_11_60 (Or.inl ⟨_, rfl⟩) (ka_0 hM) (ra_0_4 hM) rfl ?_
    refine iq_iload_n hS 38 J_H_cell_d37 l1 rfl ?_
    refine iq_call hS 41 J_H_cell_d38 rfl (pr_inst (vs := [_]) lc_11_99 lT_100 rfl rfl (by decide) (by decide) rfl (Nat.le_of_ble_eq_true rfl) (Nat.le_of_ble_eq_true rfl) (fun _ => Or.inl (pr_b (ka_56 hM) (by decide) rfl))) (H_rowsOf hf hM) rfl ?_
    rintro v M1 ⟨rfl, rfl⟩
    refine iq_icmp_lt hS 44 J_H_cell_d41 (t := 52) rfl (fun q41 => absurd ⟨q29, q41⟩ hn) rfl (fun q41 => ?_)
    exact it_now J_H_cell_d44 gx_103 J_H_cell_d47 J_H_cell_d48 J_H_cell_d51 (Nat.le_of_ble_eq_true rfl) (by omega) ⟨rfl, rfl⟩
theorem J_H_label_d0 : decode J_H_label.2.1 0 = .ok (.iload_n 2, 1) := by decide +kernel
theorem J_H_label_d1 : decode J_H_label.2.1 1 = .ok (.ifCond .lt 8, 3) := by decide +kernel
theorem J_H_label_d4 : decode J_H_label.2.1 4 = .ok (.iload_n 2, 1) := by decide +kernel
theorem J_H_label_d5 : decode J_H_label.2.1 5 = .ok (.iconst 3, 1) := by decide +kernel
theorem J_H_label_d6 : decode J_H_label.2.1 6 = .ok (.if_icmp .le 11, 3) := by decide +kernel
theorem J_H_label_d9 : decode J_H_label.2.1 9 = .ok (.new 84, 3) := by decide +kernel
theorem J_H_label_d12 : decode J_H_label.2.1 12 = .ok (.dup, 1) := by decide +kernel
theorem J_H_label_d13 : decode J_H_label.2.1 13 = .ok (.invokespecial 86, 3) := by decide +kernel
theorem J_H_label_d16 : decode J_H_label.2.1 16 = .ok (.athrow, 1) := by decide +kernel
theorem J_H_label_d17 : decode J_H_label.2.1 17 = .ok (.iload_n 1, 1) := by decide +kernel
theorem J_H_label_d18 : decode J_H_label.2.1 18 = .ok (.ifCond .lt 14, 3) := by decide +kernel
theorem J_H_label_d21 : decode J_H_label.2.1 21 = .ok (.iload_n 1, 1) := by decide +kernel
theorem J_H_label_d22 : decode J_H_label.2.1 22 = .ok (.aload_n 0, 1) := by decide +kernel
theorem J_H_label_d23 : decode J_H_label.2.1 23 = .ok (.getfield 30, 3) := by decide +kernel
theorem J_H_label_d26 : decode J_H_label.2.1 26 = .ok (.getfield 122, 3) := by decide +kernel
theorem J_H_label_d29 : decode J_H_label.2.1 29 = .ok (.if_icmp .lt 7, 3) := by decide +kernel
theorem J_H_label_d36 : decode J_H_label.2.1 36 = .ok (.aload_n 0, 1) := by decide +kernel
theorem J_H_label_d37 : decode J_H_label.2.1 37 = .ok (.getfield 30, 3) := by decide +kernel
theorem J_H_label_d40 : decode J_H_label.2.1 40 = .ok (.getfield 125, 3) := by decide +kernel
theorem J_H_label_d43 : decode J_H_label.2.1 43 = .ok (.iconst 4, 1) := by decide +kernel
theorem J_H_label_d44 : decode J_H_label.2.1 44 = .ok (.iload_n 1, 1) := by decide +kernel
theorem J_H_label_d45 : decode J_H_label.2.1 45 = .ok (.imul, 1) := by decide +kernel
theorem J_H_label_d46 : decode J_H_label.2.1 46 = .ok (.iload_n 2, 1) := by decide +kernel
theorem J_H_label_d47 : decode J_H_label.2.1 47 = .ok (.iadd, 1) := by decide +kernel
theorem J_H_label_d48 : decode J_H_label.2.1 48 = .ok (.iaload, 1) := by decide +kernel
theorem J_H_label_d49 : decode J_H_label.2.1 49 = .ok (.ireturn, 1) := by decide +kernel
theorem H_label {L : Nat} {xs : Nat → Int32} {dep : Nat} {u : Bool} {M : im_M} {k q n : Nat} (hq : q ≤ 3) (hk : k < n) (hn : 4 * n ≤ 48) (hz : im_i M 15 4 = nI n) (hM : lw_S u M) : ia (tb_G L xs) dep J_H_label (fun v M1 => v = some (.int (im_i M 16 (4 * k + q))) ∧ M1 = M) (0, lv_args 0 [.ref 0, .int (nI k), .int (nI q)], [], M) := by
  have hS : im_St (tb_G L xs) dep J_H_label (ia (tb_G L xs) dep J_H_label (fun v M1 => v = some (.int (im_i M 16 (4 * k + q))) ∧ M1 = M)) := ia_St
  have e1 : (4 : Int32) * nI k + nI q = nI (4 * k + q) := by rw [show (4 : Int32) * nI k = nI (4 * k) from nI_mul 4 k]; exact nI_add _ _
  have l0 : im_lk (lv_args 0 [.ref 0, .int (nI k), .int (nI q)]) 0 = some (.ref 0) := rfl
  have l1 : im_lk (lv_args 0 [.ref 0, .int (nI k), .int (nI q)]) 1 = some (.int (nI k)) := rfl
  have l2 : im_lk (lv_args 0 [.ref 0, .int (nI k), .int (nI q)]) 2 = some (.int (nI q)) := rfl
  refine iq_iload_n hS 1 J_H_label_d0 l2 rfl ?_
  refine iq_if_lt hS 4 J_H_label_d1 (t := 9) rfl (fun q1 => absurd q1 (nI_pos (by omega))) rfl (fun q1 => ?_)
  refine iq_iload_n hS 5 J_H_label_d4 l2 rfl ?_
  refine iq_iconst hS 6 J_H_label_d5 (v := 3) (by decide +kernel) rfl ?_
  refine iq_icmp_le hS 9 J_H_label_d6 (t := 17) rfl (fun q6 => ?_) rfl (fun q6 => absurd (nI_le (b := 3) (by omega) (by decide)) q6)
  refine iq_iload_n hS 18 J_H_label_d17 l1 rfl ?_
  refine iq_if_lt hS 21 J_H_label_d18 (t := 32) rfl (fun q18 => absurd q18 (nI_pos (by omega))) rfl (fun q18 => ?_)
  refine iq_iload_n hS 22 J_H_label_d21 l1 rfl ?_
  refine iq_aload_n hS 23 J_H_label_d22 l0 rfl ?_
  refine iq_getR hS 26 J_H_label_d23 lf_11_30 (Or.inl ⟨_, rfl⟩) (ka_0 hM) (ra_0_2 hM) rfl ?_
  refine iq_getI hS 29 J_H_label_d26 lf_11_122 (Or.inl rfl) (ka_15 hM) rfl ?_
  refine iq_icmp_lt hS 32 J_H_label_d29 (t := 36) rfl (fun q29 => ?_) rfl (fun q29 => absurd (by rw [hz]; exact nI_lt hk (by omega)) q29)
  refine iq_aload_n hS 37 J_H_label_d36 l0 rfl ?_
  refine iq_getR hS 40 J_H_label_d37 lf_11_30 (Or.inl ⟨_, rfl⟩) (ka_0 hM) (ra_0_2 hM) rfl ?_
  refine iq_getR hS 43 J_H_label_d40 lf_11_125 (Or.inr ⟨_, rfl⟩) (ka_15 hM) (ra_15_5 hM) rfl ?_
  refine iq_iconst hS 44 J_H_label_d43 (v := 4) (by decide +kernel) rfl ?_
  refine iq_iload_n hS 45 J_H_label_d44 l1 rfl ?_
  refine iq_imul hS 46 J_H_label_d45 rfl ?_
  refine iq_iload_n hS 47 J_H_label_d46 l2 rfl ?_
  refine iq_iadd hS 48 J_H_label_d47 rfl ?_
  refine iq_iaload hS 49 J_H_label_d48 ⟨(ka_16 hM).1, (ka_16 hM).2, by rw [e1, nI_toInt (by omega)]; omega, ix_lt (kl_16 hM) (by rw [e1, nI_toInt (by omega)]; omega)⟩ rfl ?_
  rw [e1, nI_clamp (by omega)]
  exact iq_iret J_H_label_d49 rfl rfl ⟨rfl, rfl⟩
theorem J_H_label_d32 : decode J_H_label.2.1 32 = .ok (.iconst (-1), 1) := by decide +kernel
theorem J_H_label_d33 : decode J_H_label.2.1 33 = .ok (.goto 16, 3) := by decide +kernel
theorem H_label_none {L : Nat} {xs : Nat → Int32} {dep : Nat} {u : Bool} {M : im_M} {q : Nat} {p0 : Int32} (hq : q ≤ 3) (hn : ¬ (¬ p0 < 0 ∧ p0 < im_i M 15 4)) (hM : lw_S u M) : ia (tb_G L xs) dep J_H_label (fun v M1 => v = some (.int (-1)) ∧ M1 = M) (0, lv_args 0 [.ref 0, .int p0, .int (nI q)], [], M) := by
  have hS : im_St (tb_G L xs) dep J_H_label (ia (tb_G L xs) dep J_H_label (fun v M1 => v = some (.int (-1)) ∧ M1 = M)) := ia_St
  have l0 : im_lk (lv_args 0 [.ref 0, .int p0, .int (nI q)]) 0 = some (.ref 0) := rfl
  have l1 : im_lk (lv_args 0 [.ref 0, .int p0, .int (nI q)]) 1 = some (.int p0) := rfl
  have l2 : im_lk (lv_args 0 [.ref 0, .int p0, .int (nI q)]) 2 = some (.int (nI q)) := rfl
  refine iq_iload_n hS 1 J_H_label_d0 l2 rfl ?_
  refine iq_if_lt hS 4 J_H_label_d1 (t := 9) rfl (fun q1 => absurd q1 (nI_pos (by omega))) rfl (fun q1 => ?_)
  refine iq_iload_n hS 5 J_H_label_d4 l2 rfl ?_
  refine iq_iconst hS 6 J_H_label_d5 (v := 3) (by decide +kernel) rfl ?_
  refine iq_icmp_le hS 9 J_H_label_d6 (t := 17) rfl (fun q6 => ?_) rfl (fun q6 => absurd (nI_le (b := 3) (by omega) (by decide)) q6)
  refine iq_iload_n hS 18 J_H_label_d17 l1 rfl ?_
  refine iq_if_lt hS 21 J_H_label_d18 (t := 32) rfl (fun q18 => ?_) rfl (fun q18 => ?_)
  · refine iq_iconst hS 33 J_H_label_d32 (v := (-1)) (by decide +kernel) rfl ?_
    refine iq_goto hS J_H_label_d33 (t := 49) rfl ?_
    exact iq_iret J_H_label_d49 rfl rfl ⟨rfl, rfl⟩
  · refine iq_iload_n hS 22 J_H_label_d21 l1 rfl ?_
    refine iq_aload_n hS 23 J_H_label_d22 l0 rfl ?_
    refine iq_getR hS 26 J_H_label_d23 lf_11_30 (Or.inl ⟨_, rfl⟩) (ka_0 hM) (ra_0_2 hM) rfl ?_
    refine iq_getI hS 29 J_H_label_d26 lf_11_122 (Or.inl rfl) (ka_15 hM) rfl ?_
    refine iq_icmp_lt hS 32 J_H_label_d29 (t := 36) rfl (fun q29 => absurd ⟨q18, q29⟩ hn) rfl (fun q29 => ?_)
    refine iq_iconst hS 33 J_H_label_d32 (v := (-1)) (by decide +kernel) rfl ?_
    refine iq_goto hS J_H_label_d33 (t := 49) rfl ?_
    exact iq_iret J_H_label_d49 rfl rfl ⟨rfl, rfl⟩
theorem H_label_0 {L : Nat} {xs : Nat → Int32} {dep : Nat} {u : Bool} {M : im_M} {p0 p1 : Int32} (hn : ¬ (¬ p1 < 0 ∧ p1 ≤ 3)) (hM : lw_S u M) : it (tb_G L xs) tb_X (dep + 5) J_H_label (fun E M1 => E = 0 ∧ M1 = im_noX M) (0, lv_args 0 [.ref 0, .int p0, .int p1], [], M) := by
  have hS : im_St (tb_G L xs) (dep + 5) J_H_label (it (tb_G L xs) tb_X (dep + 5) J_H_label (fun E M1 => E = 0 ∧ M1 = im_noX M)) := it_St
  have l0 : im_lk (lv_args 0 [.ref 0, .int p0, .int p1]) 0 = some (.ref 0) := rfl
  have l1 : im_lk (lv_args 0 [.ref 0, .int p0, .int p1]) 1 = some (.int p0) := rfl
  have l2 : im_lk (lv_args 0 [.ref 0, .int p0, .int p1]) 2 = some (.int p1) := rfl
  refine iq_iload_n hS 1 J_H_label_d0 l2 rfl ?_
  refine iq_if_lt hS 4 J_H_label_d1 (t := 9) rfl (fun q1 => ?_) rfl (fun q1 => ?_)
  · exact it_now J_H_label_d9 gx_84 J_H_label_d12 J_H_label_d13 J_H_label_d16 (Nat.le_of_ble_eq_true rfl) (by omega) ⟨rfl, rfl⟩
  · refine iq_iload_n hS 5 J_H_label_d4 l2 rfl ?_
    refine iq_iconst hS 6 J_H_label_d5 (v := 3) (by decide +kernel) rfl ?_
    refine iq_icmp_le hS 9 J_H_label_d6 (t := 17) rfl (fun q6 => absurd ⟨q1, q6⟩ hn) rfl (fun q6 => ?_)
    exact it_now J_H_label_d9 gx_84 J_H_label_d12 J_H_label_d13 J_H_label_d16 (Nat.le_of_ble_eq_true rfl) (by omega) ⟨rfl, rfl⟩
theorem J_H_drawn_d0 : decode J_H_drawn.2.1 0 = .ok (.iload_n 1, 1) := by decide +kernel
theorem J_H_drawn_d1 : decode J_H_drawn.2.1 1 = .ok (.ifCond .lt 11, 3) := by decide +kernel
theorem J_H_drawn_d4 : decode J_H_drawn.2.1 4 = .ok (.iload_n 1, 1) := by decide +kernel
theorem J_H_drawn_d5 : decode J_H_drawn.2.1 5 = .ok (.aload_n 0, 1) := by decide +kernel
theorem J_H_drawn_d6 : decode J_H_drawn.2.1 6 = .ok (.getfield 149, 3) := by decide +kernel
theorem J_H_drawn_d9 : decode J_H_drawn.2.1 9 = .ok (.if_icmp .lt 7, 3) := by decide +kernel
theorem J_H_drawn_d16 : decode J_H_drawn.2.1 16 = .ok (.aload_n 0, 1) := by decide +kernel
theorem J_H_drawn_d17 : decode J_H_drawn.2.1 17 = .ok (.getfield 73, 3) := by decide +kernel
theorem J_H_drawn_d20 : decode J_H_drawn.2.1 20 = .ok (.iload_n 1, 1) := by decide +kernel
theorem J_H_drawn_d21 : decode J_H_drawn.2.1 21 = .ok (.iaload, 1) := by decide +kernel
theorem J_H_drawn_d22 : decode J_H_drawn.2.1 22 = .ok (.ireturn, 1) := by decide +kernel
theorem H_drawn {L : Nat} {xs : Nat → Int32} {dep : Nat} {u : Bool} {M : im_M} {k n : Nat} (hk : k < n) (hn : n ≤ 120) (hz : im_i M 0 9 = nI n) (hM : lw_S u M) : ia (tb_G L xs) dep J_H_drawn (fun v M1 => v = some (.int (im_i M 66 k)) ∧ M1 = M) (0, lv_args 0 [.ref 0, .int (nI k)], [], M) := by
  have hS : im_St (tb_G L xs) dep J_H_drawn (ia (tb_G L xs) dep J_H_drawn (fun v M1 => v = some (.int (im_i M 66 k)) ∧ M1 = M)) := ia_St
  have l0 : im_lk (lv_args 0 [.ref 0, .int (nI k)]) 0 = some (.ref 0) := rfl
  have l1 : im_lk (lv_args 0 [.ref 0, .int (nI k)]) 1 = some (.int (nI k)) := rfl
  refine iq_iload_n hS 1 J_H_drawn_d0 l1 rfl ?_
  refine iq_if_lt hS 4 J_H_drawn_d1 (t := 12) rfl (fun q1 => absurd q1 (nI_pos (by omega))) rfl (fun q1 => ?_)
  refine iq_iload_n hS 5 J_H_drawn_d4 l1 rfl ?_
  refine iq_aload_n hS 6 J_H_drawn_d5 l0 rfl ?_
  refine iq_getI hS 9 J_H_drawn_d6 lf_11_149 (Or.inl rfl) (ka_0 hM) rfl ?_
  refine iq_icmp_lt hS 12 J_H_drawn_d9 (t := 16) rfl (fun q9 => ?_) rfl (fun q9 => absurd (by rw [hz]; exact nI_lt hk (by omega)) q9)
  refine iq_aload_n hS 17 J_H_drawn_d16 l0 rfl ?_
  refine iq_getR hS 20 J_H_drawn_d17 lf_11_73 (Or.inr ⟨_, rfl⟩) (ka_0 hM) (ra_0_8 hM) rfl ?_
  refine iq_iload_n hS 21 J_H_drawn_d20 l1 rfl ?_
  refine iq_iaload hS 22 J_H_drawn_d21 ⟨(ka_66 hM).1, (ka_66 hM).2, by rw [nI_toInt (by omega)]; omega, ix_lt (kl_66 hM) (by rw [nI_toInt (by omega)]; omega)⟩ rfl ?_
  rw [nI_clamp (by omega)]
  exact iq_iret J_H_drawn_d22 rfl rfl ⟨rfl, rfl⟩
theorem J_H_drawn_d12 : decode J_H_drawn.2.1 12 = .ok (.iconst (-1), 1) := by decide +kernel
theorem J_H_drawn_d13 : decode J_H_drawn.2.1 13 = .ok (.goto 9, 3) := by decide +kernel
theorem H_drawn_none {L : Nat} {xs : Nat → Int32} {dep : Nat} {u : Bool} {M : im_M} {p0 : Int32} (hn : ¬ (¬ p0 < 0 ∧ p0 < im_i M 0 9)) (hM : lw_S u M) : ia (tb_G L xs) dep J_H_drawn (fun v M1 => v = some (.int (-1)) ∧ M1 = M) (0, lv_args 0 [.ref 0, .int p0], [], M) := by
  have hS : im_St (tb_G L xs) dep J_H_drawn (ia (tb_G L xs) dep J_H_drawn (fun v M1 => v = some (.int (-1)) ∧ M1 = M)) := ia_St
  have l0 : im_lk (lv_args 0 [.ref 0, .int p0]) 0 = some (.ref 0) := rfl
  have l1 : im_lk (lv_args 0 [.ref 0, .int p0]) 1 = some (.int p0) := rfl
  refine iq_iload_n hS 1 J_H_drawn_d0 l1 rfl ?_
  refine iq_if_lt hS 4 J_H_drawn_d1 (t := 12) rfl (fun q1 => ?_) rfl (fun q1 => ?_)
  · refine iq_iconst hS 13 J_H_drawn_d12 (v := (-1)) (by decide +kernel) rfl ?_
    refine iq_goto hS J_H_drawn_d13 (t := 22) rfl ?_
    exact iq_iret J_H_drawn_d22 rfl rfl ⟨rfl, rfl⟩
  · refine iq_iload_n hS 5 J_H_drawn_d4 l1 rfl ?_
    refine iq_aload_n hS 6 J_H_drawn_d5 l0 rfl ?_
    refine iq_getI hS 9 J_H_drawn_d6 lf_11_149 (Or.inl rfl) (ka_0 hM) rfl ?_
    refine iq_icmp_lt hS 12 J_H_drawn_d9 (t := 16) rfl (fun q9 => absurd ⟨q1, q9⟩ hn) rfl (fun q9 => ?_)
    refine iq_iconst hS 13 J_H_drawn_d12 (v := (-1)) (by decide +kernel) rfl ?_
    refine iq_goto hS J_H_drawn_d13 (t := 22) rfl ?_
    exact iq_iret J_H_drawn_d22 rfl rfl ⟨rfl, rfl⟩
theorem J_H_reading_d0 : decode J_H_reading.2.1 0 = .ok (.iload_n 1, 1) := by decide +kernel
theorem J_H_reading_d1 : decode J_H_reading.2.1 1 = .ok (.ifCond .lt 9, 3) := by decide +kernel
theorem J_H_reading_d4 : decode J_H_reading.2.1 4 = .ok (.iload_n 1, 1) := by decide +kernel
theorem J_H_reading_d5 : decode J_H_reading.2.1 5 = .ok (.bipush 6, 2) := by decide +kernel
theorem J_H_reading_d7 : decode J_H_reading.2.1 7 = .ok (.if_icmp .le 11, 3) := by decide +kernel
theorem J_H_reading_d10 : decode J_H_reading.2.1 10 = .ok (.new 84, 3) := by decide +kernel
theorem J_H_reading_d13 : decode J_H_reading.2.1 13 = .ok (.dup, 1) := by decide +kernel
theorem J_H_reading_d14 : decode J_H_reading.2.1 14 = .ok (.invokespecial 86, 3) := by decide +kernel
theorem J_H_reading_d17 : decode J_H_reading.2.1 17 = .ok (.athrow, 1) := by decide +kernel
theorem J_H_reading_d18 : decode J_H_reading.2.1 18 = .ok (.aload_n 0, 1) := by decide +kernel
theorem J_H_reading_d19 : decode J_H_reading.2.1 19 = .ok (.getfield 77, 3) := by decide +kernel
theorem J_H_reading_d22 : decode J_H_reading.2.1 22 = .ok (.iload_n 1, 1) := by decide +kernel
theorem J_H_reading_d23 : decode J_H_reading.2.1 23 = .ok (.iaload, 1) := by decide +kernel
theorem J_H_reading_d24 : decode J_H_reading.2.1 24 = .ok (.ireturn, 1) := by decide +kernel
theorem H_reading {L : Nat} {xs : Nat → Int32} {dep : Nat} {u : Bool} {M : im_M} {k : Nat} (hk : k ≤ 6) (hM : lw_S u M) : ia (tb_G L xs) dep J_H_reading (fun v M1 => v = some (.int (im_i M 67 k)) ∧ M1 = M) (0, lv_args 0 [.ref 0, .int (nI k)], [], M) := by
  have hS : im_St (tb_G L xs) dep J_H_reading (ia (tb_G L xs) dep J_H_reading (fun v M1 => v = some (.int (im_i M 67 k)) ∧ M1 = M)) := ia_St
  have l0 : im_lk (lv_args 0 [.ref 0, .int (nI k)]) 0 = some (.ref 0) := rfl
  have l1 : im_lk (lv_args 0 [.ref 0, .int (nI k)]) 1 = some (.int (nI k)) := rfl
  refine iq_iload_n hS 1 J_H_reading_d0 l1 rfl ?_
  refine iq_if_lt hS 4 J_H_reading_d1 (t := 10) rfl (fun q1 => absurd q1 (nI_pos (by omega))) rfl (fun q1 => ?_)
  refine iq_iload_n hS 5 J_H_reading_d4 l1 rfl ?_
  refine iq_bipush hS 7 J_H_reading_d5 (v := 6) (by decide +kernel) rfl ?_
  refine iq_icmp_le hS 10 J_H_reading_d7 (t := 18) rfl (fun q7 => ?_) rfl (fun q7 => absurd (nI_le (b := 6) (by omega) (by decide)) q7)
  refine iq_aload_n hS 19 J_H_reading_d18 l0 rfl ?_
  refine iq_getR hS 22 J_H_reading_d19 lf_11_77 (Or.inr ⟨_, rfl⟩) (ka_0 hM) (ra_0_10 hM) rfl ?_
  refine iq_iload_n hS 23 J_H_reading_d22 l1 rfl ?_
  refine iq_iaload hS 24 J_H_reading_d23 ⟨(ka_67 hM).1, (ka_67 hM).2, by rw [nI_toInt (by omega)]; omega, ix_lt (kl_67 hM) (by rw [nI_toInt (by omega)]; omega)⟩ rfl ?_
  rw [nI_clamp (by omega)]
  exact iq_iret J_H_reading_d24 rfl rfl ⟨rfl, rfl⟩
theorem H_reading_0 {L : Nat} {xs : Nat → Int32} {dep : Nat} {u : Bool} {M : im_M} {p0 : Int32} (hn : ¬ (¬ p0 < 0 ∧ p0 ≤ 6)) (hM : lw_S u M) : it (tb_G L xs) tb_X (dep + 5) J_H_reading (fun E M1 => E = 0 ∧ M1 = im_noX M) (0, lv_args 0 [.ref 0, .int p0], [], M) := by
  have hS : im_St (tb_G L xs) (dep + 5) J_H_reading (it (tb_G L xs) tb_X (dep + 5) J_H_reading (fun E M1 => E = 0 ∧ M1 = im_noX M)) := it_St
  have l0 : im_lk (lv_args 0 [.ref 0, .int p0]) 0 = some (.ref 0) := rfl
  have l1 : im_lk (lv_args 0 [.ref 0, .int p0]) 1 = some (.int p0) := rfl
  refine iq_iload_n hS 1 J_H_reading_d0 l1 rfl ?_
  refine iq_if_lt hS 4 J_H_reading_d1 (t := 10) rfl (fun q1 => ?_) rfl (fun q1 => ?_)
  · exact it_now J_H_reading_d10 gx_84 J_H_reading_d13 J_H_reading_d14 J_H_reading_d17 (Nat.le_of_ble_eq_true rfl) (by omega) ⟨rfl, rfl⟩
  · refine iq_iload_n hS 5 J_H_reading_d4 l1 rfl ?_
    refine iq_bipush hS 7 J_H_reading_d5 (v := 6) (by decide +kernel) rfl ?_
    refine iq_icmp_le hS 10 J_H_reading_d7 (t := 18) rfl (fun q7 => absurd ⟨q1, q7⟩ hn) rfl (fun q7 => ?_)
    exact it_now J_H_reading_d10 gx_84 J_H_reading_d13 J_H_reading_d14 J_H_reading_d17 (Nat.le_of_ble_eq_true rfl) (by omega) ⟨rfl, rfl⟩
