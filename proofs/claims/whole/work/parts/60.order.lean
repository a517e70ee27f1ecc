/-! ORDER; WHAT PRINT, FOUND, DECODE, DATA REFUSE (CLASS) -/
theorem J_HOrders_value_d0 : decode J_HOrders_value.2.1 0 = .ok (.aload_n 0, 1) := by decide +kernel
theorem J_HOrders_value_d1 : decode J_HOrders_value.2.1 1 = .ok (.getfield 13, 3) := by decide +kernel
theorem J_HOrders_value_d4 : decode J_HOrders_value.2.1 4 = .ok (.iload_n 1, 1) := by decide +kernel
theorem J_HOrders_value_d5 : decode J_HOrders_value.2.1 5 = .ok (.bipush 14, 2) := by decide +kernel
theorem J_HOrders_value_d7 : decode J_HOrders_value.2.1 7 = .ok (.imul, 1) := by decide +kernel
theorem J_HOrders_value_d8 : decode J_HOrders_value.2.1 8 = .ok (.iload_n 2, 1) := by decide +kernel
theorem J_HOrders_value_d9 : decode J_HOrders_value.2.1 9 = .ok (.iadd, 1) := by decide +kernel
theorem J_HOrders_value_d10 : decode J_HOrders_value.2.1 10 = .ok (.iaload, 1) := by decide +kernel
theorem J_HOrders_value_d11 : decode J_HOrders_value.2.1 11 = .ok (.ireturn, 1) := by decide +kernel
theorem H_value {L : Nat} {xs : Nat → Int32} {dep : Nat} {u : Bool} {M : im_M} {k q : Nat} (hk : 14 * k + q < 1680) (hM : lw_S u M) : ia (tb_G L xs) dep J_HOrders_value (fun v M1 => v = some (.int (im_i M 13 (14 * k + q))) ∧ M1 = M) (0, lv_args 0 [.ref 11, .int (nI k), .int (nI q)], [], M) := by
  have hS : im_St (tb_G L xs) dep J_HOrders_value (ia (tb_G L xs) dep J_HOrders_value (fun v M1 => v = some (.int (im_i M 13 (14 * k + q))) ∧ M1 = M)) := ia_St
  have e1 : nI k * (14 : Int32) + nI q = nI (14 * k + q) := by rw [show nI k * (14 : Int32) = nI (k * 14) from nI_mul k 14, nI_add, Nat.mul_comm k 14]
  have l0 : im_lk (lv_args 0 [.ref 11, .int (nI k), .int (nI q)]) 0 = some (.ref 11) := rfl
  have l1 : im_lk (lv_args 0 [.ref 11, .int (nI k), .int (nI q)]) 1 = some (.int (nI k)) := rfl
  have l2 : im_lk (lv_args 0 [.ref 11, .int (nI k), .int (nI q)]) 2 = some (.int (nI q)) := rfl
  refine iq_aload_n hS 1 J_HOrders_value_d0 l0 rfl ?_
  refine iq_getR hS 4 J_HOrders_value_d1 lf_5_13 (Or.inr ⟨_, rfl⟩) (ka_11 hM) (ra_11_0 hM) rfl ?_
  refine iq_iload_n hS 5 J_HOrders_value_d4 l1 rfl ?_
  refine iq_bipush hS 7 J_HOrders_value_d5 (v := 14) (by decide +kernel) rfl ?_
  refine iq_imul hS 8 J_HOrders_value_d7 rfl ?_
  refine iq_iload_n hS 9 J_HOrders_value_d8 l2 rfl ?_
  refine iq_iadd hS 10 J_HOrders_value_d9 rfl ?_
  refine iq_iaload hS 11 J_HOrders_value_d10 ⟨(ka_13 hM).1, (ka_13 hM).2, by rw [e1, nI_toInt (by omega)]; omega, ix_lt (kl_13 hM) (by rw [e1, nI_toInt (by omega)]; omega)⟩ rfl ?_
  rw [e1, nI_clamp (by omega)]
  exact iq_iret J_HOrders_value_d11 rfl rfl ⟨rfl, rfl⟩
theorem J_H_order_d0 : decode J_H_order.2.1 0 = .ok (.iload_n 2, 1) := by decide +kernel
theorem J_H_order_d1 : decode J_H_order.2.1 1 = .ok (.ifCond .lt 9, 3) := by decide +kernel
theorem J_H_order_d4 : decode J_H_order.2.1 4 = .ok (.iload_n 2, 1) := by decide +kernel
theorem J_H_order_d5 : decode J_H_order.2.1 5 = .ok (.bipush 8, 2) := by decide +kernel
theorem J_H_order_d7 : decode J_H_order.2.1 7 = .ok (.if_icmp .le 11, 3) := by decide +kernel
theorem J_H_order_d10 : decode J_H_order.2.1 10 = .ok (.new 84, 3) := by decide +kernel
theorem J_H_order_d13 : decode J_H_order.2.1 13 = .ok (.dup, 1) := by decide +kernel
theorem J_H_order_d14 : decode J_H_order.2.1 14 = .ok (.invokespecial 86, 3) := by decide +kernel
theorem J_H_order_d17 : decode J_H_order.2.1 17 = .ok (.athrow, 1) := by decide +kernel
theorem J_H_order_d18 : decode J_H_order.2.1 18 = .ok (.iload_n 1, 1) := by decide +kernel
theorem J_H_order_d19 : decode J_H_order.2.1 19 = .ok (.ifCond .lt 14, 3) := by decide +kernel
theorem J_H_order_d22 : decode J_H_order.2.1 22 = .ok (.iload_n 1, 1) := by decide +kernel
theorem J_H_order_d23 : decode J_H_order.2.1 23 = .ok (.aload_n 0, 1) := by decide +kernel
theorem J_H_order_d24 : decode J_H_order.2.1 24 = .ok (.getfield 21, 3) := by decide +kernel
theorem J_H_order_d27 : decode J_H_order.2.1 27 = .ok (.getfield 128, 3) := by decide +kernel
theorem J_H_order_d30 : decode J_H_order.2.1 30 = .ok (.if_icmp .lt 11, 3) := by decide +kernel
theorem J_H_order_d33 : decode J_H_order.2.1 33 = .ok (.new 103, 3) := by decide +kernel
theorem J_H_order_d36 : decode J_H_order.2.1 36 = .ok (.dup, 1) := by decide +kernel
theorem J_H_order_d37 : decode J_H_order.2.1 37 = .ok (.invokespecial 105, 3) := by decide +kernel
theorem J_H_order_d40 : decode J_H_order.2.1 40 = .ok (.athrow, 1) := by decide +kernel
theorem J_H_order_d41 : decode J_H_order.2.1 41 = .ok (.aload_n 0, 1) := by decide +kernel
theorem J_H_order_d42 : decode J_H_order.2.1 42 = .ok (.getfield 21, 3) := by decide +kernel
theorem J_H_order_d45 : decode J_H_order.2.1 45 = .ok (.iload_n 1, 1) := by decide +kernel
theorem J_H_order_d46 : decode J_H_order.2.1 46 = .ok (.iload_n 2, 1) := by decide +kernel
theorem J_H_order_d47 : decode J_H_order.2.1 47 = .ok (.invokevirtual 131, 3) := by decide +kernel
theorem J_H_order_d50 : decode J_H_order.2.1 50 = .ok (.ireturn, 1) := by decide +kernel
theorem H_order {L : Nat} {xs : Nat → Int32} {dep : Nat} {u : Bool} {M : im_M} {k q n : Nat} (hq : q ≤ 8) (hk : k < n) (hn : 14 * n ≤ 1680) (hz : im_i M 11 3 = nI n) (hM : lw_S u M) : ia (tb_G L xs) (dep + 1) J_H_order (fun v M1 => v = some (.int (im_i M 13 (14 * k + q))) ∧ M1 = M) (0, lv_args 0 [.ref 0, .int (nI k), .int (nI q)], [], M) := by
  have hS : im_St (tb_G L xs) (dep + 1) J_H_order (ia (tb_G L xs) (dep + 1) J_H_order (fun v M1 => v = some (.int (im_i M 13 (14 * k + q))) ∧ M1 = M)) := ia_St
  have l0 : im_lk (lv_args 0 [.ref 0, .int (nI k), .int (nI q)]) 0 = some (.ref 0) := rfl
  have l1 : im_lk (lv_args 0 [.ref 0, .int (nI k), .int (nI q)]) 1 = some (.int (nI k)) := rfl
  have l2 : im_lk (lv_args 0 [.ref 0, .int (nI k), .int (nI q)]) 2 = some (.int (nI q)) := rfl
  refine iq_iload_n hS 1 J_H_order_d0 l2 rfl ?_
  refine iq_if_lt hS 4 J_H_order_d1 (t := 10) rfl (fun q1 => absurd q1 (nI_pos (by omega))) rfl (fun q1 => ?_)
  refine iq_iload_n hS 5 J_H_order_d4 l2 rfl ?_
  refine iq_bipush hS 7 J_H_order_d5 (v := 8) (by decide +kernel) rfl ?_
  refine iq_icmp_le hS 10 J_H_order_d7 (t := 18) rfl (fun q7 => ?_) rfl (fun q7 => absurd (nI_le (b := 8) (by omega) (by decide)) q7)
  refine iq_iload_n hS 19 J_H_order_d18 l1 rfl ?_
  refine iq_if_lt hS 22 J_H_order_d19 (t := 33) rfl (fun q19 => absurd q19 (nI_pos (by omega))) rfl (fun q19 => ?_)
  refine iq_iload_n hS 23 J_H_order_d22 l1 rfl ?_
  refine iq_aload_n hS 24 J_H_order_d23 l0 rfl ?_
  refine iq_getR hS 27 J_H_order_d24 lf_11_21 (Or.inl ⟨_, rfl⟩) (ka_0 hM) (ra_0_1 hM) rfl ?_
  refine iq_getI hS 30 J_H_order_d27 lf_11_128 (Or.inl rfl) (ka_11 hM) rfl ?_
  refine iq_icmp_lt hS 33 J_H_order_d30 (t := 41) rfl (fun q30 => ?_) rfl (fun q30 => absurd (by rw [hz]; exact nI_lt hk (by omega)) q30)
  refine iq_aload_n hS 42 J_H_order_d41 l0 rfl ?_
  refine iq_getR hS 45 J_H_order_d42 lf_11_21 (Or.inl ⟨_, rfl⟩) (ka_0 hM) (ra_0_1 hM) rfl ?_
  refine iq_iload_n hS 46 J_H_order_d45 l1 rfl ?_
  refine iq_iload_n hS 47 J_H_order_d46 l2 rfl ?_
  refine iq_call hS 50 J_H_order_d47 rfl (pr_inst (vs := [_, _]) lc_11_131 lT_77 rfl rfl (by decide) (by decide) rfl (Nat.le_of_ble_eq_true rfl) (Nat.le_of_ble_eq_true rfl) (fun _ => Or.inl (pr_b (ka_11 hM) (by decide) rfl))) (H_value (by omega) hM) rfl ?_
  rintro v M1 ⟨rfl, rfl⟩
  exact iq_iret J_H_order_d50 rfl rfl ⟨rfl, rfl⟩
theorem H_order_0 {L : Nat} {xs : Nat → Int32} {dep : Nat} {u : Bool} {M : im_M} {p0 p1 : Int32} (hn : ¬ (¬ p1 < 0 ∧ p1 ≤ 8)) (hM : lw_S u M) : it (tb_G L xs) tb_X (dep + 5) J_H_order (fun E M1 => E = 0 ∧ M1 = im_noX M) (0, lv_args 0 [.ref 0, .int p0, .int p1], [], M) := by
  have hS : im_St (tb_G L xs) (dep + 5) J_H_order (it (tb_G L xs) tb_X (dep + 5) J_H_order (fun E M1 => E = 0 ∧ M1 = im_noX M)) := it_St
  have l0 : im_lk (lv_args 0 [.ref 0, .int p0, .int p1]) 0 = some (.ref 0) := rfl
  have l1 : im_lk (lv_args 0 [.ref 0, .int p0, .int p1]) 1 = some (.int p0) := rfl
  have l2 : im_lk (lv_args 0 [.ref 0, .int p0, .int p1]) 2 = some (.int p1) := rfl
  refine iq_iload_n hS 1 J_H_order_d0 l2 rfl ?_
  refine iq_if_lt hS 4 J_H_order_d1 (t := 10) rfl (fun q1 => ?_) rfl (fun q1 => ?_)
  · exact it_now J_H_order_d10 gx_84 J_H_order_d13 J_H_order_d14 J_H_order_d17 (Nat.le_of_ble_eq_true rfl) (by omega) ⟨rfl, rfl⟩
  · refine iq_iload_n hS 5 J_H_order_d4 l2 rfl ?_
    refine iq_bipush hS 7 J_H_order_d5 (v := 8) (by decide +kernel) rfl ?_
    refine iq_icmp_le hS 10 J_H_order_d7 (t := 18) rfl (fun q7 => absurd ⟨q1, q7⟩ hn) rfl (fun q7 => ?_)
    exact it_now J_H_order_d10 gx_84 J_H_order_d13 J_H_order_d14 J_H_order_d17 (Nat.le_of_ble_eq_true rfl) (by omega) ⟨rfl, rfl⟩
theorem H_order_1 {L : Nat} {xs : Nat → Int32} {dep : Nat} {u : Bool} {M : im_M} {p0 : Int32} {q : Nat} (hq : q ≤ 8) (hn : ¬ (¬ p0 < 0 ∧ p0 < im_i M 11 3)) (hM : lw_S u M) : it (tb_G L xs) tb_X (dep + 5) J_H_order (fun E M1 => E = 1 ∧ M1 = im_noX M) (0, lv_args 0 [.ref 0, .int p0, .int (nI q)], [], M) := by
  have hS : im_St (tb_G L xs) (dep + 5) J_H_order (it (tb_G L xs) tb_X (dep + 5) J_H_order (fun E M1 => E = 1 ∧ M1 = im_noX M)) := it_St
  have l0 : im_lk (lv_args 0 [.ref 0, .int p0, .int (nI q)]) 0 = some (.ref 0) := rfl
  have l1 : im_lk (lv_args 0 [.ref 0, .int p0, .int (nI q)]) 1 = some (.int p0) := rfl
  have l2 : im_lk (lv_args 0 [.ref 0, .int p0, .int (nI q)]) 2 = some (.int (nI q)) := rfl
  refine iq_iload_n hS 1 J_H_order_d0 l2 rfl ?_
  refine iq_if_lt hS 4 J_H_order_d1 (t := 10) rfl (fun q1 => absurd q1 (nI_pos (by omega))) rfl (fun q1 => ?_)
  refine iq_iload_n hS 5 J_H_order_d4 l2 rfl ?_
  refine iq_bipush hS 7 J_H_order_d5 (v := 8) (by decide +kernel) rfl ?_
  refine iq_icmp_le hS 10 J_H_order_d7 (t := 18) rfl (fun q7 => ?_) rfl (fun q7 => absurd (nI_le (b := 8) (by omega) (by decide)) q7)
  refine iq_iload_n hS 19 J_H_order_d18 l1 rfl ?_
  refine iq_if_lt hS 22 J_H_order_d19 (t := 33) rfl (fun q19 => ?_) rfl (fun q19 => ?_)
  · exact it_now J_H_order_d33 gx_103 J_H_order_d36 J_H_order_d37 J_H_order_d40 (Nat.le_of_ble_eq_true rfl) (by omega) ⟨rfl, rfl⟩
  · refine iq_iload_n hS 23 J_H_order_d22 l1 rfl ?_
    refine iq_aload_n hS 24 J_H_order_d23 l0 rfl ?_
    refine iq_getR hS 27 J_H_order_d24 lf_11_21 (Or.inl ⟨_, rfl⟩) (ka_0 hM) (ra_0_1 hM) rfl ?_
    refine iq_getI hS 30 J_H_order_d27 lf_11_128 (Or.inl rfl) (ka_11 hM) rfl ?_
    refine iq_icmp_lt hS 33 J_H_order_d30 (t := 41) rfl (fun q30 => absurd ⟨q19, q30⟩ hn) rfl (fun q30 => ?_)
    exact it_now J_H_order_d33 gx_103 J_H_order_d36 J_H_order_d37 J_H_order_d40 (Nat.le_of_ble_eq_true rfl) (by omega) ⟨rfl, rfl⟩
