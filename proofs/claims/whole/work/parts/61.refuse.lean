/-! WHAT PRINT, FOUND, DECODE, DATA, SCAN, TURN, TOLD REFUSE (CLASS) -/
theorem J_H_print_d0 : decode J_H_print.2.1 0 = .ok (.iload_n 1, 1) := by decide +kernel
theorem J_H_print_d1 : decode J_H_print.2.1 1 = .ok (.ifCond .lt 14, 3) := by decide +kernel
theorem J_H_print_d4 : decode J_H_print.2.1 4 = .ok (.iload_n 1, 1) := by decide +kernel
theorem J_H_print_d5 : decode J_H_print.2.1 5 = .ok (.aload_n 0, 1) := by decide +kernel
theorem J_H_print_d6 : decode J_H_print.2.1 6 = .ok (.getfield 30, 3) := by decide +kernel
theorem J_H_print_d9 : decode J_H_print.2.1 9 = .ok (.getfield 122, 3) := by decide +kernel
theorem J_H_print_d12 : decode J_H_print.2.1 12 = .ok (.if_icmp .lt 11, 3) := by decide +kernel
theorem J_H_print_d15 : decode J_H_print.2.1 15 = .ok (.new 103, 3) := by decide +kernel
theorem J_H_print_d18 : decode J_H_print.2.1 18 = .ok (.dup, 1) := by decide +kernel
theorem J_H_print_d19 : decode J_H_print.2.1 19 = .ok (.invokespecial 105, 3) := by decide +kernel
theorem J_H_print_d22 : decode J_H_print.2.1 22 = .ok (.athrow, 1) := by decide +kernel
theorem H_print_1 {L : Nat} {xs : Nat → Int32} {dep : Nat} {u : Bool} {M : im_M} {p0 : Int32} (hn : ¬ (¬ p0 < 0 ∧ p0 < im_i M 15 4)) (hM : lw_S u M) : it (tb_G L xs) tb_X (dep + 5) J_H_print (fun E M1 => E = 1 ∧ M1 = im_noX M) (0, lv_args 0 [.ref 0, .int p0], [], M) := by
  have hS : im_St (tb_G L xs) (dep + 5) J_H_print (it (tb_G L xs) tb_X (dep + 5) J_H_print (fun E M1 => E = 1 ∧ M1 = im_noX M)) := it_St
  have l0 : im_lk (lv_args 0 [.ref 0, .int p0]) 0 = some (.ref 0) := rfl
  have l1 : im_lk (lv_args 0 [.ref 0, .int p0]) 1 = some (.int p0) := rfl
  refine iq_iload_n hS 1 J_H_print_d0 l1 rfl ?_
  refine iq_if_lt hS 4 J_H_print_d1 (t := 15) rfl (fun q1 => ?_) rfl (fun q1 => ?_)
  · exact it_now J_H_print_d15 gx_103 J_H_print_d18 J_H_print_d19 J_H_print_d22 (Nat.le_of_ble_eq_true rfl) (by omega) ⟨rfl, rfl⟩
  · refine iq_iload_n hS 5 J_H_print_d4 l1 rfl ?_
    refine iq_aload_n hS 6 J_H_print_d5 l0 rfl ?_
    refine iq_getR hS 9 J_H_print_d6 lf_11_30 (Or.inl ⟨_, rfl⟩) (ka_0 hM) (ra_0_2 hM) rfl ?_
    refine iq_getI hS 12 J_H_print_d9 lf_11_122 (Or.inl rfl) (ka_15 hM) rfl ?_
    refine iq_icmp_lt hS 15 J_H_print_d12 (t := 23) rfl (fun q12 => absurd ⟨q1, q12⟩ hn) rfl (fun q12 => ?_)
    exact it_now J_H_print_d15 gx_103 J_H_print_d18 J_H_print_d19 J_H_print_d22 (Nat.le_of_ble_eq_true rfl) (by omega) ⟨rfl, rfl⟩
theorem J_H_decode_d0 : decode J_H_decode.2.1 0 = .ok (.iload_n 1, 1) := by decide +kernel
theorem J_H_decode_d1 : decode J_H_decode.2.1 1 = .ok (.ifCond .lt 14, 3) := by decide +kernel
theorem J_H_decode_d4 : decode J_H_decode.2.1 4 = .ok (.iload_n 1, 1) := by decide +kernel
theorem J_H_decode_d5 : decode J_H_decode.2.1 5 = .ok (.aload_n 0, 1) := by decide +kernel
theorem J_H_decode_d6 : decode J_H_decode.2.1 6 = .ok (.getfield 69, 3) := by decide +kernel
theorem J_H_decode_d9 : decode J_H_decode.2.1 9 = .ok (.getfield 146, 3) := by decide +kernel
theorem J_H_decode_d12 : decode J_H_decode.2.1 12 = .ok (.if_icmp .lt 11, 3) := by decide +kernel
theorem J_H_decode_d15 : decode J_H_decode.2.1 15 = .ok (.new 103, 3) := by decide +kernel
theorem J_H_decode_d18 : decode J_H_decode.2.1 18 = .ok (.dup, 1) := by decide +kernel
theorem J_H_decode_d19 : decode J_H_decode.2.1 19 = .ok (.invokespecial 105, 3) := by decide +kernel
theorem J_H_decode_d22 : decode J_H_decode.2.1 22 = .ok (.athrow, 1) := by decide +kernel
theorem H_decode_1 {L : Nat} {xs : Nat → Int32} {dep : Nat} {u : Bool} {M : im_M} {p0 : Int32} (hn : ¬ (¬ p0 < 0 ∧ p0 < im_i M 59 0)) (hM : lw_S u M) : it (tb_G L xs) tb_X (dep + 5) J_H_decode (fun E M1 => E = 1 ∧ M1 = im_noX M) (0, lv_args 0 [.ref 0, .int p0], [], M) := by
  have hS : im_St (tb_G L xs) (dep + 5) J_H_decode (it (tb_G L xs) tb_X (dep + 5) J_H_decode (fun E M1 => E = 1 ∧ M1 = im_noX M)) := it_St
  have l0 : im_lk (lv_args 0 [.ref 0, .int p0]) 0 = some (.ref 0) := rfl
  have l1 : im_lk (lv_args 0 [.ref 0, .int p0]) 1 = some (.int p0) := rfl
  refine iq_iload_n hS 1 J_H_decode_d0 l1 rfl ?_
  refine iq_if_lt hS 4 J_H_decode_d1 (t := 15) rfl (fun q1 => ?_) rfl (fun q1 => ?_)
  · exact it_now J_H_decode_d15 gx_103 J_H_decode_d18 J_H_decode_d19 J_H_decode_d22 (Nat.le_of_ble_eq_true rfl) (by omega) ⟨rfl, rfl⟩
  · refine iq_iload_n hS 5 J_H_decode_d4 l1 rfl ?_
    refine iq_aload_n hS 6 J_H_decode_d5 l0 rfl ?_
    refine iq_getR hS 9 J_H_decode_d6 lf_11_69 (Or.inl ⟨_, rfl⟩) (ka_0 hM) (ra_0_7 hM) rfl ?_
    refine iq_getI hS 12 J_H_decode_d9 lf_11_146 (Or.inl rfl) (ka_59 hM) rfl ?_
    refine iq_icmp_lt hS 15 J_H_decode_d12 (t := 23) rfl (fun q12 => absurd ⟨q1, q12⟩ hn) rfl (fun q12 => ?_)
    exact it_now J_H_decode_d15 gx_103 J_H_decode_d18 J_H_decode_d19 J_H_decode_d22 (Nat.le_of_ble_eq_true rfl) (by omega) ⟨rfl, rfl⟩
theorem J_H_data_d0 : decode J_H_data.2.1 0 = .ok (.iload_n 1, 1) := by decide +kernel
theorem J_H_data_d1 : decode J_H_data.2.1 1 = .ok (.ifCond .lt 14, 3) := by decide +kernel
theorem J_H_data_d4 : decode J_H_data.2.1 4 = .ok (.iload_n 1, 1) := by decide +kernel
theorem J_H_data_d5 : decode J_H_data.2.1 5 = .ok (.aload_n 0, 1) := by decide +kernel
theorem J_H_data_d6 : decode J_H_data.2.1 6 = .ok (.getfield 21, 3) := by decide +kernel
theorem J_H_data_d9 : decode J_H_data.2.1 9 = .ok (.getfield 128, 3) := by decide +kernel
theorem J_H_data_d12 : decode J_H_data.2.1 12 = .ok (.if_icmp .lt 11, 3) := by decide +kernel
theorem J_H_data_d15 : decode J_H_data.2.1 15 = .ok (.new 103, 3) := by decide +kernel
theorem J_H_data_d18 : decode J_H_data.2.1 18 = .ok (.dup, 1) := by decide +kernel
theorem J_H_data_d19 : decode J_H_data.2.1 19 = .ok (.invokespecial 105, 3) := by decide +kernel
theorem J_H_data_d22 : decode J_H_data.2.1 22 = .ok (.athrow, 1) := by decide +kernel
theorem H_data_1 {L : Nat} {xs : Nat → Int32} {dep : Nat} {u : Bool} {M : im_M} {p0 p1 : Int32} (hn : ¬ (¬ p0 < 0 ∧ p0 < im_i M 11 3)) (hM : lw_S u M) : it (tb_G L xs) tb_X (dep + 5) J_H_data (fun E M1 => E = 1 ∧ M1 = im_noX M) (0, lv_args 0 [.ref 0, .int p0, .int p1], [], M) := by
  have hS : im_St (tb_G L xs) (dep + 5) J_H_data (it (tb_G L xs) tb_X (dep + 5) J_H_data (fun E M1 => E = 1 ∧ M1 = im_noX M)) := it_St
  have l0 : im_lk (lv_args 0 [.ref 0, .int p0, .int p1]) 0 = some (.ref 0) := rfl
  have l1 : im_lk (lv_args 0 [.ref 0, .int p0, .int p1]) 1 = some (.int p0) := rfl
  have l2 : im_lk (lv_args 0 [.ref 0, .int p0, .int p1]) 2 = some (.int p1) := rfl
  refine iq_iload_n hS 1 J_H_data_d0 l1 rfl ?_
  refine iq_if_lt hS 4 J_H_data_d1 (t := 15) rfl (fun q1 => ?_) rfl (fun q1 => ?_)
  · exact it_now J_H_data_d15 gx_103 J_H_data_d18 J_H_data_d19 J_H_data_d22 (Nat.le_of_ble_eq_true rfl) (by omega) ⟨rfl, rfl⟩
  · refine iq_iload_n hS 5 J_H_data_d4 l1 rfl ?_
    refine iq_aload_n hS 6 J_H_data_d5 l0 rfl ?_
    refine iq_getR hS 9 J_H_data_d6 lf_11_21 (Or.inl ⟨_, rfl⟩) (ka_0 hM) (ra_0_1 hM) rfl ?_
    refine iq_getI hS 12 J_H_data_d9 lf_11_128 (Or.inl rfl) (ka_11 hM) rfl ?_
    refine iq_icmp_lt hS 15 J_H_data_d12 (t := 23) rfl (fun q12 => absurd ⟨q1, q12⟩ hn) rfl (fun q12 => ?_)
    exact it_now J_H_data_d15 gx_103 J_H_data_d18 J_H_data_d19 J_H_data_d22 (Nat.le_of_ble_eq_true rfl) (by omega) ⟨rfl, rfl⟩
theorem J_H_found_d0 : decode J_H_found.2.1 0 = .ok (.iload_n 2, 1) := by decide +kernel
theorem J_H_found_d1 : decode J_H_found.2.1 1 = .ok (.ifCond .lt 8, 3) := by decide +kernel
theorem J_H_found_d4 : decode J_H_found.2.1 4 = .ok (.iload_n 2, 1) := by decide +kernel
theorem J_H_found_d5 : decode J_H_found.2.1 5 = .ok (.iconst 5, 1) := by decide +kernel
theorem J_H_found_d6 : decode J_H_found.2.1 6 = .ok (.if_icmp .le 11, 3) := by decide +kernel
theorem J_H_found_d9 : decode J_H_found.2.1 9 = .ok (.new 84, 3) := by decide +kernel
theorem J_H_found_d12 : decode J_H_found.2.1 12 = .ok (.dup, 1) := by decide +kernel
theorem J_H_found_d13 : decode J_H_found.2.1 13 = .ok (.invokespecial 86, 3) := by decide +kernel
theorem J_H_found_d16 : decode J_H_found.2.1 16 = .ok (.athrow, 1) := by decide +kernel
theorem H_found_0 {L : Nat} {xs : Nat → Int32} {dep : Nat} {u : Bool} {M : im_M} {p0 p1 : Int32} (hn : ¬ (¬ p1 < 0 ∧ p1 ≤ 5)) (hM : lw_S u M) : it (tb_G L xs) tb_X (dep + 5) J_H_found (fun E M1 => E = 0 ∧ M1 = im_noX M) (0, lv_args 0 [.ref 0, .int p0, .int p1], [], M) := by
  have hS : im_St (tb_G L xs) (dep + 5) J_H_found (it (tb_G L xs) tb_X (dep + 5) J_H_found (fun E M1 => E = 0 ∧ M1 = im_noX M)) := it_St
  have l0 : im_lk (lv_args 0 [.ref 0, .int p0, .int p1]) 0 = some (.ref 0) := rfl
  have l1 : im_lk (lv_args 0 [.ref 0, .int p0, .int p1]) 1 = some (.int p0) := rfl
  have l2 : im_lk (lv_args 0 [.ref 0, .int p0, .int p1]) 2 = some (.int p1) := rfl
  refine iq_iload_n hS 1 J_H_found_d0 l2 rfl ?_
  refine iq_if_lt hS 4 J_H_found_d1 (t := 9) rfl (fun q1 => ?_) rfl (fun q1 => ?_)
  · exact it_now J_H_found_d9 gx_84 J_H_found_d12 J_H_found_d13 J_H_found_d16 (Nat.le_of_ble_eq_true rfl) (by omega) ⟨rfl, rfl⟩
  · refine iq_iload_n hS 5 J_H_found_d4 l2 rfl ?_
    refine iq_iconst hS 6 J_H_found_d5 (v := 5) (by decide +kernel) rfl ?_
    refine iq_icmp_le hS 9 J_H_found_d6 (t := 17) rfl (fun q6 => absurd ⟨q1, q6⟩ hn) rfl (fun q6 => ?_)
    exact it_now J_H_found_d9 gx_84 J_H_found_d12 J_H_found_d13 J_H_found_d16 (Nat.le_of_ble_eq_true rfl) (by omega) ⟨rfl, rfl⟩
theorem J_H_turn_d0 : decode J_H_turn.2.1 0 = .ok (.iload_n 1, 1) := by decide +kernel
theorem J_H_turn_d1 : decode J_H_turn.2.1 1 = .ok (.ifCond .lt 8, 3) := by decide +kernel
theorem J_H_turn_d4 : decode J_H_turn.2.1 4 = .ok (.iload_n 1, 1) := by decide +kernel
theorem J_H_turn_d5 : decode J_H_turn.2.1 5 = .ok (.iconst 3, 1) := by decide +kernel
theorem J_H_turn_d6 : decode J_H_turn.2.1 6 = .ok (.if_icmp .le 11, 3) := by decide +kernel
theorem J_H_turn_d9 : decode J_H_turn.2.1 9 = .ok (.new 84, 3) := by decide +kernel
theorem J_H_turn_d12 : decode J_H_turn.2.1 12 = .ok (.dup, 1) := by decide +kernel
theorem J_H_turn_d13 : decode J_H_turn.2.1 13 = .ok (.invokespecial 86, 3) := by decide +kernel
theorem J_H_turn_d16 : decode J_H_turn.2.1 16 = .ok (.athrow, 1) := by decide +kernel
theorem H_turn_0 {L : Nat} {xs : Nat → Int32} {dep : Nat} {u : Bool} {M : im_M} {p0 : Int32} (hn : ¬ (¬ p0 < 0 ∧ p0 ≤ 3)) (hM : lw_S u M) : it (tb_G L xs) tb_X (dep + 5) J_H_turn (fun E M1 => E = 0 ∧ M1 = im_noX M) (0, lv_args 0 [.ref 0, .int p0], [], M) := by
  have hS : im_St (tb_G L xs) (dep + 5) J_H_turn (it (tb_G L xs) tb_X (dep + 5) J_H_turn (fun E M1 => E = 0 ∧ M1 = im_noX M)) := it_St
  have l0 : im_lk (lv_args 0 [.ref 0, .int p0]) 0 = some (.ref 0) := rfl
  have l1 : im_lk (lv_args 0 [.ref 0, .int p0]) 1 = some (.int p0) := rfl
  refine iq_iload_n hS 1 J_H_turn_d0 l1 rfl ?_
  refine iq_if_lt hS 4 J_H_turn_d1 (t := 9) rfl (fun q1 => ?_) rfl (fun q1 => ?_)
  · exact it_now J_H_turn_d9 gx_84 J_H_turn_d12 J_H_turn_d13 J_H_turn_d16 (Nat.le_of_ble_eq_true rfl) (by omega) ⟨rfl, rfl⟩
  · refine iq_iload_n hS 5 J_H_turn_d4 l1 rfl ?_
    refine iq_iconst hS 6 J_H_turn_d5 (v := 3) (by decide +kernel) rfl ?_
    refine iq_icmp_le hS 9 J_H_turn_d6 (t := 17) rfl (fun q6 => absurd ⟨q1, q6⟩ hn) rfl (fun q6 => ?_)
    exact it_now J_H_turn_d9 gx_84 J_H_turn_d12 J_H_turn_d13 J_H_turn_d16 (Nat.le_of_ble_eq_true rfl) (by omega) ⟨rfl, rfl⟩
theorem J_H_told_d0 : decode J_H_told.2.1 0 = .ok (.iload_n 1, 1) := by decide +kernel
theorem J_H_told_d1 : decode J_H_told.2.1 1 = .ok (.ifCond .lt 9, 3) := by decide +kernel
theorem J_H_told_d4 : decode J_H_told.2.1 4 = .ok (.iload_n 1, 1) := by decide +kernel
theorem J_H_told_d5 : decode J_H_told.2.1 5 = .ok (.bipush 6, 2) := by decide +kernel
theorem J_H_told_d7 : decode J_H_told.2.1 7 = .ok (.if_icmp .le 11, 3) := by decide +kernel
theorem J_H_told_d10 : decode J_H_told.2.1 10 = .ok (.new 84, 3) := by decide +kernel
theorem J_H_told_d13 : decode J_H_told.2.1 13 = .ok (.dup, 1) := by decide +kernel
theorem J_H_told_d14 : decode J_H_told.2.1 14 = .ok (.invokespecial 86, 3) := by decide +kernel
theorem J_H_told_d17 : decode J_H_told.2.1 17 = .ok (.athrow, 1) := by decide +kernel
theorem H_told_0 {L : Nat} {xs : Nat → Int32} {dep : Nat} {u : Bool} {M : im_M} {p0 : Int32} (hn : ¬ (¬ p0 < 0 ∧ p0 ≤ 6)) (hM : lw_S u M) : it (tb_G L xs) tb_X (dep + 5) J_H_told (fun E M1 => E = 0 ∧ M1 = im_noX M) (0, lv_args 0 [.ref 0, .int p0], [], M) := by
  have hS : im_St (tb_G L xs) (dep + 5) J_H_told (it (tb_G L xs) tb_X (dep + 5) J_H_told (fun E M1 => E = 0 ∧ M1 = im_noX M)) := it_St
  have l0 : im_lk (lv_args 0 [.ref 0, .int p0]) 0 = some (.ref 0) := rfl
  have l1 : im_lk (lv_args 0 [.ref 0, .int p0]) 1 = some (.int p0) := rfl
  refine iq_iload_n hS 1 J_H_told_d0 l1 rfl ?_
  refine iq_if_lt hS 4 J_H_told_d1 (t := 10) rfl (fun q1 => ?_) rfl (fun q1 => ?_)
  · exact it_now J_H_told_d10 gx_84 J_H_told_d13 J_H_told_d14 J_H_told_d17 (Nat.le_of_ble_eq_true rfl) (by omega) ⟨rfl, rfl⟩
  · refine iq_iload_n hS 5 J_H_told_d4 l1 rfl ?_
    refine iq_bipush hS 7 J_H_told_d5 (v := 6) (by decide +kernel) rfl ?_
    refine iq_icmp_le hS 10 J_H_told_d7 (t := 18) rfl (fun q7 => absurd ⟨q1, q7⟩ hn) rfl (fun q7 => ?_)
    exact it_now J_H_told_d10 gx_84 J_H_told_d13 J_H_told_d14 J_H_told_d17 (Nat.le_of_ble_eq_true rfl) (by omega) ⟨rfl, rfl⟩
theorem J_H_scan_d0 : decode J_H_scan.2.1 0 = .ok (.iload_n 1, 1) := by decide +kernel
theorem J_H_scan_d1 : decode J_H_scan.2.1 1 = .ok (.iconst 1, 1) := by decide +kernel
theorem J_H_scan_d2 : decode J_H_scan.2.1 2 = .ok (.if_icmp .lt 31, 3) := by decide +kernel
theorem J_H_scan_d5 : decode J_H_scan.2.1 5 = .ok (.iload_n 1, 1) := by decide +kernel
theorem J_H_scan_d6 : decode J_H_scan.2.1 6 = .ok (.bipush 16, 2) := by decide +kernel
theorem J_H_scan_d8 : decode J_H_scan.2.1 8 = .ok (.if_icmp .gt 25, 3) := by decide +kernel
theorem J_H_scan_d11 : decode J_H_scan.2.1 11 = .ok (.iload_n 2, 1) := by decide +kernel
theorem J_H_scan_d12 : decode J_H_scan.2.1 12 = .ok (.iload_n 1, 1) := by decide +kernel
theorem J_H_scan_d13 : decode J_H_scan.2.1 13 = .ok (.if_icmp .lt 20, 3) := by decide +kernel
theorem J_H_scan_d16 : decode J_H_scan.2.1 16 = .ok (.iload_n 2, 1) := by decide +kernel
theorem J_H_scan_d17 : decode J_H_scan.2.1 17 = .ok (.bipush 16, 2) := by decide +kernel
theorem J_H_scan_d19 : decode J_H_scan.2.1 19 = .ok (.if_icmp .gt 14, 3) := by decide +kernel
theorem J_H_scan_d22 : decode J_H_scan.2.1 22 = .ok (.iload_n 3, 1) := by decide +kernel
theorem J_H_scan_d23 : decode J_H_scan.2.1 23 = .ok (.ifCond .lt 10, 3) := by decide +kernel
theorem J_H_scan_d26 : decode J_H_scan.2.1 26 = .ok (.iload_n 3, 1) := by decide +kernel
theorem J_H_scan_d27 : decode J_H_scan.2.1 27 = .ok (.sipush 500, 3) := by decide +kernel
theorem J_H_scan_d30 : decode J_H_scan.2.1 30 = .ok (.if_icmp .le 11, 3) := by decide +kernel
theorem J_H_scan_d33 : decode J_H_scan.2.1 33 = .ok (.new 84, 3) := by decide +kernel
theorem J_H_scan_d36 : decode J_H_scan.2.1 36 = .ok (.dup, 1) := by decide +kernel
theorem J_H_scan_d37 : decode J_H_scan.2.1 37 = .ok (.invokespecial 86, 3) := by decide +kernel
theorem J_H_scan_d40 : decode J_H_scan.2.1 40 = .ok (.athrow, 1) := by decide +kernel
theorem H_scan_0 {L : Nat} {xs : Nat → Int32} {dep : Nat} {u : Bool} {M : im_M} {p0 p1 p2 : Int32} (hn : ¬ (¬ p0 < 1 ∧ ¬ 16 < p0 ∧ ¬ p1 < p0 ∧ ¬ 16 < p1 ∧ ¬ p2 < 0 ∧ p2 ≤ 500)) (hM : lw_S u M) : it (tb_G L xs) tb_X (dep + 5) J_H_scan (fun E M1 => E = 0 ∧ M1 = im_noX M) (0, lv_args 0 [.ref 0, .int p0, .int p1, .int p2], [], M) := by
  have hS : im_St (tb_G L xs) (dep + 5) J_H_scan (it (tb_G L xs) tb_X (dep + 5) J_H_scan (fun E M1 => E = 0 ∧ M1 = im_noX M)) := it_St
  have l0 : im_lk (lv_args 0 [.ref 0, .int p0, .int p1, .int p2]) 0 = some (.ref 0) := rfl
  have l1 : im_lk (lv_args 0 [.ref 0, .int p0, .int p1, .int p2]) 1 = some (.int p0) := rfl
  have l2 : im_lk (lv_args 0 [.ref 0, .int p0, .int p1, .int p2]) 2 = some (.int p1) := rfl
  have l3 : im_lk (lv_args 0 [.ref 0, .int p0, .int p1, .int p2]) 3 = some (.int p2) := rfl
  refine iq_iload_n hS 1 J_H_scan_d0 l1 rfl ?_
  refine iq_iconst hS 2 J_H_scan_d1 (v := 1) (by decide +kernel) rfl ?_
  refine iq_icmp_lt hS 5 J_H_scan_d2 (t := 33) rfl (fun q2 => ?_) rfl (fun q2 => ?_)
  · exact it_now J_H_scan_d33 gx_84 J_H_scan_d36 J_H_scan_d37 J_H_scan_d40 (Nat.le_of_ble_eq_true rfl) (by omega) ⟨rfl, rfl⟩
  · refine iq_iload_n hS 6 J_H_scan_d5 l1 rfl ?_
    refine iq_bipush hS 8 J_H_scan_d6 (v := 16) (by decide +kernel) rfl ?_
    refine iq_icmp_gt hS 11 J_H_scan_d8 (t := 33) rfl (fun q8 => ?_) rfl (fun q8 => ?_)
    · exact it_now J_H_scan_d33 gx_84 J_H_scan_d36 J_H_scan_d37 J_H_scan_d40 (Nat.le_of_ble_eq_true rfl) (by omega) ⟨rfl, rfl⟩
    · refine iq_iload_n hS 12 J_H_scan_d11 l2 rfl ?_
      refine iq_iload_n hS 13 J_H_scan_d12 l1 rfl ?_
      refine iq_icmp_lt hS 16 J_H_scan_d13 (t := 33) rfl (fun q13 => ?_) rfl (fun q13 => ?_)
      · exact it_now J_H_scan_d33 gx_84 J_H_scan_d36 J_H_scan_d37 J_H_scan_d40 (Nat.le_of_ble_eq_true rfl) (by omega) ⟨rfl, rfl⟩
      · refine iq_iload_n hS 17 J_H_scan_d16 l2 rfl ?_
        refine iq_bipush hS 19 J_H_scan_d17 (v := 16) (by decide +kernel) rfl ?_
        refine iq_icmp_gt hS 22 J_H_scan_d19 (t := 33) rfl (fun q19 => ?_) rfl (fun q19 => ?_)
        · exact it_now J_H_scan_d33 gx_84 J_H_scan_d36 J_H_scan_d37 J_H_scan_d40 (Nat.le_of_ble_eq_true rfl) (by omega) ⟨rfl, rfl⟩
        · refine iq_iload_n hS 23 J_H_scan_d22 l3 rfl ?_
          refine iq_if_lt hS 26 J_H_scan_d23 (t := 33) rfl (fun q23 => ?_) rfl (fun q23 => ?_)
          · exact it_now J_H_scan_d33 gx_84 J_H_scan_d36 J_H_scan_d37 J_H_scan_d40 (Nat.le_of_ble_eq_true rfl) (by omega) ⟨rfl, rfl⟩
          · refine iq_iload_n hS 27 J_H_scan_d26 l3 rfl ?_
            refine iq_sipush hS 30 J_H_scan_d27 (v := 500) (by decide +kernel) rfl ?_
            refine iq_icmp_le hS 33 J_H_scan_d30 (t := 41) rfl (fun q30 => absurd ⟨q2, q8, q13, q19, q23, q30⟩ hn) rfl (fun q30 => ?_)
            exact it_now J_H_scan_d33 gx_84 J_H_scan_d36 J_H_scan_d37 J_H_scan_d40 (Nat.le_of_ble_eq_true rfl) (by omega) ⟨rfl, rfl⟩
theorem J_H_found_d17 : decode J_H_found.2.1 17 = .ok (.iload_n 1, 1) := by decide +kernel
theorem J_H_found_d18 : decode J_H_found.2.1 18 = .ok (.ifCond .lt 14, 3) := by decide +kernel
theorem J_H_found_d21 : decode J_H_found.2.1 21 = .ok (.iload_n 1, 1) := by decide +kernel
theorem J_H_found_d22 : decode J_H_found.2.1 22 = .ok (.aload_n 0, 1) := by decide +kernel
theorem J_H_found_d23 : decode J_H_found.2.1 23 = .ok (.getfield 69, 3) := by decide +kernel
theorem J_H_found_d26 : decode J_H_found.2.1 26 = .ok (.getfield 146, 3) := by decide +kernel
theorem J_H_found_d29 : decode J_H_found.2.1 29 = .ok (.if_icmp .lt 7, 3) := by decide +kernel
theorem J_H_found_d32 : decode J_H_found.2.1 32 = .ok (.iconst (-1), 1) := by decide +kernel
theorem J_H_found_d33 : decode J_H_found.2.1 33 = .ok (.goto 12, 3) := by decide +kernel
theorem J_H_found_d45 : decode J_H_found.2.1 45 = .ok (.ireturn, 1) := by decide +kernel
theorem H_found_none {L : Nat} {xs : Nat → Int32} {dep : Nat} {u : Bool} {M : im_M} {p0 : Int32} {q : Nat} (hq : q ≤ 5) (hn : ¬ (¬ p0 < 0 ∧ p0 < im_i M 59 0)) (hM : lw_S u M) : ia (tb_G L xs) dep J_H_found (fun v M1 => v = some (.int (-1)) ∧ M1 = M) (0, lv_args 0 [.ref 0, .int p0, .int (nI q)], [], M) := by
  have hS : im_St (tb_G L xs) dep J_H_found (ia (tb_G L xs) dep J_H_found (fun v M1 => v = some (.int (-1)) ∧ M1 = M)) := ia_St
  have l0 : im_lk (lv_args 0 [.ref 0, .int p0, .int (nI q)]) 0 = some (.ref 0) := rfl
  have l1 : im_lk (lv_args 0 [.ref 0, .int p0, .int (nI q)]) 1 = some (.int p0) := rfl
  have l2 : im_lk (lv_args 0 [.ref 0, .int p0, .int (nI q)]) 2 = some (.int (nI q)) := rfl
  refine iq_iload_n hS 1 J_H_found_d0 l2 rfl ?_
  refine iq_if_lt hS 4 J_H_found_d1 (t := 9) rfl (fun q1 => absurd q1 (nI_pos (by omega))) rfl (fun q1 => ?_)
  refine iq_iload_n hS 5 J_H_found_d4 l2 rfl ?_
  refine iq_iconst hS 6 J_H_found_d5 (v := 5) (by decide +kernel) rfl ?_
  refine iq_icmp_le hS 9 J_H_found_d6 (t := 17) rfl (fun q6 => ?_) rfl (fun q6 => absurd (nI_le (b := 5) (by omega) (by decide)) q6)
  refine iq_iload_n hS 18 J_H_found_d17 l1 rfl ?_
  refine iq_if_lt hS 21 J_H_found_d18 (t := 32) rfl (fun q18 => ?_) rfl (fun q18 => ?_)
  · refine iq_iconst hS 33 J_H_found_d32 (v := (-1)) (by decide +kernel) rfl ?_
    refine iq_goto hS J_H_found_d33 (t := 45) rfl ?_
    exact iq_iret J_H_found_d45 rfl rfl ⟨rfl, rfl⟩
  · refine iq_iload_n hS 22 J_H_found_d21 l1 rfl ?_
    refine iq_aload_n hS 23 J_H_found_d22 l0 rfl ?_
    refine iq_getR hS 26 J_H_found_d23 lf_11_69 (Or.inl ⟨_, rfl⟩) (ka_0 hM) (ra_0_7 hM) rfl ?_
    refine iq_getI hS 29 J_H_found_d26 lf_11_146 (Or.inl rfl) (ka_59 hM) rfl ?_
    refine iq_icmp_lt hS 32 J_H_found_d29 (t := 36) rfl (fun q29 => absurd ⟨q18, q29⟩ hn) rfl (fun q29 => ?_)
    refine iq_iconst hS 33 J_H_found_d32 (v := (-1)) (by decide +kernel) rfl ?_
    refine iq_goto hS J_H_found_d33 (t := 45) rfl ?_
    exact iq_iret J_H_found_d45 rfl rfl ⟨rfl, rfl⟩
