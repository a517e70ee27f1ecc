/-! THE CONSTRUCTORS RUN -/
theorem lo_0_3 {L : Nat} {xs : Nat → Int32} : ig_oT (tb_G L xs) 0 3 = true := go_of (by decide +kernel)
theorem lo_1_3 {L : Nat} {xs : Nat → Int32} : ig_oT (tb_G L xs) 1 3 = true := go_of (by decide +kernel)
theorem lo_2_3 {L : Nat} {xs : Nat → Int32} : ig_oT (tb_G L xs) 2 3 = true := go_of (by decide +kernel)
theorem lo_3_5 {L : Nat} {xs : Nat → Int32} : ig_oT (tb_G L xs) 3 5 = true := go_of (by decide +kernel)
theorem lo_4_3 {L : Nat} {xs : Nat → Int32} : ig_oT (tb_G L xs) 4 3 = true := go_of (by decide +kernel)
theorem lo_5_1 {L : Nat} {xs : Nat → Int32} : ig_oT (tb_G L xs) 5 1 = true := go_of (by decide +kernel)
theorem lo_6_3 {L : Nat} {xs : Nat → Int32} : ig_oT (tb_G L xs) 6 3 = true := go_of (by decide +kernel)
theorem lo_7_3 {L : Nat} {xs : Nat → Int32} : ig_oT (tb_G L xs) 7 3 = true := go_of (by decide +kernel)
theorem lo_8_3 {L : Nat} {xs : Nat → Int32} : ig_oT (tb_G L xs) 8 3 = true := go_of (by decide +kernel)
theorem lo_9_3 {L : Nat} {xs : Nat → Int32} : ig_oT (tb_G L xs) 9 3 = true := go_of (by decide +kernel)
theorem lo_10_3 {L : Nat} {xs : Nat → Int32} : ig_oT (tb_G L xs) 10 3 = true := go_of (by decide +kernel)
theorem lo_11_1 {L : Nat} {xs : Nat → Int32} : ig_oT (tb_G L xs) 11 1 = true := go_of (by decide +kernel)
theorem lo_12_1 {L : Nat} {xs : Nat → Int32} : ig_oT (tb_G L xs) 12 1 = true := go_of (by decide +kernel)
theorem lo_13_1 {L : Nat} {xs : Nat → Int32} : ig_oT (tb_G L xs) 13 1 = true := go_of (by decide +kernel)
theorem lo_14_1 {L : Nat} {xs : Nat → Int32} : ig_oT (tb_G L xs) 14 1 = true := go_of (by decide +kernel)
theorem lo_15_1 {L : Nat} {xs : Nat → Int32} : ig_oT (tb_G L xs) 15 1 = true := go_of (by decide +kernel)
theorem lo_16_1 {L : Nat} {xs : Nat → Int32} : ig_oT (tb_G L xs) 16 1 = true := go_of (by decide +kernel)
theorem lo_17_1 {L : Nat} {xs : Nat → Int32} : ig_oT (tb_G L xs) 17 1 = true := go_of (by decide +kernel)
theorem J_HTape_init_d0 : decode J_HTape_init.2.1 0 = .ok (.aload_n 0, 1) := by decide +kernel
theorem J_HTape_init_d1 : decode J_HTape_init.2.1 1 = .ok (.invokespecial 3, 3) := by decide +kernel
theorem J_HTape_init_d4 : decode J_HTape_init.2.1 4 = .ok (.aload_n 0, 1) := by decide +kernel
theorem J_HTape_init_d5 : decode J_HTape_init.2.1 5 = .ok (.sipush 4096, 3) := by decide +kernel
theorem J_HTape_init_d8 : decode J_HTape_init.2.1 8 = .ok (.newarray .byte, 2) := by decide +kernel
theorem J_HTape_init_d10 : decode J_HTape_init.2.1 10 = .ok (.putfield 11, 3) := by decide +kernel
theorem J_HTape_init_d13 : decode J_HTape_init.2.1 13 = .ok (.aload_n 0, 1) := by decide +kernel
theorem J_HTape_init_d14 : decode J_HTape_init.2.1 14 = .ok (.sipush 3200, 3) := by decide +kernel
theorem J_HTape_init_d17 : decode J_HTape_init.2.1 17 = .ok (.newarray .byte, 2) := by decide +kernel
theorem J_HTape_init_d19 : decode J_HTape_init.2.1 19 = .ok (.putfield 15, 3) := by decide +kernel
theorem J_HTape_init_d22 : decode J_HTape_init.2.1 22 = .ok (.aload_n 0, 1) := by decide +kernel
theorem J_HTape_init_d23 : decode J_HTape_init.2.1 23 = .ok (.bipush 8, 2) := by decide +kernel
theorem J_HTape_init_d25 : decode J_HTape_init.2.1 25 = .ok (.newarray .int, 2) := by decide +kernel
theorem J_HTape_init_d27 : decode J_HTape_init.2.1 27 = .ok (.putfield 18, 3) := by decide +kernel
theorem J_HTape_init_d30 : decode J_HTape_init.2.1 30 = .ok (.aload_n 0, 1) := by decide +kernel
theorem J_HTape_init_d31 : decode J_HTape_init.2.1 31 = .ok (.sipush 2000, 3) := by decide +kernel
theorem J_HTape_init_d34 : decode J_HTape_init.2.1 34 = .ok (.newarray .byte, 2) := by decide +kernel
theorem J_HTape_init_d36 : decode J_HTape_init.2.1 36 = .ok (.putfield 22, 3) := by decide +kernel
theorem J_HTape_init_d39 : decode J_HTape_init.2.1 39 = .ok (.aload_n 0, 1) := by decide +kernel
theorem J_HTape_init_d40 : decode J_HTape_init.2.1 40 = .ok (.bipush 10, 2) := by decide +kernel
theorem J_HTape_init_d42 : decode J_HTape_init.2.1 42 = .ok (.newarray .int, 2) := by decide +kernel
theorem J_HTape_init_d44 : decode J_HTape_init.2.1 44 = .ok (.putfield 25, 3) := by decide +kernel
theorem J_HTape_init_d47 : decode J_HTape_init.2.1 47 = .ok (.aload_n 0, 1) := by decide +kernel
theorem J_HTape_init_d48 : decode J_HTape_init.2.1 48 = .ok (.iconst 5, 1) := by decide +kernel
theorem J_HTape_init_d49 : decode J_HTape_init.2.1 49 = .ok (.newarray .int, 2) := by decide +kernel
theorem J_HTape_init_d51 : decode J_HTape_init.2.1 51 = .ok (.putfield 28, 3) := by decide +kernel
theorem J_HTape_init_d54 : decode J_HTape_init.2.1 54 = .ok (.aload_n 0, 1) := by decide +kernel
theorem J_HTape_init_d55 : decode J_HTape_init.2.1 55 = .ok (.iconst 5, 1) := by decide +kernel
theorem J_HTape_init_d56 : decode J_HTape_init.2.1 56 = .ok (.newarray .int, 2) := by decide +kernel
theorem J_HTape_init_d58 : decode J_HTape_init.2.1 58 = .ok (.putfield 31, 3) := by decide +kernel
theorem J_HTape_init_d61 : decode J_HTape_init.2.1 61 = .ok (.aload_n 0, 1) := by decide +kernel
theorem J_HTape_init_d62 : decode J_HTape_init.2.1 62 = .ok (.iconst 4, 1) := by decide +kernel
theorem J_HTape_init_d63 : decode J_HTape_init.2.1 63 = .ok (.newarray .int, 2) := by decide +kernel
theorem J_HTape_init_d65 : decode J_HTape_init.2.1 65 = .ok (.putfield 34, 3) := by decide +kernel
theorem J_HTape_init_d68 : decode J_HTape_init.2.1 68 = .ok (.aload_n 0, 1) := by decide +kernel
theorem J_HTape_init_d69 : decode J_HTape_init.2.1 69 = .ok (.sipush 200, 3) := by decide +kernel
theorem J_HTape_init_d72 : decode J_HTape_init.2.1 72 = .ok (.newarray .byte, 2) := by decide +kernel
theorem J_HTape_init_d74 : decode J_HTape_init.2.1 74 = .ok (.putfield 37, 3) := by decide +kernel
theorem J_HTape_init_d77 : decode J_HTape_init.2.1 77 = .ok (.return_, 1) := by decide +kernel
set_option maxRecDepth 20000 in
set_option maxHeartbeats 40000000 in
theorem cs_0 {L : Nat} {xs : Nat → Int32} {dep : Nat} : ia (tb_G L xs) dep J_HTape_init (fun v M1 => v = none ∧ M1 = mm_20) (0, lv_args 0 [.ref 1], [], mm_2) := by
  have hS : im_St (tb_G L xs) dep J_HTape_init (ia (tb_G L xs) dep J_HTape_init (fun v M1 => v = none ∧ M1 = mm_20)) := ia_St
  have h0 : im_lk (lv_args 0 [.ref 1]) 0 = some (.ref 1) := rfl
  refine iq_aload_n hS 1 J_HTape_init_d0 h0 rfl ?_
  refine iq_oinit hS 4 J_HTape_init_d1 lo_10_3 (Nat.le_of_ble_eq_true rfl) rfl ?_
  refine iq_aload_n hS 5 J_HTape_init_d4 h0 rfl ?_
  refine iq_sipush hS 8 J_HTape_init_d5 (v := 4096) (by decide +kernel) rfl ?_
  refine iq_newa hS 10 J_HTape_init_d8 (N := 4096) rfl (by decide) (by decide) (by decide) (by decide) (by decide) rfl ?_
  change ia _ _ _ _ (_, _, .ref 2 :: _, mm_3)
  refine iq_putR hS 13 J_HTape_init_d10 lf_10_11 (Or.inr ⟨rfl, rfl⟩) (Or.inr ⟨_, rfl⟩) ⟨by decide, rfl⟩ rfl ?_
  change ia _ _ _ _ (_, _, _, mm_4)
  refine iq_aload_n hS 14 J_HTape_init_d13 h0 rfl ?_
  refine iq_sipush hS 17 J_HTape_init_d14 (v := 3200) (by decide +kernel) rfl ?_
  refine iq_newa hS 19 J_HTape_init_d17 (N := 3200) rfl (by decide) (by decide) (by decide) (by decide) (by decide) rfl ?_
  change ia _ _ _ _ (_, _, .ref 3 :: _, mm_5)
  refine iq_putR hS 22 J_HTape_init_d19 lf_10_15 (Or.inr ⟨rfl, rfl⟩) (Or.inr ⟨_, rfl⟩) ⟨by decide, rfl⟩ rfl ?_
  change ia _ _ _ _ (_, _, _, mm_6)
  refine iq_aload_n hS 23 J_HTape_init_d22 h0 rfl ?_
  refine iq_bipush hS 25 J_HTape_init_d23 (v := 8) (by decide +kernel) rfl ?_
  refine iq_newa hS 27 J_HTape_init_d25 (N := 8) rfl (by decide) (by decide) (by decide) (by decide) (by decide) rfl ?_
  change ia _ _ _ _ (_, _, .ref 4 :: _, mm_7)
  refine iq_putR hS 30 J_HTape_init_d27 lf_10_18 (Or.inr ⟨rfl, rfl⟩) (Or.inr ⟨_, rfl⟩) ⟨by decide, rfl⟩ rfl ?_
  change ia _ _ _ _ (_, _, _, mm_8)
  refine iq_aload_n hS 31 J_HTape_init_d30 h0 rfl ?_
  refine iq_sipush hS 34 J_HTape_init_d31 (v := 2000) (by decide +kernel) rfl ?_
  refine iq_newa hS 36 J_HTape_init_d34 (N := 2000) rfl (by decide) (by decide) (by decide) (by decide) (by decide) rfl ?_
  change ia _ _ _ _ (_, _, .ref 5 :: _, mm_9)
  refine iq_putR hS 39 J_HTape_init_d36 lf_10_22 (Or.inr ⟨rfl, rfl⟩) (Or.inr ⟨_, rfl⟩) ⟨by decide, rfl⟩ rfl ?_
  change ia _ _ _ _ (_, _, _, mm_10)
  refine iq_aload_n hS 40 J_HTape_init_d39 h0 rfl ?_
  refine iq_bipush hS 42 J_HTape_init_d40 (v := 10) (by decide +kernel) rfl ?_
  refine iq_newa hS 44 J_HTape_init_d42 (N := 10) rfl (by decide) (by decide) (by decide) (by decide) (by decide) rfl ?_
  change ia _ _ _ _ (_, _, .ref 6 :: _, mm_11)
  refine iq_putR hS 47 J_HTape_init_d44 lf_10_25 (Or.inr ⟨rfl, rfl⟩) (Or.inr ⟨_, rfl⟩) ⟨by decide, rfl⟩ rfl ?_
  change ia _ _ _ _ (_, _, _, mm_12)
  refine iq_aload_n hS 48 J_HTape_init_d47 h0 rfl ?_
  refine iq_iconst hS 49 J_HTape_init_d48 (v := 5) (by decide +kernel) rfl ?_
  refine iq_newa hS 51 J_HTape_init_d49 (N := 5) rfl (by decide) (by decide) (by decide) (by decide) (by decide) rfl ?_
  change ia _ _ _ _ (_, _, .ref 7 :: _, mm_13)
  refine iq_putR hS 54 J_HTape_init_d51 lf_10_28 (Or.inr ⟨rfl, rfl⟩) (Or.inr ⟨_, rfl⟩) ⟨by decide, rfl⟩ rfl ?_
  change ia _ _ _ _ (_, _, _, mm_14)
  refine iq_aload_n hS 55 J_HTape_init_d54 h0 rfl ?_
  refine iq_iconst hS 56 J_HTape_init_d55 (v := 5) (by decide +kernel) rfl ?_
  refine iq_newa hS 58 J_HTape_init_d56 (N := 5) rfl (by decide) (by decide) (by decide) (by decide) (by decide) rfl ?_
  change ia _ _ _ _ (_, _, .ref 8 :: _, mm_15)
  refine iq_putR hS 61 J_HTape_init_d58 lf_10_31 (Or.inr ⟨rfl, rfl⟩) (Or.inr ⟨_, rfl⟩) ⟨by decide, rfl⟩ rfl ?_
  change ia _ _ _ _ (_, _, _, mm_16)
  refine iq_aload_n hS 62 J_HTape_init_d61 h0 rfl ?_
  refine iq_iconst hS 63 J_HTape_init_d62 (v := 4) (by decide +kernel) rfl ?_
  refine iq_newa hS 65 J_HTape_init_d63 (N := 4) rfl (by decide) (by decide) (by decide) (by decide) (by decide) rfl ?_
  change ia _ _ _ _ (_, _, .ref 9 :: _, mm_17)
  refine iq_putR hS 68 J_HTape_init_d65 lf_10_34 (Or.inr ⟨rfl, rfl⟩) (Or.inr ⟨_, rfl⟩) ⟨by decide, rfl⟩ rfl ?_
  change ia _ _ _ _ (_, _, _, mm_18)
  refine iq_aload_n hS 69 J_HTape_init_d68 h0 rfl ?_
  refine iq_sipush hS 72 J_HTape_init_d69 (v := 200) (by decide +kernel) rfl ?_
  refine iq_newa hS 74 J_HTape_init_d72 (N := 200) rfl (by decide) (by decide) (by decide) (by decide) (by decide) rfl ?_
  change ia _ _ _ _ (_, _, .ref 10 :: _, mm_19)
  refine iq_putR hS 77 J_HTape_init_d74 lf_10_37 (Or.inr ⟨rfl, rfl⟩) (Or.inr ⟨_, rfl⟩) ⟨by decide, rfl⟩ rfl ?_
  change ia _ _ _ _ (_, _, _, mm_20)
  exact iq_ret J_HTape_init_d77 rfl ⟨rfl, rfl⟩
theorem J_HOrders_init_d0 : decode J_HOrders_init.2.1 0 = .ok (.aload_n 0, 1) := by decide +kernel
theorem J_HOrders_init_d1 : decode J_HOrders_init.2.1 1 = .ok (.invokespecial 1, 3) := by decide +kernel
theorem J_HOrders_init_d4 : decode J_HOrders_init.2.1 4 = .ok (.aload_n 0, 1) := by decide +kernel
theorem J_HOrders_init_d5 : decode J_HOrders_init.2.1 5 = .ok (.sipush 200, 3) := by decide +kernel
theorem J_HOrders_init_d8 : decode J_HOrders_init.2.1 8 = .ok (.newarray .byte, 2) := by decide +kernel
theorem J_HOrders_init_d10 : decode J_HOrders_init.2.1 10 = .ok (.putfield 9, 3) := by decide +kernel
theorem J_HOrders_init_d13 : decode J_HOrders_init.2.1 13 = .ok (.aload_n 0, 1) := by decide +kernel
theorem J_HOrders_init_d14 : decode J_HOrders_init.2.1 14 = .ok (.iload_n 1, 1) := by decide +kernel
theorem J_HOrders_init_d15 : decode J_HOrders_init.2.1 15 = .ok (.bipush 14, 2) := by decide +kernel
theorem J_HOrders_init_d17 : decode J_HOrders_init.2.1 17 = .ok (.imul, 1) := by decide +kernel
theorem J_HOrders_init_d18 : decode J_HOrders_init.2.1 18 = .ok (.newarray .int, 2) := by decide +kernel
theorem J_HOrders_init_d20 : decode J_HOrders_init.2.1 20 = .ok (.putfield 13, 3) := by decide +kernel
theorem J_HOrders_init_d23 : decode J_HOrders_init.2.1 23 = .ok (.aload_n 0, 1) := by decide +kernel
theorem J_HOrders_init_d24 : decode J_HOrders_init.2.1 24 = .ok (.iload_n 1, 1) := by decide +kernel
theorem J_HOrders_init_d25 : decode J_HOrders_init.2.1 25 = .ok (.sipush 200, 3) := by decide +kernel
theorem J_HOrders_init_d28 : decode J_HOrders_init.2.1 28 = .ok (.imul, 1) := by decide +kernel
theorem J_HOrders_init_d29 : decode J_HOrders_init.2.1 29 = .ok (.newarray .byte, 2) := by decide +kernel
theorem J_HOrders_init_d31 : decode J_HOrders_init.2.1 31 = .ok (.putfield 17, 3) := by decide +kernel
theorem J_HOrders_init_d34 : decode J_HOrders_init.2.1 34 = .ok (.return_, 1) := by decide +kernel
set_option maxRecDepth 20000 in
set_option maxHeartbeats 40000000 in
theorem cs_1 {L : Nat} {xs : Nat → Int32} {dep : Nat} : ia (tb_G L xs) dep J_HOrders_init (fun v M1 => v = none ∧ M1 = mm_28) (0, lv_args 0 [.ref 11, .int 120], [], mm_22) := by
  have hS : im_St (tb_G L xs) dep J_HOrders_init (ia (tb_G L xs) dep J_HOrders_init (fun v M1 => v = none ∧ M1 = mm_28)) := ia_St
  have h0 : im_lk (lv_args 0 [.ref 11, .int 120]) 0 = some (.ref 11) := rfl
  have h1 : im_lk (lv_args 0 [.ref 11, .int 120]) 1 = some (.int 120) := rfl
  refine iq_aload_n hS 1 J_HOrders_init_d0 h0 rfl ?_
  refine iq_oinit hS 4 J_HOrders_init_d1 lo_5_1 (Nat.le_of_ble_eq_true rfl) rfl ?_
  refine iq_aload_n hS 5 J_HOrders_init_d4 h0 rfl ?_
  refine iq_sipush hS 8 J_HOrders_init_d5 (v := 200) (by decide +kernel) rfl ?_
  refine iq_newa hS 10 J_HOrders_init_d8 (N := 200) rfl (by decide) (by decide) (by decide) (by decide) (by decide) rfl ?_
  change ia _ _ _ _ (_, _, .ref 12 :: _, mm_23)
  refine iq_putR hS 13 J_HOrders_init_d10 lf_5_9 (Or.inr ⟨rfl, rfl⟩) (Or.inr ⟨_, rfl⟩) ⟨by decide, rfl⟩ rfl ?_
  change ia _ _ _ _ (_, _, _, mm_24)
  refine iq_aload_n hS 14 J_HOrders_init_d13 h0 rfl ?_
  refine iq_iload_n hS 15 J_HOrders_init_d14 h1 rfl ?_
  refine iq_bipush hS 17 J_HOrders_init_d15 (v := 14) (by decide +kernel) rfl ?_
  refine iq_imul hS 18 J_HOrders_init_d17 rfl ?_
  refine iq_newa hS 20 J_HOrders_init_d18 (N := 1680) rfl (by decide) (by decide) (by decide) (by decide) (by decide) rfl ?_
  change ia _ _ _ _ (_, _, .ref 13 :: _, mm_25)
  refine iq_putR hS 23 J_HOrders_init_d20 lf_5_13 (Or.inr ⟨rfl, rfl⟩) (Or.inr ⟨_, rfl⟩) ⟨by decide, rfl⟩ rfl ?_
  change ia _ _ _ _ (_, _, _, mm_26)
  refine iq_aload_n hS 24 J_HOrders_init_d23 h0 rfl ?_
  refine iq_iload_n hS 25 J_HOrders_init_d24 h1 rfl ?_
  refine iq_sipush hS 28 J_HOrders_init_d25 (v := 200) (by decide +kernel) rfl ?_
  refine iq_imul hS 29 J_HOrders_init_d28 rfl ?_
  refine iq_newa hS 31 J_HOrders_init_d29 (N := 24000) rfl (by decide) (by decide) (by decide) (by decide) (by decide) rfl ?_
  change ia _ _ _ _ (_, _, .ref 14 :: _, mm_27)
  refine iq_putR hS 34 J_HOrders_init_d31 lf_5_17 (Or.inr ⟨rfl, rfl⟩) (Or.inr ⟨_, rfl⟩) ⟨by decide, rfl⟩ rfl ?_
  change ia _ _ _ _ (_, _, _, mm_28)
  exact iq_ret J_HOrders_init_d34 rfl ⟨rfl, rfl⟩
set_option maxRecDepth 20000 in
set_option maxHeartbeats 40000000 in
theorem cs_2 {L : Nat} {xs : Nat → Int32} {dep : Nat} : ia (tb_G L xs) dep J_HOrders_init (fun v M1 => v = none ∧ M1 = mm_46) (0, lv_args 0 [.ref 19, .int 140], [], mm_40) := by
  have hS : im_St (tb_G L xs) dep J_HOrders_init (ia (tb_G L xs) dep J_HOrders_init (fun v M1 => v = none ∧ M1 = mm_46)) := ia_St
  have h0 : im_lk (lv_args 0 [.ref 19, .int 140]) 0 = some (.ref 19) := rfl
  have h1 : im_lk (lv_args 0 [.ref 19, .int 140]) 1 = some (.int 140) := rfl
  refine iq_aload_n hS 1 J_HOrders_init_d0 h0 rfl ?_
  refine iq_oinit hS 4 J_HOrders_init_d1 lo_5_1 (Nat.le_of_ble_eq_true rfl) rfl ?_
  refine iq_aload_n hS 5 J_HOrders_init_d4 h0 rfl ?_
  refine iq_sipush hS 8 J_HOrders_init_d5 (v := 200) (by decide +kernel) rfl ?_
  refine iq_newa hS 10 J_HOrders_init_d8 (N := 200) rfl (by decide) (by decide) (by decide) (by decide) (by decide) rfl ?_
  change ia _ _ _ _ (_, _, .ref 20 :: _, mm_41)
  refine iq_putR hS 13 J_HOrders_init_d10 lf_5_9 (Or.inr ⟨rfl, rfl⟩) (Or.inr ⟨_, rfl⟩) ⟨by decide, rfl⟩ rfl ?_
  change ia _ _ _ _ (_, _, _, mm_42)
  refine iq_aload_n hS 14 J_HOrders_init_d13 h0 rfl ?_
  refine iq_iload_n hS 15 J_HOrders_init_d14 h1 rfl ?_
  refine iq_bipush hS 17 J_HOrders_init_d15 (v := 14) (by decide +kernel) rfl ?_
  refine iq_imul hS 18 J_HOrders_init_d17 rfl ?_
  refine iq_newa hS 20 J_HOrders_init_d18 (N := 1960) rfl (by decide) (by decide) (by decide) (by decide) (by decide) rfl ?_
  change ia _ _ _ _ (_, _, .ref 21 :: _, mm_43)
  refine iq_putR hS 23 J_HOrders_init_d20 lf_5_13 (Or.inr ⟨rfl, rfl⟩) (Or.inr ⟨_, rfl⟩) ⟨by decide, rfl⟩ rfl ?_
  change ia _ _ _ _ (_, _, _, mm_44)
  refine iq_aload_n hS 24 J_HOrders_init_d23 h0 rfl ?_
  refine iq_iload_n hS 25 J_HOrders_init_d24 h1 rfl ?_
  refine iq_sipush hS 28 J_HOrders_init_d25 (v := 200) (by decide +kernel) rfl ?_
  refine iq_imul hS 29 J_HOrders_init_d28 rfl ?_
  refine iq_newa hS 31 J_HOrders_init_d29 (N := 28000) rfl (by decide) (by decide) (by decide) (by decide) (by decide) rfl ?_
  change ia _ _ _ _ (_, _, .ref 22 :: _, mm_45)
  refine iq_putR hS 34 J_HOrders_init_d31 lf_5_17 (Or.inr ⟨rfl, rfl⟩) (Or.inr ⟨_, rfl⟩) ⟨by decide, rfl⟩ rfl ?_
  change ia _ _ _ _ (_, _, _, mm_46)
  exact iq_ret J_HOrders_init_d34 rfl ⟨rfl, rfl⟩
theorem J_HField_init_d0 : decode J_HField_init.2.1 0 = .ok (.aload_n 0, 1) := by decide +kernel
theorem J_HField_init_d1 : decode J_HField_init.2.1 1 = .ok (.invokespecial 3, 3) := by decide +kernel
theorem J_HField_init_d4 : decode J_HField_init.2.1 4 = .ok (.aload_n 0, 1) := by decide +kernel
theorem J_HField_init_d5 : decode J_HField_init.2.1 5 = .ok (.iconst 4, 1) := by decide +kernel
theorem J_HField_init_d6 : decode J_HField_init.2.1 6 = .ok (.newarray .int, 2) := by decide +kernel
theorem J_HField_init_d8 : decode J_HField_init.2.1 8 = .ok (.putfield 9, 3) := by decide +kernel
theorem J_HField_init_d11 : decode J_HField_init.2.1 11 = .ok (.aload_n 0, 1) := by decide +kernel
theorem J_HField_init_d12 : decode J_HField_init.2.1 12 = .ok (.sipush 200, 3) := by decide +kernel
theorem J_HField_init_d15 : decode J_HField_init.2.1 15 = .ok (.newarray .byte, 2) := by decide +kernel
theorem J_HField_init_d17 : decode J_HField_init.2.1 17 = .ok (.putfield 17, 3) := by decide +kernel
theorem J_HField_init_d20 : decode J_HField_init.2.1 20 = .ok (.aload_n 0, 1) := by decide +kernel
theorem J_HField_init_d21 : decode J_HField_init.2.1 21 = .ok (.bipush 20, 2) := by decide +kernel
theorem J_HField_init_d23 : decode J_HField_init.2.1 23 = .ok (.newarray .int, 2) := by decide +kernel
theorem J_HField_init_d25 : decode J_HField_init.2.1 25 = .ok (.putfield 21, 3) := by decide +kernel
theorem J_HField_init_d28 : decode J_HField_init.2.1 28 = .ok (.aload_n 0, 1) := by decide +kernel
theorem J_HField_init_d29 : decode J_HField_init.2.1 29 = .ok (.bipush 20, 2) := by decide +kernel
theorem J_HField_init_d31 : decode J_HField_init.2.1 31 = .ok (.newarray .int, 2) := by decide +kernel
theorem J_HField_init_d33 : decode J_HField_init.2.1 33 = .ok (.putfield 24, 3) := by decide +kernel
theorem J_HField_init_d36 : decode J_HField_init.2.1 36 = .ok (.return_, 1) := by decide +kernel
set_option maxRecDepth 20000 in
set_option maxHeartbeats 40000000 in
theorem cs_3 {L : Nat} {xs : Nat → Int32} {dep : Nat} : ia (tb_G L xs) dep J_HField_init (fun v M1 => v = none ∧ M1 = mm_56) (0, lv_args 0 [.ref 23], [], mm_48) := by
  have hS : im_St (tb_G L xs) dep J_HField_init (ia (tb_G L xs) dep J_HField_init (fun v M1 => v = none ∧ M1 = mm_56)) := ia_St
  have h0 : im_lk (lv_args 0 [.ref 23]) 0 = some (.ref 23) := rfl
  refine iq_aload_n hS 1 J_HField_init_d0 h0 rfl ?_
  refine iq_oinit hS 4 J_HField_init_d1 lo_2_3 (Nat.le_of_ble_eq_true rfl) rfl ?_
  refine iq_aload_n hS 5 J_HField_init_d4 h0 rfl ?_
  refine iq_iconst hS 6 J_HField_init_d5 (v := 4) (by decide +kernel) rfl ?_
  refine iq_newa hS 8 J_HField_init_d6 (N := 4) rfl (by decide) (by decide) (by decide) (by decide) (by decide) rfl ?_
  change ia _ _ _ _ (_, _, .ref 24 :: _, mm_49)
  refine iq_putR hS 11 J_HField_init_d8 lf_2_9 (Or.inr ⟨rfl, rfl⟩) (Or.inr ⟨_, rfl⟩) ⟨by decide, rfl⟩ rfl ?_
  change ia _ _ _ _ (_, _, _, mm_50)
  refine iq_aload_n hS 12 J_HField_init_d11 h0 rfl ?_
  refine iq_sipush hS 15 J_HField_init_d12 (v := 200) (by decide +kernel) rfl ?_
  refine iq_newa hS 17 J_HField_init_d15 (N := 200) rfl (by decide) (by decide) (by decide) (by decide) (by decide) rfl ?_
  change ia _ _ _ _ (_, _, .ref 25 :: _, mm_51)
  refine iq_putR hS 20 J_HField_init_d17 lf_2_17 (Or.inr ⟨rfl, rfl⟩) (Or.inr ⟨_, rfl⟩) ⟨by decide, rfl⟩ rfl ?_
  change ia _ _ _ _ (_, _, _, mm_52)
  refine iq_aload_n hS 21 J_HField_init_d20 h0 rfl ?_
  refine iq_bipush hS 23 J_HField_init_d21 (v := 20) (by decide +kernel) rfl ?_
  refine iq_newa hS 25 J_HField_init_d23 (N := 20) rfl (by decide) (by decide) (by decide) (by decide) (by decide) rfl ?_
  change ia _ _ _ _ (_, _, .ref 26 :: _, mm_53)
  refine iq_putR hS 28 J_HField_init_d25 lf_2_21 (Or.inr ⟨rfl, rfl⟩) (Or.inr ⟨_, rfl⟩) ⟨by decide, rfl⟩ rfl ?_
  change ia _ _ _ _ (_, _, _, mm_54)
  refine iq_aload_n hS 29 J_HField_init_d28 h0 rfl ?_
  refine iq_bipush hS 31 J_HField_init_d29 (v := 20) (by decide +kernel) rfl ?_
  refine iq_newa hS 33 J_HField_init_d31 (N := 20) rfl (by decide) (by decide) (by decide) (by decide) (by decide) rfl ?_
  change ia _ _ _ _ (_, _, .ref 27 :: _, mm_55)
  refine iq_putR hS 36 J_HField_init_d33 lf_2_24 (Or.inr ⟨rfl, rfl⟩) (Or.inr ⟨_, rfl⟩) ⟨by decide, rfl⟩ rfl ?_
  change ia _ _ _ _ (_, _, _, mm_56)
  exact iq_ret J_HField_init_d36 rfl ⟨rfl, rfl⟩
theorem J_HSetter_init_d0 : decode J_HSetter_init.2.1 0 = .ok (.aload_n 0, 1) := by decide +kernel
theorem J_HSetter_init_d1 : decode J_HSetter_init.2.1 1 = .ok (.invokespecial 3, 3) := by decide +kernel
theorem J_HSetter_init_d4 : decode J_HSetter_init.2.1 4 = .ok (.aload_n 0, 1) := by decide +kernel
theorem J_HSetter_init_d5 : decode J_HSetter_init.2.1 5 = .ok (.bipush 48, 2) := by decide +kernel
theorem J_HSetter_init_d7 : decode J_HSetter_init.2.1 7 = .ok (.newarray .int, 2) := by decide +kernel
theorem J_HSetter_init_d9 : decode J_HSetter_init.2.1 9 = .ok (.putfield 11, 3) := by decide +kernel
theorem J_HSetter_init_d12 : decode J_HSetter_init.2.1 12 = .ok (.aload_n 0, 1) := by decide +kernel
theorem J_HSetter_init_d13 : decode J_HSetter_init.2.1 13 = .ok (.iconst (-1), 1) := by decide +kernel
theorem J_HSetter_init_d14 : decode J_HSetter_init.2.1 14 = .ok (.putfield 15, 3) := by decide +kernel
theorem J_HSetter_init_d17 : decode J_HSetter_init.2.1 17 = .ok (.aload_n 0, 1) := by decide +kernel
theorem J_HSetter_init_d18 : decode J_HSetter_init.2.1 18 = .ok (.iconst 2, 1) := by decide +kernel
theorem J_HSetter_init_d19 : decode J_HSetter_init.2.1 19 = .ok (.newarray .int, 2) := by decide +kernel
theorem J_HSetter_init_d21 : decode J_HSetter_init.2.1 21 = .ok (.putfield 19, 3) := by decide +kernel
theorem J_HSetter_init_d24 : decode J_HSetter_init.2.1 24 = .ok (.aload_n 0, 1) := by decide +kernel
theorem J_HSetter_init_d25 : decode J_HSetter_init.2.1 25 = .ok (.iconst 4, 1) := by decide +kernel
theorem J_HSetter_init_d26 : decode J_HSetter_init.2.1 26 = .ok (.newarray .int, 2) := by decide +kernel
theorem J_HSetter_init_d28 : decode J_HSetter_init.2.1 28 = .ok (.putfield 22, 3) := by decide +kernel
theorem J_HSetter_init_d31 : decode J_HSetter_init.2.1 31 = .ok (.aload_n 0, 1) := by decide +kernel
theorem J_HSetter_init_d32 : decode J_HSetter_init.2.1 32 = .ok (.aload_n 1, 1) := by decide +kernel
theorem J_HSetter_init_d33 : decode J_HSetter_init.2.1 33 = .ok (.putfield 25, 3) := by decide +kernel
theorem J_HSetter_init_d36 : decode J_HSetter_init.2.1 36 = .ok (.aload_n 0, 1) := by decide +kernel
theorem J_HSetter_init_d37 : decode J_HSetter_init.2.1 37 = .ok (.aload_n 2, 1) := by decide +kernel
theorem J_HSetter_init_d38 : decode J_HSetter_init.2.1 38 = .ok (.putfield 29, 3) := by decide +kernel
theorem J_HSetter_init_d41 : decode J_HSetter_init.2.1 41 = .ok (.aload_n 0, 1) := by decide +kernel
theorem J_HSetter_init_d42 : decode J_HSetter_init.2.1 42 = .ok (.new 33, 3) := by decide +kernel
theorem J_HSetter_init_d45 : decode J_HSetter_init.2.1 45 = .ok (.dup, 1) := by decide +kernel
theorem J_HSetter_init_d46 : decode J_HSetter_init.2.1 46 = .ok (.sipush 140, 3) := by decide +kernel
theorem J_HSetter_init_d49 : decode J_HSetter_init.2.1 49 = .ok (.invokespecial 37, 3) := by decide +kernel
theorem J_HSetter_init_d52 : decode J_HSetter_init.2.1 52 = .ok (.putfield 40, 3) := by decide +kernel
theorem J_HSetter_init_d55 : decode J_HSetter_init.2.1 55 = .ok (.aload_n 0, 1) := by decide +kernel
theorem J_HSetter_init_d56 : decode J_HSetter_init.2.1 56 = .ok (.new 35, 3) := by decide +kernel
theorem J_HSetter_init_d59 : decode J_HSetter_init.2.1 59 = .ok (.dup, 1) := by decide +kernel
theorem J_HSetter_init_d60 : decode J_HSetter_init.2.1 60 = .ok (.invokespecial 43, 3) := by decide +kernel
theorem J_HSetter_init_d63 : decode J_HSetter_init.2.1 63 = .ok (.putfield 44, 3) := by decide +kernel
theorem J_HSetter_init_d66 : decode J_HSetter_init.2.1 66 = .ok (.return_, 1) := by decide +kernel
set_option maxRecDepth 20000 in
set_option maxHeartbeats 40000000 in
theorem cs_4 {L : Nat} {xs : Nat → Int32} {dep : Nat} : ia (tb_G L xs) (dep + 1) J_HSetter_init (fun v M1 => v = none ∧ M1 = mm_57) (0, lv_args 0 [.ref 15, .ref 1, .ref 11], [], mm_30) := by
  have hS : im_St (tb_G L xs) (dep + 1) J_HSetter_init (ia (tb_G L xs) (dep + 1) J_HSetter_init (fun v M1 => v = none ∧ M1 = mm_57)) := ia_St
  have h0 : im_lk (lv_args 0 [.ref 15, .ref 1, .ref 11]) 0 = some (.ref 15) := rfl
  have h1 : im_lk (lv_args 0 [.ref 15, .ref 1, .ref 11]) 1 = some (.ref 1) := rfl
  have h2 : im_lk (lv_args 0 [.ref 15, .ref 1, .ref 11]) 2 = some (.ref 11) := rfl
  refine iq_aload_n hS 1 J_HSetter_init_d0 h0 rfl ?_
  refine iq_oinit hS 4 J_HSetter_init_d1 lo_8_3 (Nat.le_of_ble_eq_true rfl) rfl ?_
  refine iq_aload_n hS 5 J_HSetter_init_d4 h0 rfl ?_
  refine iq_bipush hS 7 J_HSetter_init_d5 (v := 48) (by decide +kernel) rfl ?_
  refine iq_newa hS 9 J_HSetter_init_d7 (N := 48) rfl (by decide) (by decide) (by decide) (by decide) (by decide) rfl ?_
  change ia _ _ _ _ (_, _, .ref 16 :: _, mm_31)
  refine iq_putR hS 12 J_HSetter_init_d9 lf_8_11 (Or.inr ⟨rfl, rfl⟩) (Or.inr ⟨_, rfl⟩) ⟨by decide, rfl⟩ rfl ?_
  change ia _ _ _ _ (_, _, _, mm_32)
  refine iq_aload_n hS 13 J_HSetter_init_d12 h0 rfl ?_
  refine iq_iconst hS 14 J_HSetter_init_d13 (v := (-1)) (by decide +kernel) rfl ?_
  refine iq_putI hS 17 J_HSetter_init_d14 lf_8_15 (Or.inl rfl) rfl ⟨by decide, rfl⟩ rfl ?_
  change ia _ _ _ _ (_, _, _, mm_33)
  refine iq_aload_n hS 18 J_HSetter_init_d17 h0 rfl ?_
  refine iq_iconst hS 19 J_HSetter_init_d18 (v := 2) (by decide +kernel) rfl ?_
  refine iq_newa hS 21 J_HSetter_init_d19 (N := 2) rfl (by decide) (by decide) (by decide) (by decide) (by decide) rfl ?_
  change ia _ _ _ _ (_, _, .ref 17 :: _, mm_34)
  refine iq_putR hS 24 J_HSetter_init_d21 lf_8_19 (Or.inr ⟨rfl, rfl⟩) (Or.inr ⟨_, rfl⟩) ⟨by decide, rfl⟩ rfl ?_
  change ia _ _ _ _ (_, _, _, mm_35)
  refine iq_aload_n hS 25 J_HSetter_init_d24 h0 rfl ?_
  refine iq_iconst hS 26 J_HSetter_init_d25 (v := 4) (by decide +kernel) rfl ?_
  refine iq_newa hS 28 J_HSetter_init_d26 (N := 4) rfl (by decide) (by decide) (by decide) (by decide) (by decide) rfl ?_
  change ia _ _ _ _ (_, _, .ref 18 :: _, mm_36)
  refine iq_putR hS 31 J_HSetter_init_d28 lf_8_22 (Or.inr ⟨rfl, rfl⟩) (Or.inr ⟨_, rfl⟩) ⟨by decide, rfl⟩ rfl ?_
  change ia _ _ _ _ (_, _, _, mm_37)
  refine iq_aload_n hS 32 J_HSetter_init_d31 h0 rfl ?_
  refine iq_aload_n hS 33 J_HSetter_init_d32 h1 rfl ?_
  refine iq_putR hS 36 J_HSetter_init_d33 lf_8_25 (Or.inr ⟨rfl, rfl⟩) (Or.inl ⟨_, rfl⟩) ⟨by decide, rfl⟩ rfl ?_
  change ia _ _ _ _ (_, _, _, mm_38)
  refine iq_aload_n hS 37 J_HSetter_init_d36 h0 rfl ?_
  refine iq_aload_n hS 38 J_HSetter_init_d37 h2 rfl ?_
  refine iq_putR hS 41 J_HSetter_init_d38 lf_8_29 (Or.inr ⟨rfl, rfl⟩) (Or.inl ⟨_, rfl⟩) ⟨by decide, rfl⟩ rfl ?_
  change ia _ _ _ _ (_, _, _, mm_39)
  refine iq_aload_n hS 42 J_HSetter_init_d41 h0 rfl ?_
  refine iq_new 45 J_HSetter_init_d42 ln_8_33 rfl (by decide) (by decide) rfl ?_
  change ia _ _ _ _ (_, _, .ref 19 :: _, mm_40)
  refine iq_dup hS 46 J_HSetter_init_d45 rfl rfl ?_
  refine iq_sipush hS 49 J_HSetter_init_d46 (v := 140) (by decide +kernel) rfl ?_
  refine iq_call hS 52 J_HSetter_init_d49 rfl (pr_inst (vs := [_]) lc_8_37 lT_2 rfl rfl (by decide) (by decide) rfl (Nat.le_of_ble_eq_true rfl) (Nat.le_of_ble_eq_true rfl) (fun q => absurd q (by decide))) cs_2 rfl ?_
  rintro v M1 ⟨rfl, rfl⟩
  refine iq_putR hS 55 J_HSetter_init_d52 lf_8_40 (Or.inr ⟨rfl, rfl⟩) (Or.inl ⟨_, rfl⟩) ⟨by decide, rfl⟩ rfl ?_
  change ia _ _ _ _ (_, _, _, mm_47)
  refine iq_aload_n hS 56 J_HSetter_init_d55 h0 rfl ?_
  refine iq_new 59 J_HSetter_init_d56 ln_8_35 rfl (by decide) (by decide) rfl ?_
  change ia _ _ _ _ (_, _, .ref 23 :: _, mm_48)
  refine iq_dup hS 60 J_HSetter_init_d59 rfl rfl ?_
  refine iq_call hS 63 J_HSetter_init_d60 rfl (pr_inst (vs := []) lc_8_43 lT_4 rfl rfl (by decide) (by decide) rfl (Nat.le_of_ble_eq_true rfl) (Nat.le_of_ble_eq_true rfl) (fun q => absurd q (by decide))) cs_3 rfl ?_
  rintro v M1 ⟨rfl, rfl⟩
  refine iq_putR hS 66 J_HSetter_init_d63 lf_8_44 (Or.inr ⟨rfl, rfl⟩) (Or.inl ⟨_, rfl⟩) ⟨by decide, rfl⟩ rfl ?_
  change ia _ _ _ _ (_, _, _, mm_57)
  exact iq_ret J_HSetter_init_d66 rfl ⟨rfl, rfl⟩
theorem J_HSheet_init_d0 : decode J_HSheet_init.2.1 0 = .ok (.aload_n 0, 1) := by decide +kernel
theorem J_HSheet_init_d1 : decode J_HSheet_init.2.1 1 = .ok (.invokespecial 3, 3) := by decide +kernel
theorem J_HSheet_init_d4 : decode J_HSheet_init.2.1 4 = .ok (.aload_n 0, 1) := by decide +kernel
theorem J_HSheet_init_d5 : decode J_HSheet_init.2.1 5 = .ok (.bipush 64, 2) := by decide +kernel
theorem J_HSheet_init_d7 : decode J_HSheet_init.2.1 7 = .ok (.putfield 9, 3) := by decide +kernel
theorem J_HSheet_init_d10 : decode J_HSheet_init.2.1 10 = .ok (.aload_n 0, 1) := by decide +kernel
theorem J_HSheet_init_d11 : decode J_HSheet_init.2.1 11 = .ok (.bipush 64, 2) := by decide +kernel
theorem J_HSheet_init_d13 : decode J_HSheet_init.2.1 13 = .ok (.putfield 15, 3) := by decide +kernel
theorem J_HSheet_init_d16 : decode J_HSheet_init.2.1 16 = .ok (.aload_n 0, 1) := by decide +kernel
theorem J_HSheet_init_d17 : decode J_HSheet_init.2.1 17 = .ok (.sipush 4096, 3) := by decide +kernel
theorem J_HSheet_init_d20 : decode J_HSheet_init.2.1 20 = .ok (.newarray .long, 2) := by decide +kernel
theorem J_HSheet_init_d22 : decode J_HSheet_init.2.1 22 = .ok (.putfield 18, 3) := by decide +kernel
theorem J_HSheet_init_d25 : decode J_HSheet_init.2.1 25 = .ok (.aload_n 0, 1) := by decide +kernel
theorem J_HSheet_init_d26 : decode J_HSheet_init.2.1 26 = .ok (.sipush 4096, 3) := by decide +kernel
theorem J_HSheet_init_d29 : decode J_HSheet_init.2.1 29 = .ok (.newarray .long, 2) := by decide +kernel
theorem J_HSheet_init_d31 : decode J_HSheet_init.2.1 31 = .ok (.putfield 22, 3) := by decide +kernel
theorem J_HSheet_init_d34 : decode J_HSheet_init.2.1 34 = .ok (.return_, 1) := by decide +kernel
set_option maxRecDepth 20000 in
set_option maxHeartbeats 40000000 in
theorem cs_5 {L : Nat} {xs : Nat → Int32} {dep : Nat} : ia (tb_G L xs) dep J_HSheet_init (fun v M1 => v = none ∧ M1 = mm_65) (0, lv_args 0 [.ref 28], [], mm_59) := by
  have hS : im_St (tb_G L xs) dep J_HSheet_init (ia (tb_G L xs) dep J_HSheet_init (fun v M1 => v = none ∧ M1 = mm_65)) := ia_St
  have h0 : im_lk (lv_args 0 [.ref 28]) 0 = some (.ref 28) := rfl
  refine iq_aload_n hS 1 J_HSheet_init_d0 h0 rfl ?_
  refine iq_oinit hS 4 J_HSheet_init_d1 lo_9_3 (Nat.le_of_ble_eq_true rfl) rfl ?_
  refine iq_aload_n hS 5 J_HSheet_init_d4 h0 rfl ?_
  refine iq_bipush hS 7 J_HSheet_init_d5 (v := 64) (by decide +kernel) rfl ?_
  refine iq_putI hS 10 J_HSheet_init_d7 lf_9_9 (Or.inl rfl) rfl ⟨by decide, rfl⟩ rfl ?_
  change ia _ _ _ _ (_, _, _, mm_60)
  refine iq_aload_n hS 11 J_HSheet_init_d10 h0 rfl ?_
  refine iq_bipush hS 13 J_HSheet_init_d11 (v := 64) (by decide +kernel) rfl ?_
  refine iq_putI hS 16 J_HSheet_init_d13 lf_9_15 (Or.inl rfl) rfl ⟨by decide, rfl⟩ rfl ?_
  change ia _ _ _ _ (_, _, _, mm_61)
  refine iq_aload_n hS 17 J_HSheet_init_d16 h0 rfl ?_
  refine iq_sipush hS 20 J_HSheet_init_d17 (v := 4096) (by decide +kernel) rfl ?_
  refine iq_newa hS 22 J_HSheet_init_d20 (N := 4096) rfl (by decide) (by decide) (by decide) (by decide) (by decide) rfl ?_
  change ia _ _ _ _ (_, _, .ref 29 :: _, mm_62)
  refine iq_putR hS 25 J_HSheet_init_d22 lf_9_18 (Or.inl rfl) (Or.inr ⟨_, rfl⟩) ⟨by decide, rfl⟩ rfl ?_
  change ia _ _ _ _ (_, _, _, mm_63)
  refine iq_aload_n hS 26 J_HSheet_init_d25 h0 rfl ?_
  refine iq_sipush hS 29 J_HSheet_init_d26 (v := 4096) (by decide +kernel) rfl ?_
  refine iq_newa hS 31 J_HSheet_init_d29 (N := 4096) rfl (by decide) (by decide) (by decide) (by decide) (by decide) rfl ?_
  change ia _ _ _ _ (_, _, .ref 30 :: _, mm_64)
  refine iq_putR hS 34 J_HSheet_init_d31 lf_9_22 (Or.inl rfl) (Or.inr ⟨_, rfl⟩) ⟨by decide, rfl⟩ rfl ?_
  change ia _ _ _ _ (_, _, _, mm_65)
  exact iq_ret J_HSheet_init_d34 rfl ⟨rfl, rfl⟩
theorem J_HBars_init_d0 : decode J_HBars_init.2.1 0 = .ok (.aload_n 0, 1) := by decide +kernel
theorem J_HBars_init_d1 : decode J_HBars_init.2.1 1 = .ok (.invokespecial 3, 3) := by decide +kernel
theorem J_HBars_init_d4 : decode J_HBars_init.2.1 4 = .ok (.aload_n 0, 1) := by decide +kernel
theorem J_HBars_init_d5 : decode J_HBars_init.2.1 5 = .ok (.sipush 512, 3) := by decide +kernel
theorem J_HBars_init_d8 : decode J_HBars_init.2.1 8 = .ok (.newarray .int, 2) := by decide +kernel
theorem J_HBars_init_d10 : decode J_HBars_init.2.1 10 = .ok (.putfield 11, 3) := by decide +kernel
theorem J_HBars_init_d13 : decode J_HBars_init.2.1 13 = .ok (.aload_n 0, 1) := by decide +kernel
theorem J_HBars_init_d14 : decode J_HBars_init.2.1 14 = .ok (.sipush 900, 3) := by decide +kernel
theorem J_HBars_init_d17 : decode J_HBars_init.2.1 17 = .ok (.newarray .int, 2) := by decide +kernel
theorem J_HBars_init_d19 : decode J_HBars_init.2.1 19 = .ok (.putfield 17, 3) := by decide +kernel
theorem J_HBars_init_d22 : decode J_HBars_init.2.1 22 = .ok (.aload_n 0, 1) := by decide +kernel
theorem J_HBars_init_d23 : decode J_HBars_init.2.1 23 = .ok (.bipush 65, 2) := by decide +kernel
theorem J_HBars_init_d25 : decode J_HBars_init.2.1 25 = .ok (.newarray .int, 2) := by decide +kernel
theorem J_HBars_init_d27 : decode J_HBars_init.2.1 27 = .ok (.putfield 20, 3) := by decide +kernel
theorem J_HBars_init_d30 : decode J_HBars_init.2.1 30 = .ok (.aload_n 0, 1) := by decide +kernel
theorem J_HBars_init_d31 : decode J_HBars_init.2.1 31 = .ok (.sipush 198, 3) := by decide +kernel
theorem J_HBars_init_d34 : decode J_HBars_init.2.1 34 = .ok (.newarray .int, 2) := by decide +kernel
theorem J_HBars_init_d36 : decode J_HBars_init.2.1 36 = .ok (.putfield 23, 3) := by decide +kernel
theorem J_HBars_init_d39 : decode J_HBars_init.2.1 39 = .ok (.aload_n 0, 1) := by decide +kernel
theorem J_HBars_init_d40 : decode J_HBars_init.2.1 40 = .ok (.sipush 140, 3) := by decide +kernel
theorem J_HBars_init_d43 : decode J_HBars_init.2.1 43 = .ok (.newarray .int, 2) := by decide +kernel
theorem J_HBars_init_d45 : decode J_HBars_init.2.1 45 = .ok (.putfield 26, 3) := by decide +kernel
theorem J_HBars_init_d48 : decode J_HBars_init.2.1 48 = .ok (.aload_n 0, 1) := by decide +kernel
theorem J_HBars_init_d49 : decode J_HBars_init.2.1 49 = .ok (.bipush 13, 2) := by decide +kernel
theorem J_HBars_init_d51 : decode J_HBars_init.2.1 51 = .ok (.newarray .int, 2) := by decide +kernel
theorem J_HBars_init_d53 : decode J_HBars_init.2.1 53 = .ok (.putfield 29, 3) := by decide +kernel
theorem J_HBars_init_d56 : decode J_HBars_init.2.1 56 = .ok (.return_, 1) := by decide +kernel
set_option maxRecDepth 20000 in
set_option maxHeartbeats 40000000 in
theorem cs_6 {L : Nat} {xs : Nat → Int32} {dep : Nat} : ia (tb_G L xs) dep J_HBars_init (fun v M1 => v = none ∧ M1 = mm_79) (0, lv_args 0 [.ref 31], [], mm_67) := by
  have hS : im_St (tb_G L xs) dep J_HBars_init (ia (tb_G L xs) dep J_HBars_init (fun v M1 => v = none ∧ M1 = mm_79)) := ia_St
  have h0 : im_lk (lv_args 0 [.ref 31]) 0 = some (.ref 31) := rfl
  refine iq_aload_n hS 1 J_HBars_init_d0 h0 rfl ?_
  refine iq_oinit hS 4 J_HBars_init_d1 lo_0_3 (Nat.le_of_ble_eq_true rfl) rfl ?_
  refine iq_aload_n hS 5 J_HBars_init_d4 h0 rfl ?_
  refine iq_sipush hS 8 J_HBars_init_d5 (v := 512) (by decide +kernel) rfl ?_
  refine iq_newa hS 10 J_HBars_init_d8 (N := 512) rfl (by decide) (by decide) (by decide) (by decide) (by decide) rfl ?_
  change ia _ _ _ _ (_, _, .ref 32 :: _, mm_68)
  refine iq_putR hS 13 J_HBars_init_d10 lf_0_11 (Or.inr ⟨rfl, rfl⟩) (Or.inr ⟨_, rfl⟩) ⟨by decide, rfl⟩ rfl ?_
  change ia _ _ _ _ (_, _, _, mm_69)
  refine iq_aload_n hS 14 J_HBars_init_d13 h0 rfl ?_
  refine iq_sipush hS 17 J_HBars_init_d14 (v := 900) (by decide +kernel) rfl ?_
  refine iq_newa hS 19 J_HBars_init_d17 (N := 900) rfl (by decide) (by decide) (by decide) (by decide) (by decide) rfl ?_
  change ia _ _ _ _ (_, _, .ref 33 :: _, mm_70)
  refine iq_putR hS 22 J_HBars_init_d19 lf_0_17 (Or.inr ⟨rfl, rfl⟩) (Or.inr ⟨_, rfl⟩) ⟨by decide, rfl⟩ rfl ?_
  change ia _ _ _ _ (_, _, _, mm_71)
  refine iq_aload_n hS 23 J_HBars_init_d22 h0 rfl ?_
  refine iq_bipush hS 25 J_HBars_init_d23 (v := 65) (by decide +kernel) rfl ?_
  refine iq_newa hS 27 J_HBars_init_d25 (N := 65) rfl (by decide) (by decide) (by decide) (by decide) (by decide) rfl ?_
  change ia _ _ _ _ (_, _, .ref 34 :: _, mm_72)
  refine iq_putR hS 30 J_HBars_init_d27 lf_0_20 (Or.inr ⟨rfl, rfl⟩) (Or.inr ⟨_, rfl⟩) ⟨by decide, rfl⟩ rfl ?_
  change ia _ _ _ _ (_, _, _, mm_73)
  refine iq_aload_n hS 31 J_HBars_init_d30 h0 rfl ?_
  refine iq_sipush hS 34 J_HBars_init_d31 (v := 198) (by decide +kernel) rfl ?_
  refine iq_newa hS 36 J_HBars_init_d34 (N := 198) rfl (by decide) (by decide) (by decide) (by decide) (by decide) rfl ?_
  change ia _ _ _ _ (_, _, .ref 35 :: _, mm_74)
  refine iq_putR hS 39 J_HBars_init_d36 lf_0_23 (Or.inr ⟨rfl, rfl⟩) (Or.inr ⟨_, rfl⟩) ⟨by decide, rfl⟩ rfl ?_
  change ia _ _ _ _ (_, _, _, mm_75)
  refine iq_aload_n hS 40 J_HBars_init_d39 h0 rfl ?_
  refine iq_sipush hS 43 J_HBars_init_d40 (v := 140) (by decide +kernel) rfl ?_
  refine iq_newa hS 45 J_HBars_init_d43 (N := 140) rfl (by decide) (by decide) (by decide) (by decide) (by decide) rfl ?_
  change ia _ _ _ _ (_, _, .ref 36 :: _, mm_76)
  refine iq_putR hS 48 J_HBars_init_d45 lf_0_26 (Or.inr ⟨rfl, rfl⟩) (Or.inr ⟨_, rfl⟩) ⟨by decide, rfl⟩ rfl ?_
  change ia _ _ _ _ (_, _, _, mm_77)
  refine iq_aload_n hS 49 J_HBars_init_d48 h0 rfl ?_
  refine iq_bipush hS 51 J_HBars_init_d49 (v := 13) (by decide +kernel) rfl ?_
  refine iq_newa hS 53 J_HBars_init_d51 (N := 13) rfl (by decide) (by decide) (by decide) (by decide) (by decide) rfl ?_
  change ia _ _ _ _ (_, _, .ref 37 :: _, mm_78)
  refine iq_putR hS 56 J_HBars_init_d53 lf_0_29 (Or.inr ⟨rfl, rfl⟩) (Or.inr ⟨_, rfl⟩) ⟨by decide, rfl⟩ rfl ?_
  change ia _ _ _ _ (_, _, _, mm_79)
  exact iq_ret J_HBars_init_d56 rfl ⟨rfl, rfl⟩
theorem J_HSegments_init_d0 : decode J_HSegments_init.2.1 0 = .ok (.aload_n 0, 1) := by decide +kernel
theorem J_HSegments_init_d1 : decode J_HSegments_init.2.1 1 = .ok (.invokespecial 3, 3) := by decide +kernel
theorem J_HSegments_init_d4 : decode J_HSegments_init.2.1 4 = .ok (.aload_n 0, 1) := by decide +kernel
theorem J_HSegments_init_d5 : decode J_HSegments_init.2.1 5 = .ok (.sipush 2956, 3) := by decide +kernel
theorem J_HSegments_init_d8 : decode J_HSegments_init.2.1 8 = .ok (.newarray .byte, 2) := by decide +kernel
theorem J_HSegments_init_d10 : decode J_HSegments_init.2.1 10 = .ok (.putfield 11, 3) := by decide +kernel
theorem J_HSegments_init_d13 : decode J_HSegments_init.2.1 13 = .ok (.aload_n 0, 1) := by decide +kernel
theorem J_HSegments_init_d14 : decode J_HSegments_init.2.1 14 = .ok (.sipush 1407, 3) := by decide +kernel
theorem J_HSegments_init_d17 : decode J_HSegments_init.2.1 17 = .ok (.newarray .int, 2) := by decide +kernel
theorem J_HSegments_init_d19 : decode J_HSegments_init.2.1 19 = .ok (.putfield 17, 3) := by decide +kernel
theorem J_HSegments_init_d22 : decode J_HSegments_init.2.1 22 = .ok (.aload_n 0, 1) := by decide +kernel
theorem J_HSegments_init_d23 : decode J_HSegments_init.2.1 23 = .ok (.sipush 200, 3) := by decide +kernel
theorem J_HSegments_init_d26 : decode J_HSegments_init.2.1 26 = .ok (.newarray .byte, 2) := by decide +kernel
theorem J_HSegments_init_d28 : decode J_HSegments_init.2.1 28 = .ok (.putfield 21, 3) := by decide +kernel
theorem J_HSegments_init_d31 : decode J_HSegments_init.2.1 31 = .ok (.return_, 1) := by decide +kernel
set_option maxRecDepth 20000 in
set_option maxHeartbeats 40000000 in
theorem cs_7 {L : Nat} {xs : Nat → Int32} {dep : Nat} : ia (tb_G L xs) dep J_HSegments_init (fun v M1 => v = none ∧ M1 = mm_88) (0, lv_args 0 [.ref 39], [], mm_82) := by
  have hS : im_St (tb_G L xs) dep J_HSegments_init (ia (tb_G L xs) dep J_HSegments_init (fun v M1 => v = none ∧ M1 = mm_88)) := ia_St
  have h0 : im_lk (lv_args 0 [.ref 39]) 0 = some (.ref 39) := rfl
  refine iq_aload_n hS 1 J_HSegments_init_d0 h0 rfl ?_
  refine iq_oinit hS 4 J_HSegments_init_d1 lo_7_3 (Nat.le_of_ble_eq_true rfl) rfl ?_
  refine iq_aload_n hS 5 J_HSegments_init_d4 h0 rfl ?_
  refine iq_sipush hS 8 J_HSegments_init_d5 (v := 2956) (by decide +kernel) rfl ?_
  refine iq_newa hS 10 J_HSegments_init_d8 (N := 2956) rfl (by decide) (by decide) (by decide) (by decide) (by decide) rfl ?_
  change ia _ _ _ _ (_, _, .ref 40 :: _, mm_83)
  refine iq_putR hS 13 J_HSegments_init_d10 lf_7_11 (Or.inr ⟨rfl, rfl⟩) (Or.inr ⟨_, rfl⟩) ⟨by decide, rfl⟩ rfl ?_
  change ia _ _ _ _ (_, _, _, mm_84)
  refine iq_aload_n hS 14 J_HSegments_init_d13 h0 rfl ?_
  refine iq_sipush hS 17 J_HSegments_init_d14 (v := 1407) (by decide +kernel) rfl ?_
  refine iq_newa hS 19 J_HSegments_init_d17 (N := 1407) rfl (by decide) (by decide) (by decide) (by decide) (by decide) rfl ?_
  change ia _ _ _ _ (_, _, .ref 41 :: _, mm_85)
  refine iq_putR hS 22 J_HSegments_init_d19 lf_7_17 (Or.inr ⟨rfl, rfl⟩) (Or.inr ⟨_, rfl⟩) ⟨by decide, rfl⟩ rfl ?_
  change ia _ _ _ _ (_, _, _, mm_86)
  refine iq_aload_n hS 23 J_HSegments_init_d22 h0 rfl ?_
  refine iq_sipush hS 26 J_HSegments_init_d23 (v := 200) (by decide +kernel) rfl ?_
  refine iq_newa hS 28 J_HSegments_init_d26 (N := 200) rfl (by decide) (by decide) (by decide) (by decide) (by decide) rfl ?_
  change ia _ _ _ _ (_, _, .ref 42 :: _, mm_87)
  refine iq_putR hS 31 J_HSegments_init_d28 lf_7_21 (Or.inr ⟨rfl, rfl⟩) (Or.inr ⟨_, rfl⟩) ⟨by decide, rfl⟩ rfl ?_
  change ia _ _ _ _ (_, _, _, mm_88)
  exact iq_ret J_HSegments_init_d31 rfl ⟨rfl, rfl⟩
theorem J_HBlocks_init_d0 : decode J_HBlocks_init.2.1 0 = .ok (.aload_n 0, 1) := by decide +kernel
theorem J_HBlocks_init_d1 : decode J_HBlocks_init.2.1 1 = .ok (.invokespecial 3, 3) := by decide +kernel
theorem J_HBlocks_init_d4 : decode J_HBlocks_init.2.1 4 = .ok (.aload_n 0, 1) := by decide +kernel
theorem J_HBlocks_init_d5 : decode J_HBlocks_init.2.1 5 = .ok (.sipush 3706, 3) := by decide +kernel
theorem J_HBlocks_init_d8 : decode J_HBlocks_init.2.1 8 = .ok (.newarray .byte, 2) := by decide +kernel
theorem J_HBlocks_init_d10 : decode J_HBlocks_init.2.1 10 = .ok (.putfield 11, 3) := by decide +kernel
theorem J_HBlocks_init_d13 : decode J_HBlocks_init.2.1 13 = .ok (.aload_n 0, 1) := by decide +kernel
theorem J_HBlocks_init_d14 : decode J_HBlocks_init.2.1 14 = .ok (.sipush 510, 3) := by decide +kernel
theorem J_HBlocks_init_d17 : decode J_HBlocks_init.2.1 17 = .ok (.newarray .int, 2) := by decide +kernel
theorem J_HBlocks_init_d19 : decode J_HBlocks_init.2.1 19 = .ok (.putfield 15, 3) := by decide +kernel
theorem J_HBlocks_init_d22 : decode J_HBlocks_init.2.1 22 = .ok (.aload_n 0, 1) := by decide +kernel
theorem J_HBlocks_init_d23 : decode J_HBlocks_init.2.1 23 = .ok (.sipush 256, 3) := by decide +kernel
theorem J_HBlocks_init_d26 : decode J_HBlocks_init.2.1 26 = .ok (.newarray .int, 2) := by decide +kernel
theorem J_HBlocks_init_d28 : decode J_HBlocks_init.2.1 28 = .ok (.putfield 19, 3) := by decide +kernel
theorem J_HBlocks_init_d31 : decode J_HBlocks_init.2.1 31 = .ok (.aload_n 0, 1) := by decide +kernel
theorem J_HBlocks_init_d32 : decode J_HBlocks_init.2.1 32 = .ok (.bipush 31, 2) := by decide +kernel
theorem J_HBlocks_init_d34 : decode J_HBlocks_init.2.1 34 = .ok (.newarray .int, 2) := by decide +kernel
theorem J_HBlocks_init_d36 : decode J_HBlocks_init.2.1 36 = .ok (.putfield 22, 3) := by decide +kernel
theorem J_HBlocks_init_d39 : decode J_HBlocks_init.2.1 39 = .ok (.aload_n 0, 1) := by decide +kernel
theorem J_HBlocks_init_d40 : decode J_HBlocks_init.2.1 40 = .ok (.sipush 255, 3) := by decide +kernel
theorem J_HBlocks_init_d43 : decode J_HBlocks_init.2.1 43 = .ok (.newarray .int, 2) := by decide +kernel
theorem J_HBlocks_init_d45 : decode J_HBlocks_init.2.1 45 = .ok (.putfield 25, 3) := by decide +kernel
theorem J_HBlocks_init_d48 : decode J_HBlocks_init.2.1 48 = .ok (.aload_n 0, 1) := by decide +kernel
theorem J_HBlocks_init_d49 : decode J_HBlocks_init.2.1 49 = .ok (.bipush 30, 2) := by decide +kernel
theorem J_HBlocks_init_d51 : decode J_HBlocks_init.2.1 51 = .ok (.newarray .int, 2) := by decide +kernel
theorem J_HBlocks_init_d53 : decode J_HBlocks_init.2.1 53 = .ok (.putfield 28, 3) := by decide +kernel
theorem J_HBlocks_init_d56 : decode J_HBlocks_init.2.1 56 = .ok (.aload_n 0, 1) := by decide +kernel
theorem J_HBlocks_init_d57 : decode J_HBlocks_init.2.1 57 = .ok (.bipush 31, 2) := by decide +kernel
theorem J_HBlocks_init_d59 : decode J_HBlocks_init.2.1 59 = .ok (.newarray .int, 2) := by decide +kernel
theorem J_HBlocks_init_d61 : decode J_HBlocks_init.2.1 61 = .ok (.putfield 31, 3) := by decide +kernel
theorem J_HBlocks_init_d64 : decode J_HBlocks_init.2.1 64 = .ok (.aload_n 0, 1) := by decide +kernel
theorem J_HBlocks_init_d65 : decode J_HBlocks_init.2.1 65 = .ok (.bipush 31, 2) := by decide +kernel
theorem J_HBlocks_init_d67 : decode J_HBlocks_init.2.1 67 = .ok (.newarray .int, 2) := by decide +kernel
theorem J_HBlocks_init_d69 : decode J_HBlocks_init.2.1 69 = .ok (.putfield 34, 3) := by decide +kernel
theorem J_HBlocks_init_d72 : decode J_HBlocks_init.2.1 72 = .ok (.aload_n 0, 1) := by decide +kernel
theorem J_HBlocks_init_d73 : decode J_HBlocks_init.2.1 73 = .ok (.bipush 31, 2) := by decide +kernel
theorem J_HBlocks_init_d75 : decode J_HBlocks_init.2.1 75 = .ok (.newarray .int, 2) := by decide +kernel
theorem J_HBlocks_init_d77 : decode J_HBlocks_init.2.1 77 = .ok (.putfield 37, 3) := by decide +kernel
theorem J_HBlocks_init_d80 : decode J_HBlocks_init.2.1 80 = .ok (.aload_n 0, 1) := by decide +kernel
theorem J_HBlocks_init_d81 : decode J_HBlocks_init.2.1 81 = .ok (.bipush 30, 2) := by decide +kernel
theorem J_HBlocks_init_d83 : decode J_HBlocks_init.2.1 83 = .ok (.newarray .int, 2) := by decide +kernel
theorem J_HBlocks_init_d85 : decode J_HBlocks_init.2.1 85 = .ok (.putfield 40, 3) := by decide +kernel
theorem J_HBlocks_init_d88 : decode J_HBlocks_init.2.1 88 = .ok (.iconst 1, 1) := by decide +kernel
theorem J_HBlocks_init_d89 : decode J_HBlocks_init.2.1 89 = .ok (.istore_n 1, 1) := by decide +kernel
theorem J_HBlocks_init_d90 : decode J_HBlocks_init.2.1 90 = .ok (.iconst 0, 1) := by decide +kernel
theorem J_HBlocks_init_d91 : decode J_HBlocks_init.2.1 91 = .ok (.istore_n 2, 1) := by decide +kernel
theorem J_HBlocks_init_d92 : decode J_HBlocks_init.2.1 92 = .ok (.iload_n 2, 1) := by decide +kernel
theorem J_HBlocks_init_d93 : decode J_HBlocks_init.2.1 93 = .ok (.sipush 510, 3) := by decide +kernel
theorem J_HBlocks_init_d96 : decode J_HBlocks_init.2.1 96 = .ok (.if_icmp .ge 47, 3) := by decide +kernel
theorem J_HBlocks_init_d99 : decode J_HBlocks_init.2.1 99 = .ok (.aload_n 0, 1) := by decide +kernel
theorem J_HBlocks_init_d100 : decode J_HBlocks_init.2.1 100 = .ok (.getfield 15, 3) := by decide +kernel
theorem J_HBlocks_init_d103 : decode J_HBlocks_init.2.1 103 = .ok (.iload_n 2, 1) := by decide +kernel
theorem J_HBlocks_init_d104 : decode J_HBlocks_init.2.1 104 = .ok (.iload_n 1, 1) := by decide +kernel
theorem J_HBlocks_init_d105 : decode J_HBlocks_init.2.1 105 = .ok (.iastore, 1) := by decide +kernel
theorem J_HBlocks_init_d106 : decode J_HBlocks_init.2.1 106 = .ok (.iload_n 2, 1) := by decide +kernel
theorem J_HBlocks_init_d107 : decode J_HBlocks_init.2.1 107 = .ok (.sipush 255, 3) := by decide +kernel
theorem J_HBlocks_init_d110 : decode J_HBlocks_init.2.1 110 = .ok (.if_icmp .ge 10, 3) := by decide +kernel
theorem J_HBlocks_init_d113 : decode J_HBlocks_init.2.1 113 = .ok (.aload_n 0, 1) := by decide +kernel
theorem J_HBlocks_init_d114 : decode J_HBlocks_init.2.1 114 = .ok (.getfield 19, 3) := by decide +kernel
theorem J_HBlocks_init_d117 : decode J_HBlocks_init.2.1 117 = .ok (.iload_n 1, 1) := by decide +kernel
theorem J_HBlocks_init_d118 : decode J_HBlocks_init.2.1 118 = .ok (.iload_n 2, 1) := by decide +kernel
theorem J_HBlocks_init_d119 : decode J_HBlocks_init.2.1 119 = .ok (.iastore, 1) := by decide +kernel
theorem J_HBlocks_init_d120 : decode J_HBlocks_init.2.1 120 = .ok (.iload_n 1, 1) := by decide +kernel
theorem J_HBlocks_init_d121 : decode J_HBlocks_init.2.1 121 = .ok (.iconst 1, 1) := by decide +kernel
theorem J_HBlocks_init_d122 : decode J_HBlocks_init.2.1 122 = .ok (.ishl, 1) := by decide +kernel
theorem J_HBlocks_init_d123 : decode J_HBlocks_init.2.1 123 = .ok (.istore_n 1, 1) := by decide +kernel
theorem J_HBlocks_init_d124 : decode J_HBlocks_init.2.1 124 = .ok (.iload_n 1, 1) := by decide +kernel
theorem J_HBlocks_init_d125 : decode J_HBlocks_init.2.1 125 = .ok (.sipush 255, 3) := by decide +kernel
theorem J_HBlocks_init_d128 : decode J_HBlocks_init.2.1 128 = .ok (.if_icmp .le 9, 3) := by decide +kernel
theorem J_HBlocks_init_d131 : decode J_HBlocks_init.2.1 131 = .ok (.iload_n 1, 1) := by decide +kernel
theorem J_HBlocks_init_d132 : decode J_HBlocks_init.2.1 132 = .ok (.sipush 285, 3) := by decide +kernel
theorem J_HBlocks_init_d135 : decode J_HBlocks_init.2.1 135 = .ok (.ixor, 1) := by decide +kernel
theorem J_HBlocks_init_d136 : decode J_HBlocks_init.2.1 136 = .ok (.istore_n 1, 1) := by decide +kernel
theorem J_HBlocks_init_d137 : decode J_HBlocks_init.2.1 137 = .ok (.iinc 2 1, 3) := by decide +kernel
theorem J_HBlocks_init_d140 : decode J_HBlocks_init.2.1 140 = .ok (.goto (-48), 3) := by decide +kernel
theorem J_HBlocks_init_d143 : decode J_HBlocks_init.2.1 143 = .ok (.return_, 1) := by decide +kernel
theorem bl_v_ok : ∀ k, k < 511 → 0 ≤ (bl_v k).toInt ∧ (bl_v k).toInt < 256 := by decide +kernel
set_option maxRecDepth 20000 in
theorem bl_tail {L : Nat} {xs : Nat → Int32} {dep k : Nat} {Lc : List (Nat × Value)} (h0 : im_lk Lc 0 = some (.ref 43)) (h1 : im_lk Lc 1 = some (.int (bl_v k))) (h2 : im_lk Lc 2 = some (.int (nI k))) (ih : ∀ Lc, im_lk Lc 0 = some (.ref 43) → im_lk Lc 1 = some (.int (bl_v (k + 1))) → im_lk Lc 2 = some (.int (nI (k + 1))) → ia (tb_G L xs) dep J_HBlocks_init (fun v M1 => v = none ∧ M1 = mm_111) (92, Lc, [], bl_M (k + 1))) : ia (tb_G L xs) dep J_HBlocks_init (fun v M1 => v = none ∧ M1 = mm_111) (120, Lc, [], bl_M (k + 1)) := by
  have hS : im_St (tb_G L xs) dep J_HBlocks_init (ia (tb_G L xs) dep J_HBlocks_init (fun v M1 => v = none ∧ M1 = mm_111)) := ia_St
  have e1 : nI k + Int32.ofInt 1 = nI (k + 1) := nI_1 k
  refine iq_iload_n hS 121 J_HBlocks_init_d120 h1 rfl ?_
  refine iq_iconst hS 122 J_HBlocks_init_d121 (v := 1) (by decide +kernel) rfl ?_
  refine iq_ishl hS 123 J_HBlocks_init_d122 rfl ?_
  refine iq_istore_n hS 124 J_HBlocks_init_d123 (by decide) rfl ?_
  refine iq_iload_n hS 125 J_HBlocks_init_d124 lk_1s rfl ?_
  refine iq_sipush hS 128 J_HBlocks_init_d125 (v := 255) (by decide +kernel) rfl ?_
  refine iq_icmp_le hS 131 J_HBlocks_init_d128 (t := 137) rfl (fun q => ?_) rfl (fun q => ?_)
  · have e9 : bl_v (k + 1) = bl_v k <<< ((1 : Int32) &&& 31) := if_neg (Int32.not_lt.mpr q)
    refine iq_iinc hS 140 J_HBlocks_init_d137 (lk_1i h2 (by decide)) (by decide) rfl ?_
    refine iq_goto hS J_HBlocks_init_d140 (t := 92) rfl ?_
    refine ih _ (lk_1r (lk_1r h0 (by decide)) (by decide)) ?_ ?_
    · rw [e9]; exact lk_1i lk_1s (by decide)
    · rw [← e1]; exact lk_1s
  · have e9 : bl_v (k + 1) = (bl_v k <<< ((1 : Int32) &&& 31)) ^^^ 285 := if_pos (Int32.not_le.mp q)
    refine iq_iload_n hS 132 J_HBlocks_init_d131 lk_1s rfl ?_
    refine iq_sipush hS 135 J_HBlocks_init_d132 (v := 285) (by decide +kernel) rfl ?_
    refine iq_ixor hS 136 J_HBlocks_init_d135 rfl ?_
    refine iq_istore_n hS 137 J_HBlocks_init_d136 (by decide) rfl ?_
    refine iq_iinc hS 140 J_HBlocks_init_d137 (lk_1i (lk_1i h2 (by decide)) (by decide)) (by decide) rfl ?_
    refine iq_goto hS J_HBlocks_init_d140 (t := 92) rfl ?_
    refine ih _ (lk_1r (lk_1r (lk_1r h0 (by decide)) (by decide)) (by decide)) ?_ ?_
    · rw [e9]; exact lk_1i lk_1s (by decide)
    · rw [← e1]; exact lk_1s
theorem bl_end : bl_M 510 = mm_111 := by delta bl_M mm_111 mv_i58; with_reducible rfl
set_option maxRecDepth 20000 in
theorem bl_loop {L : Nat} {xs : Nat → Int32} {dep : Nat} : ∀ (j k : Nat), k + j = 510 → ∀ Lc : List (Nat × Value), im_lk Lc 0 = some (.ref 43) → im_lk Lc 1 = some (.int (bl_v k)) → im_lk Lc 2 = some (.int (nI k)) → ia (tb_G L xs) dep J_HBlocks_init (fun v M1 => v = none ∧ M1 = mm_111) (92, Lc, [], bl_M k) := by
  have hS : im_St (tb_G L xs) dep J_HBlocks_init (ia (tb_G L xs) dep J_HBlocks_init (fun v M1 => v = none ∧ M1 = mm_111)) := ia_St
  intro j
  induction j with
  | zero =>
    intro k hk Lc h0 h1 h2
    have hk : k = 510 := hk
    subst hk
    refine iq_iload_n hS 93 J_HBlocks_init_d92 h2 rfl ?_
    refine iq_sipush hS 96 J_HBlocks_init_d93 (v := 510) (by decide +kernel) rfl ?_
    refine iq_icmp_ge hS 99 J_HBlocks_init_d96 (t := 143) rfl (fun q => ?_) rfl (fun q => absurd (by decide +kernel) q)
    exact iq_ret J_HBlocks_init_d143 rfl ⟨rfl, bl_end⟩
  | succ j ih =>
    intro k hk Lc h0 h1 h2
    have hk5 : k < 510 := by omega
    have hb := bl_v_ok k (by omega)
    refine iq_iload_n hS 93 J_HBlocks_init_d92 h2 rfl ?_
    refine iq_sipush hS 96 J_HBlocks_init_d93 (v := nI 510) (by decide +kernel) rfl ?_
    refine iq_icmp_ge hS 99 J_HBlocks_init_d96 (t := 143) rfl (fun q => absurd q (nI_ge hk5 (by decide))) rfl (fun _ => ?_)
    refine iq_aload_n hS 100 J_HBlocks_init_d99 h0 rfl ?_
    refine iq_getR hS 103 J_HBlocks_init_d100 lf_1_15 (Or.inr ⟨_, rfl⟩) ⟨(show 43 < 54 from by decide), rfl⟩ (b := 45) rfl rfl ?_
    refine iq_iload_n hS 104 J_HBlocks_init_d103 h2 rfl ?_
    refine iq_iload_n hS 105 J_HBlocks_init_d104 h1 rfl ?_
    refine iq_iastore hS 106 J_HBlocks_init_d105 ⟨(show 45 < 54 from by decide), rfl, by rw [nI_toInt (by omega)]; omega, by rw [nI_toInt (by omega)]; show (k : Int) < ((510 : Nat) : Int); omega⟩ rfl ?_
    rw [nI_clamp (by omega)]
    refine iq_iload_n hS 107 J_HBlocks_init_d106 h2 rfl ?_
    refine iq_sipush hS 110 J_HBlocks_init_d107 (v := nI 255) (by decide +kernel) rfl ?_
    refine iq_icmp_ge hS 113 J_HBlocks_init_d110 (t := 120) rfl (fun q => ?_) rfl (fun q => ?_)
    · have hn : ¬ k < 255 := fun z => nI_ge z (by decide) q
      have e : im_setI (bl_M k) 45 k (bl_v k) = bl_M (k + 1) := by
        show (_, true, _, im_u2 (bl_i k) 45 k (bl_v k), _, _) = (_, true, _, bl_i (k + 1), _, _)
        rw [show bl_i (k + 1) = im_u2 (bl_i k) 45 k (bl_v k) from if_neg hn]
        rfl
      rw [e]
      exact bl_tail h0 h1 h2 (fun Lc => ih (k + 1) (by omega) Lc)
    · have hn : k < 255 := by
        rcases Nat.lt_or_ge k 255 with z | z
        · exact z
        · exact absurd (nI_le z (by omega)) q
      refine iq_aload_n hS 114 J_HBlocks_init_d113 h0 rfl ?_
      refine iq_getR hS 117 J_HBlocks_init_d114 lf_1_19 (Or.inr ⟨_, rfl⟩) ⟨(show 43 < 54 from by decide), rfl⟩ (b := 46) rfl rfl ?_
      refine iq_iload_n hS 118 J_HBlocks_init_d117 h1 rfl ?_
      refine iq_iload_n hS 119 J_HBlocks_init_d118 h2 rfl ?_
      refine iq_iastore hS 120 J_HBlocks_init_d119 ⟨(show 46 < 54 from by decide), rfl, hb.1, hb.2⟩ rfl ?_
      have e : im_setI (im_setI (bl_M k) 45 k (bl_v k)) 46 (bl_v k).toNatClampNeg (nI k) = bl_M (k + 1) := by
        show (_, true, _, im_u2 (im_u2 (bl_i k) 45 k (bl_v k)) 46 (bl_v k).toNatClampNeg (nI k), _, _) = (_, true, _, bl_i (k + 1), _, _)
        rw [show bl_i (k + 1) = im_u2 (im_u2 (bl_i k) 45 k (bl_v k)) 46 (bl_v k).toNatClampNeg (nI k) from if_pos hn]
        rfl
      rw [e]
      exact bl_tail h0 h1 h2 (fun Lc => ih (k + 1) (by omega) Lc)
set_option maxRecDepth 20000 in
set_option maxHeartbeats 40000000 in
theorem cs_8 {L : Nat} {xs : Nat → Int32} {dep : Nat} : ia (tb_G L xs) dep J_HBlocks_init (fun v M1 => v = none ∧ M1 = mm_111) (0, lv_args 0 [.ref 43], [], mm_90) := by
  have hS : im_St (tb_G L xs) dep J_HBlocks_init (ia (tb_G L xs) dep J_HBlocks_init (fun v M1 => v = none ∧ M1 = mm_111)) := ia_St
  have h0 : im_lk (lv_args 0 [.ref 43]) 0 = some (.ref 43) := rfl
  refine iq_aload_n hS 1 J_HBlocks_init_d0 h0 rfl ?_
  refine iq_oinit hS 4 J_HBlocks_init_d1 lo_1_3 (Nat.le_of_ble_eq_true rfl) rfl ?_
  refine iq_aload_n hS 5 J_HBlocks_init_d4 h0 rfl ?_
  refine iq_sipush hS 8 J_HBlocks_init_d5 (v := 3706) (by decide +kernel) rfl ?_
  refine iq_newa hS 10 J_HBlocks_init_d8 (N := 3706) rfl (by decide) (by decide) (by decide) (by decide) (by decide) rfl ?_
  change ia _ _ _ _ (_, _, .ref 44 :: _, mm_91)
  refine iq_putR hS 13 J_HBlocks_init_d10 lf_1_11 (Or.inr ⟨rfl, rfl⟩) (Or.inr ⟨_, rfl⟩) ⟨by decide, rfl⟩ rfl ?_
  change ia _ _ _ _ (_, _, _, mm_92)
  refine iq_aload_n hS 14 J_HBlocks_init_d13 h0 rfl ?_
  refine iq_sipush hS 17 J_HBlocks_init_d14 (v := 510) (by decide +kernel) rfl ?_
  refine iq_newa hS 19 J_HBlocks_init_d17 (N := 510) rfl (by decide) (by decide) (by decide) (by decide) (by decide) rfl ?_
  change ia _ _ _ _ (_, _, .ref 45 :: _, mm_93)
  refine iq_putR hS 22 J_HBlocks_init_d19 lf_1_15 (Or.inr ⟨rfl, rfl⟩) (Or.inr ⟨_, rfl⟩) ⟨by decide, rfl⟩ rfl ?_
  change ia _ _ _ _ (_, _, _, mm_94)
  refine iq_aload_n hS 23 J_HBlocks_init_d22 h0 rfl ?_
  refine iq_sipush hS 26 J_HBlocks_init_d23 (v := 256) (by decide +kernel) rfl ?_
  refine iq_newa hS 28 J_HBlocks_init_d26 (N := 256) rfl (by decide) (by decide) (by decide) (by decide) (by decide) rfl ?_
  change ia _ _ _ _ (_, _, .ref 46 :: _, mm_95)
  refine iq_putR hS 31 J_HBlocks_init_d28 lf_1_19 (Or.inr ⟨rfl, rfl⟩) (Or.inr ⟨_, rfl⟩) ⟨by decide, rfl⟩ rfl ?_
  change ia _ _ _ _ (_, _, _, mm_96)
  refine iq_aload_n hS 32 J_HBlocks_init_d31 h0 rfl ?_
  refine iq_bipush hS 34 J_HBlocks_init_d32 (v := 31) (by decide +kernel) rfl ?_
  refine iq_newa hS 36 J_HBlocks_init_d34 (N := 31) rfl (by decide) (by decide) (by decide) (by decide) (by decide) rfl ?_
  change ia _ _ _ _ (_, _, .ref 47 :: _, mm_97)
  refine iq_putR hS 39 J_HBlocks_init_d36 lf_1_22 (Or.inr ⟨rfl, rfl⟩) (Or.inr ⟨_, rfl⟩) ⟨by decide, rfl⟩ rfl ?_
  change ia _ _ _ _ (_, _, _, mm_98)
  refine iq_aload_n hS 40 J_HBlocks_init_d39 h0 rfl ?_
  refine iq_sipush hS 43 J_HBlocks_init_d40 (v := 255) (by decide +kernel) rfl ?_
  refine iq_newa hS 45 J_HBlocks_init_d43 (N := 255) rfl (by decide) (by decide) (by decide) (by decide) (by decide) rfl ?_
  change ia _ _ _ _ (_, _, .ref 48 :: _, mm_99)
  refine iq_putR hS 48 J_HBlocks_init_d45 lf_1_25 (Or.inr ⟨rfl, rfl⟩) (Or.inr ⟨_, rfl⟩) ⟨by decide, rfl⟩ rfl ?_
  change ia _ _ _ _ (_, _, _, mm_100)
  refine iq_aload_n hS 49 J_HBlocks_init_d48 h0 rfl ?_
  refine iq_bipush hS 51 J_HBlocks_init_d49 (v := 30) (by decide +kernel) rfl ?_
  refine iq_newa hS 53 J_HBlocks_init_d51 (N := 30) rfl (by decide) (by decide) (by decide) (by decide) (by decide) rfl ?_
  change ia _ _ _ _ (_, _, .ref 49 :: _, mm_101)
  refine iq_putR hS 56 J_HBlocks_init_d53 lf_1_28 (Or.inr ⟨rfl, rfl⟩) (Or.inr ⟨_, rfl⟩) ⟨by decide, rfl⟩ rfl ?_
  change ia _ _ _ _ (_, _, _, mm_102)
  refine iq_aload_n hS 57 J_HBlocks_init_d56 h0 rfl ?_
  refine iq_bipush hS 59 J_HBlocks_init_d57 (v := 31) (by decide +kernel) rfl ?_
  refine iq_newa hS 61 J_HBlocks_init_d59 (N := 31) rfl (by decide) (by decide) (by decide) (by decide) (by decide) rfl ?_
  change ia _ _ _ _ (_, _, .ref 50 :: _, mm_103)
  refine iq_putR hS 64 J_HBlocks_init_d61 lf_1_31 (Or.inr ⟨rfl, rfl⟩) (Or.inr ⟨_, rfl⟩) ⟨by decide, rfl⟩ rfl ?_
  change ia _ _ _ _ (_, _, _, mm_104)
  refine iq_aload_n hS 65 J_HBlocks_init_d64 h0 rfl ?_
  refine iq_bipush hS 67 J_HBlocks_init_d65 (v := 31) (by decide +kernel) rfl ?_
  refine iq_newa hS 69 J_HBlocks_init_d67 (N := 31) rfl (by decide) (by decide) (by decide) (by decide) (by decide) rfl ?_
  change ia _ _ _ _ (_, _, .ref 51 :: _, mm_105)
  refine iq_putR hS 72 J_HBlocks_init_d69 lf_1_34 (Or.inr ⟨rfl, rfl⟩) (Or.inr ⟨_, rfl⟩) ⟨by decide, rfl⟩ rfl ?_
  change ia _ _ _ _ (_, _, _, mm_106)
  refine iq_aload_n hS 73 J_HBlocks_init_d72 h0 rfl ?_
  refine iq_bipush hS 75 J_HBlocks_init_d73 (v := 31) (by decide +kernel) rfl ?_
  refine iq_newa hS 77 J_HBlocks_init_d75 (N := 31) rfl (by decide) (by decide) (by decide) (by decide) (by decide) rfl ?_
  change ia _ _ _ _ (_, _, .ref 52 :: _, mm_107)
  refine iq_putR hS 80 J_HBlocks_init_d77 lf_1_37 (Or.inr ⟨rfl, rfl⟩) (Or.inr ⟨_, rfl⟩) ⟨by decide, rfl⟩ rfl ?_
  change ia _ _ _ _ (_, _, _, mm_108)
  refine iq_aload_n hS 81 J_HBlocks_init_d80 h0 rfl ?_
  refine iq_bipush hS 83 J_HBlocks_init_d81 (v := 30) (by decide +kernel) rfl ?_
  refine iq_newa hS 85 J_HBlocks_init_d83 (N := 30) rfl (by decide) (by decide) (by decide) (by decide) (by decide) rfl ?_
  change ia _ _ _ _ (_, _, .ref 53 :: _, mm_109)
  refine iq_putR hS 88 J_HBlocks_init_d85 lf_1_40 (Or.inr ⟨rfl, rfl⟩) (Or.inr ⟨_, rfl⟩) ⟨by decide, rfl⟩ rfl ?_
  change ia _ _ _ _ (_, _, _, mm_110)
  refine iq_iconst hS 89 J_HBlocks_init_d88 (v := 1) (by decide +kernel) rfl ?_
  refine iq_istore_n hS 90 J_HBlocks_init_d89 (by decide) rfl ?_
  refine iq_iconst hS 91 J_HBlocks_init_d90 (v := 0) (by decide +kernel) rfl ?_
  refine iq_istore_n hS 92 J_HBlocks_init_d91 (by decide) rfl ?_
  exact bl_loop 510 0 rfl _ (lk_1r (lk_1r h0 (by decide)) (by decide)) (lk_1i lk_1s (by decide)) lk_1s
theorem J_HGrid_init_d0 : decode J_HGrid_init.2.1 0 = .ok (.aload_n 0, 1) := by decide +kernel
theorem J_HGrid_init_d1 : decode J_HGrid_init.2.1 1 = .ok (.invokespecial 3, 3) := by decide +kernel
theorem J_HGrid_init_d4 : decode J_HGrid_init.2.1 4 = .ok (.aload_n 0, 1) := by decide +kernel
theorem J_HGrid_init_d5 : decode J_HGrid_init.2.1 5 = .ok (.new 9, 3) := by decide +kernel
theorem J_HGrid_init_d8 : decode J_HGrid_init.2.1 8 = .ok (.dup, 1) := by decide +kernel
theorem J_HGrid_init_d9 : decode J_HGrid_init.2.1 9 = .ok (.invokespecial 11, 3) := by decide +kernel
theorem J_HGrid_init_d12 : decode J_HGrid_init.2.1 12 = .ok (.putfield 12, 3) := by decide +kernel
theorem J_HGrid_init_d15 : decode J_HGrid_init.2.1 15 = .ok (.aload_n 0, 1) := by decide +kernel
theorem J_HGrid_init_d16 : decode J_HGrid_init.2.1 16 = .ok (.new 18, 3) := by decide +kernel
theorem J_HGrid_init_d19 : decode J_HGrid_init.2.1 19 = .ok (.dup, 1) := by decide +kernel
theorem J_HGrid_init_d20 : decode J_HGrid_init.2.1 20 = .ok (.invokespecial 20, 3) := by decide +kernel
theorem J_HGrid_init_d23 : decode J_HGrid_init.2.1 23 = .ok (.putfield 21, 3) := by decide +kernel
theorem J_HGrid_init_d26 : decode J_HGrid_init.2.1 26 = .ok (.aload_n 0, 1) := by decide +kernel
theorem J_HGrid_init_d27 : decode J_HGrid_init.2.1 27 = .ok (.sipush 31329, 3) := by decide +kernel
theorem J_HGrid_init_d30 : decode J_HGrid_init.2.1 30 = .ok (.newarray .byte, 2) := by decide +kernel
theorem J_HGrid_init_d32 : decode J_HGrid_init.2.1 32 = .ok (.putfield 25, 3) := by decide +kernel
theorem J_HGrid_init_d35 : decode J_HGrid_init.2.1 35 = .ok (.aload_n 0, 1) := by decide +kernel
theorem J_HGrid_init_d36 : decode J_HGrid_init.2.1 36 = .ok (.sipush 31329, 3) := by decide +kernel
theorem J_HGrid_init_d39 : decode J_HGrid_init.2.1 39 = .ok (.newarray .byte, 2) := by decide +kernel
theorem J_HGrid_init_d41 : decode J_HGrid_init.2.1 41 = .ok (.putfield 29, 3) := by decide +kernel
theorem J_HGrid_init_d44 : decode J_HGrid_init.2.1 44 = .ok (.return_, 1) := by decide +kernel
set_option maxRecDepth 20000 in
set_option maxHeartbeats 40000000 in
theorem cs_9 {L : Nat} {xs : Nat → Int32} {dep : Nat} : ia (tb_G L xs) (dep + 1) J_HGrid_init (fun v M1 => v = none ∧ M1 = mm_116) (0, lv_args 0 [.ref 38], [], mm_81) := by
  have hS : im_St (tb_G L xs) (dep + 1) J_HGrid_init (ia (tb_G L xs) (dep + 1) J_HGrid_init (fun v M1 => v = none ∧ M1 = mm_116)) := ia_St
  have h0 : im_lk (lv_args 0 [.ref 38]) 0 = some (.ref 38) := rfl
  refine iq_aload_n hS 1 J_HGrid_init_d0 h0 rfl ?_
  refine iq_oinit hS 4 J_HGrid_init_d1 lo_4_3 (Nat.le_of_ble_eq_true rfl) rfl ?_
  refine iq_aload_n hS 5 J_HGrid_init_d4 h0 rfl ?_
  refine iq_new 8 J_HGrid_init_d5 ln_4_9 rfl (by decide) (by decide) rfl ?_
  change ia _ _ _ _ (_, _, .ref 39 :: _, mm_82)
  refine iq_dup hS 9 J_HGrid_init_d8 rfl rfl ?_
  refine iq_call hS 12 J_HGrid_init_d9 rfl (pr_inst (vs := []) lc_4_11 lT_8 rfl rfl (by decide) (by decide) rfl (Nat.le_of_ble_eq_true rfl) (Nat.le_of_ble_eq_true rfl) (fun q => absurd q (by decide))) cs_7 rfl ?_
  rintro v M1 ⟨rfl, rfl⟩
  refine iq_putR hS 15 J_HGrid_init_d12 lf_4_12 (Or.inr ⟨rfl, rfl⟩) (Or.inl ⟨_, rfl⟩) ⟨by decide, rfl⟩ rfl ?_
  change ia _ _ _ _ (_, _, _, mm_89)
  refine iq_aload_n hS 16 J_HGrid_init_d15 h0 rfl ?_
  refine iq_new 19 J_HGrid_init_d16 ln_4_18 rfl (by decide) (by decide) rfl ?_
  change ia _ _ _ _ (_, _, .ref 43 :: _, mm_90)
  refine iq_dup hS 20 J_HGrid_init_d19 rfl rfl ?_
  refine iq_call hS 23 J_HGrid_init_d20 rfl (pr_inst (vs := []) lc_4_20 lT_9 rfl rfl (by decide) (by decide) rfl (Nat.le_of_ble_eq_true rfl) (Nat.le_of_ble_eq_true rfl) (fun q => absurd q (by decide))) cs_8 rfl ?_
  rintro v M1 ⟨rfl, rfl⟩
  refine iq_putR hS 26 J_HGrid_init_d23 lf_4_21 (Or.inr ⟨rfl, rfl⟩) (Or.inl ⟨_, rfl⟩) ⟨by decide, rfl⟩ rfl ?_
  change ia _ _ _ _ (_, _, _, mm_112)
  refine iq_aload_n hS 27 J_HGrid_init_d26 h0 rfl ?_
  refine iq_sipush hS 30 J_HGrid_init_d27 (v := 31329) (by decide +kernel) rfl ?_
  refine iq_newa hS 32 J_HGrid_init_d30 (N := 31329) rfl (by decide) (by decide) (by decide) (by decide) (by decide) rfl ?_
  change ia _ _ _ _ (_, _, .ref 54 :: _, mm_113)
  refine iq_putR hS 35 J_HGrid_init_d32 lf_4_25 (Or.inr ⟨rfl, rfl⟩) (Or.inr ⟨_, rfl⟩) ⟨by decide, rfl⟩ rfl ?_
  change ia _ _ _ _ (_, _, _, mm_114)
  refine iq_aload_n hS 36 J_HGrid_init_d35 h0 rfl ?_
  refine iq_sipush hS 39 J_HGrid_init_d36 (v := 31329) (by decide +kernel) rfl ?_
  refine iq_newa hS 41 J_HGrid_init_d39 (N := 31329) rfl (by decide) (by decide) (by decide) (by decide) (by decide) rfl ?_
  change ia _ _ _ _ (_, _, .ref 55 :: _, mm_115)
  refine iq_putR hS 44 J_HGrid_init_d41 lf_4_29 (Or.inr ⟨rfl, rfl⟩) (Or.inr ⟨_, rfl⟩) ⟨by decide, rfl⟩ rfl ?_
  change ia _ _ _ _ (_, _, _, mm_116)
  exact iq_ret J_HGrid_init_d44 rfl ⟨rfl, rfl⟩
theorem J_HPen_init_d0 : decode J_HPen_init.2.1 0 = .ok (.aload_n 0, 1) := by decide +kernel
theorem J_HPen_init_d1 : decode J_HPen_init.2.1 1 = .ok (.invokespecial 3, 3) := by decide +kernel
theorem J_HPen_init_d4 : decode J_HPen_init.2.1 4 = .ok (.aload_n 0, 1) := by decide +kernel
theorem J_HPen_init_d5 : decode J_HPen_init.2.1 5 = .ok (.bipush 12, 2) := by decide +kernel
theorem J_HPen_init_d7 : decode J_HPen_init.2.1 7 = .ok (.newarray .int, 2) := by decide +kernel
theorem J_HPen_init_d71 : decode J_HPen_init.2.1 71 = .ok (.putfield 9, 3) := by decide +kernel
theorem J_HPen_init_d74 : decode J_HPen_init.2.1 74 = .ok (.aload_n 0, 1) := by decide +kernel
theorem J_HPen_init_d75 : decode J_HPen_init.2.1 75 = .ok (.ldc 15, 2) := by decide +kernel
theorem J_HPen_init_d77 : decode J_HPen_init.2.1 77 = .ok (.newarray .int, 2) := by decide +kernel
theorem J_HPen_init_d79 : decode J_HPen_init.2.1 79 = .ok (.putfield 16, 3) := by decide +kernel
theorem J_HPen_init_d82 : decode J_HPen_init.2.1 82 = .ok (.aload_n 0, 1) := by decide +kernel
theorem J_HPen_init_d83 : decode J_HPen_init.2.1 83 = .ok (.aload_n 1, 1) := by decide +kernel
theorem J_HPen_init_d84 : decode J_HPen_init.2.1 84 = .ok (.putfield 19, 3) := by decide +kernel
theorem J_HPen_init_d87 : decode J_HPen_init.2.1 87 = .ok (.aload_n 0, 1) := by decide +kernel
theorem J_HPen_init_d88 : decode J_HPen_init.2.1 88 = .ok (.aload_n 2, 1) := by decide +kernel
theorem J_HPen_init_d89 : decode J_HPen_init.2.1 89 = .ok (.putfield 23, 3) := by decide +kernel
theorem J_HPen_init_d92 : decode J_HPen_init.2.1 92 = .ok (.aload_n 0, 1) := by decide +kernel
theorem J_HPen_init_d93 : decode J_HPen_init.2.1 93 = .ok (.aload_n 3, 1) := by decide +kernel
theorem J_HPen_init_d94 : decode J_HPen_init.2.1 94 = .ok (.putfield 27, 3) := by decide +kernel
theorem J_HPen_init_d97 : decode J_HPen_init.2.1 97 = .ok (.return_, 1) := by decide +kernel
theorem iv_119_ok : ini_run J_HPen_init.2.1 (tb_find tb_cn 6) iv_119 9 0 = some 60 := by decide +kernel
theorem iv_120_ok : ini_run J_HPen_init.2.1 (tb_find tb_cn 6) iv_120 60 10 = some 71 := by decide +kernel
set_option maxRecDepth 20000 in
set_option maxHeartbeats 40000000 in
theorem cs_10 {L : Nat} {xs : Nat → Int32} {dep : Nat} : ia (tb_G L xs) dep J_HPen_init (fun v M1 => v = none ∧ M1 = mm_127) (0, lv_args 0 [.ref 56, .ref 28, .ref 31, .ref 38], [], mm_118) := by
  have hS : im_St (tb_G L xs) dep J_HPen_init (ia (tb_G L xs) dep J_HPen_init (fun v M1 => v = none ∧ M1 = mm_127)) := ia_St
  have h0 : im_lk (lv_args 0 [.ref 56, .ref 28, .ref 31, .ref 38]) 0 = some (.ref 56) := rfl
  have h1 : im_lk (lv_args 0 [.ref 56, .ref 28, .ref 31, .ref 38]) 1 = some (.ref 28) := rfl
  have h2 : im_lk (lv_args 0 [.ref 56, .ref 28, .ref 31, .ref 38]) 2 = some (.ref 31) := rfl
  have h3 : im_lk (lv_args 0 [.ref 56, .ref 28, .ref 31, .ref 38]) 3 = some (.ref 38) := rfl
  refine iq_aload_n hS 1 J_HPen_init_d0 h0 rfl ?_
  refine iq_oinit hS 4 J_HPen_init_d1 lo_6_3 (Nat.le_of_ble_eq_true rfl) rfl ?_
  refine iq_aload_n hS 5 J_HPen_init_d4 h0 rfl ?_
  refine iq_bipush hS 7 J_HPen_init_d5 (v := 12) (by decide +kernel) rfl ?_
  refine iq_newa hS 9 J_HPen_init_d7 (N := 12) rfl (by decide) (by decide) (by decide) (by decide) (by decide) rfl ?_
  change ia _ _ _ _ (_, _, .ref 57 :: _, mm_119)
  refine ini_sound hS iv_119 9 0 60 _ ⟨by decide, rfl⟩ (by decide +kernel) (by decide) iv_119_ok ?_
  change ia _ _ _ _ (_, _, _, mm_120)
  refine ini_sound hS iv_120 60 10 71 _ ⟨by decide, rfl⟩ (by decide +kernel) (by decide) iv_120_ok ?_
  change ia _ _ _ _ (_, _, _, mm_121)
  refine iq_putR hS 74 J_HPen_init_d71 lf_6_9 (Or.inr ⟨rfl, rfl⟩) (Or.inr ⟨_, rfl⟩) ⟨by decide, rfl⟩ rfl ?_
  change ia _ _ _ _ (_, _, _, mm_122)
  refine iq_aload_n hS 75 J_HPen_init_d74 h0 rfl ?_
  refine iq_ldc hS 77 J_HPen_init_d75 lk_6_15 rfl ?_
  refine iq_newa hS 79 J_HPen_init_d77 (N := 32768) rfl (by decide) (by decide) (by decide) (by decide) (by decide) rfl ?_
  change ia _ _ _ _ (_, _, .ref 58 :: _, mm_123)
  refine iq_putR hS 82 J_HPen_init_d79 lf_6_16 (Or.inr ⟨rfl, rfl⟩) (Or.inr ⟨_, rfl⟩) ⟨by decide, rfl⟩ rfl ?_
  change ia _ _ _ _ (_, _, _, mm_124)
  refine iq_aload_n hS 83 J_HPen_init_d82 h0 rfl ?_
  refine iq_aload_n hS 84 J_HPen_init_d83 h1 rfl ?_
  refine iq_putR hS 87 J_HPen_init_d84 lf_6_19 (Or.inr ⟨rfl, rfl⟩) (Or.inl ⟨_, rfl⟩) ⟨by decide, rfl⟩ rfl ?_
  change ia _ _ _ _ (_, _, _, mm_125)
  refine iq_aload_n hS 88 J_HPen_init_d87 h0 rfl ?_
  refine iq_aload_n hS 89 J_HPen_init_d88 h2 rfl ?_
  refine iq_putR hS 92 J_HPen_init_d89 lf_6_23 (Or.inr ⟨rfl, rfl⟩) (Or.inl ⟨_, rfl⟩) ⟨by decide, rfl⟩ rfl ?_
  change ia _ _ _ _ (_, _, _, mm_126)
  refine iq_aload_n hS 93 J_HPen_init_d92 h0 rfl ?_
  refine iq_aload_n hS 94 J_HPen_init_d93 h3 rfl ?_
  refine iq_putR hS 97 J_HPen_init_d94 lf_6_27 (Or.inr ⟨rfl, rfl⟩) (Or.inl ⟨_, rfl⟩) ⟨by decide, rfl⟩ rfl ?_
  change ia _ _ _ _ (_, _, _, mm_127)
  exact iq_ret J_HPen_init_d97 rfl ⟨rfl, rfl⟩
theorem J_HFinder_init_d0 : decode J_HFinder_init.2.1 0 = .ok (.aload_n 0, 1) := by decide +kernel
theorem J_HFinder_init_d1 : decode J_HFinder_init.2.1 1 = .ok (.invokespecial 5, 3) := by decide +kernel
theorem J_HFinder_init_d4 : decode J_HFinder_init.2.1 4 = .ok (.aload_n 0, 1) := by decide +kernel
theorem J_HFinder_init_d5 : decode J_HFinder_init.2.1 5 = .ok (.ldc 13, 2) := by decide +kernel
theorem J_HFinder_init_d7 : decode J_HFinder_init.2.1 7 = .ok (.newarray .int, 2) := by decide +kernel
theorem J_HFinder_init_d9 : decode J_HFinder_init.2.1 9 = .ok (.putfield 14, 3) := by decide +kernel
theorem J_HFinder_init_d12 : decode J_HFinder_init.2.1 12 = .ok (.aload_n 0, 1) := by decide +kernel
theorem J_HFinder_init_d13 : decode J_HFinder_init.2.1 13 = .ok (.ldc 18, 2) := by decide +kernel
theorem J_HFinder_init_d15 : decode J_HFinder_init.2.1 15 = .ok (.newarray .short, 2) := by decide +kernel
theorem J_HFinder_init_d17 : decode J_HFinder_init.2.1 17 = .ok (.putfield 19, 3) := by decide +kernel
theorem J_HFinder_init_d20 : decode J_HFinder_init.2.1 20 = .ok (.aload_n 0, 1) := by decide +kernel
theorem J_HFinder_init_d21 : decode J_HFinder_init.2.1 21 = .ok (.sipush 300, 3) := by decide +kernel
theorem J_HFinder_init_d24 : decode J_HFinder_init.2.1 24 = .ok (.newarray .long, 2) := by decide +kernel
theorem J_HFinder_init_d26 : decode J_HFinder_init.2.1 26 = .ok (.putfield 23, 3) := by decide +kernel
theorem J_HFinder_init_d29 : decode J_HFinder_init.2.1 29 = .ok (.aload_n 0, 1) := by decide +kernel
theorem J_HFinder_init_d30 : decode J_HFinder_init.2.1 30 = .ok (.sipush 300, 3) := by decide +kernel
theorem J_HFinder_init_d33 : decode J_HFinder_init.2.1 33 = .ok (.newarray .int, 2) := by decide +kernel
theorem J_HFinder_init_d35 : decode J_HFinder_init.2.1 35 = .ok (.putfield 27, 3) := by decide +kernel
theorem J_HFinder_init_d38 : decode J_HFinder_init.2.1 38 = .ok (.aload_n 0, 1) := by decide +kernel
theorem J_HFinder_init_d39 : decode J_HFinder_init.2.1 39 = .ok (.sipush 300, 3) := by decide +kernel
theorem J_HFinder_init_d42 : decode J_HFinder_init.2.1 42 = .ok (.newarray .boolean, 2) := by decide +kernel
theorem J_HFinder_init_d44 : decode J_HFinder_init.2.1 44 = .ok (.putfield 30, 3) := by decide +kernel
theorem J_HFinder_init_d47 : decode J_HFinder_init.2.1 47 = .ok (.aload_n 0, 1) := by decide +kernel
theorem J_HFinder_init_d48 : decode J_HFinder_init.2.1 48 = .ok (.iconst 4, 1) := by decide +kernel
theorem J_HFinder_init_d49 : decode J_HFinder_init.2.1 49 = .ok (.newarray .int, 2) := by decide +kernel
theorem J_HFinder_init_d51 : decode J_HFinder_init.2.1 51 = .ok (.putfield 34, 3) := by decide +kernel
theorem J_HFinder_init_d54 : decode J_HFinder_init.2.1 54 = .ok (.aload_n 0, 1) := by decide +kernel
theorem J_HFinder_init_d55 : decode J_HFinder_init.2.1 55 = .ok (.aload_n 1, 1) := by decide +kernel
theorem J_HFinder_init_d56 : decode J_HFinder_init.2.1 56 = .ok (.putfield 37, 3) := by decide +kernel
theorem J_HFinder_init_d59 : decode J_HFinder_init.2.1 59 = .ok (.return_, 1) := by decide +kernel
set_option maxRecDepth 20000 in
set_option maxHeartbeats 40000000 in
theorem cs_11 {L : Nat} {xs : Nat → Int32} {dep : Nat} : ia (tb_G L xs) dep J_HFinder_init (fun v M1 => v = none ∧ M1 = mm_142) (0, lv_args 0 [.ref 59, .ref 28], [], mm_129) := by
  have hS : im_St (tb_G L xs) dep J_HFinder_init (ia (tb_G L xs) dep J_HFinder_init (fun v M1 => v = none ∧ M1 = mm_142)) := ia_St
  have h0 : im_lk (lv_args 0 [.ref 59, .ref 28]) 0 = some (.ref 59) := rfl
  have h1 : im_lk (lv_args 0 [.ref 59, .ref 28]) 1 = some (.ref 28) := rfl
  refine iq_aload_n hS 1 J_HFinder_init_d0 h0 rfl ?_
  refine iq_oinit hS 4 J_HFinder_init_d1 lo_3_5 (Nat.le_of_ble_eq_true rfl) rfl ?_
  refine iq_aload_n hS 5 J_HFinder_init_d4 h0 rfl ?_
  refine iq_ldc hS 7 J_HFinder_init_d5 lk_3_13 rfl ?_
  refine iq_newa hS 9 J_HFinder_init_d7 (N := 263169) rfl (by decide) (by decide) (by decide) (by decide) (by decide) rfl ?_
  change ia _ _ _ _ (_, _, .ref 60 :: _, mm_130)
  refine iq_putR hS 12 J_HFinder_init_d9 lf_3_14 (Or.inr ⟨rfl, rfl⟩) (Or.inr ⟨_, rfl⟩) ⟨by decide, rfl⟩ rfl ?_
  change ia _ _ _ _ (_, _, _, mm_131)
  refine iq_aload_n hS 13 J_HFinder_init_d12 h0 rfl ?_
  refine iq_ldc hS 15 J_HFinder_init_d13 lk_3_18 rfl ?_
  refine iq_newa hS 17 J_HFinder_init_d15 (N := 262144) rfl (by decide) (by decide) (by decide) (by decide) (by decide) rfl ?_
  change ia _ _ _ _ (_, _, .ref 61 :: _, mm_132)
  refine iq_putR hS 20 J_HFinder_init_d17 lf_3_19 (Or.inr ⟨rfl, rfl⟩) (Or.inr ⟨_, rfl⟩) ⟨by decide, rfl⟩ rfl ?_
  change ia _ _ _ _ (_, _, _, mm_133)
  refine iq_aload_n hS 21 J_HFinder_init_d20 h0 rfl ?_
  refine iq_sipush hS 24 J_HFinder_init_d21 (v := 300) (by decide +kernel) rfl ?_
  refine iq_newa hS 26 J_HFinder_init_d24 (N := 300) rfl (by decide) (by decide) (by decide) (by decide) (by decide) rfl ?_
  change ia _ _ _ _ (_, _, .ref 62 :: _, mm_134)
  refine iq_putR hS 29 J_HFinder_init_d26 lf_3_23 (Or.inr ⟨rfl, rfl⟩) (Or.inr ⟨_, rfl⟩) ⟨by decide, rfl⟩ rfl ?_
  change ia _ _ _ _ (_, _, _, mm_135)
  refine iq_aload_n hS 30 J_HFinder_init_d29 h0 rfl ?_
  refine iq_sipush hS 33 J_HFinder_init_d30 (v := 300) (by decide +kernel) rfl ?_
  refine iq_newa hS 35 J_HFinder_init_d33 (N := 300) rfl (by decide) (by decide) (by decide) (by decide) (by decide) rfl ?_
  change ia _ _ _ _ (_, _, .ref 63 :: _, mm_136)
  refine iq_putR hS 38 J_HFinder_init_d35 lf_3_27 (Or.inr ⟨rfl, rfl⟩) (Or.inr ⟨_, rfl⟩) ⟨by decide, rfl⟩ rfl ?_
  change ia _ _ _ _ (_, _, _, mm_137)
  refine iq_aload_n hS 39 J_HFinder_init_d38 h0 rfl ?_
  refine iq_sipush hS 42 J_HFinder_init_d39 (v := 300) (by decide +kernel) rfl ?_
  refine iq_newa hS 44 J_HFinder_init_d42 (N := 300) rfl (by decide) (by decide) (by decide) (by decide) (by decide) rfl ?_
  change ia _ _ _ _ (_, _, .ref 64 :: _, mm_138)
  refine iq_putR hS 47 J_HFinder_init_d44 lf_3_30 (Or.inr ⟨rfl, rfl⟩) (Or.inr ⟨_, rfl⟩) ⟨by decide, rfl⟩ rfl ?_
  change ia _ _ _ _ (_, _, _, mm_139)
  refine iq_aload_n hS 48 J_HFinder_init_d47 h0 rfl ?_
  refine iq_iconst hS 49 J_HFinder_init_d48 (v := 4) (by decide +kernel) rfl ?_
  refine iq_newa hS 51 J_HFinder_init_d49 (N := 4) rfl (by decide) (by decide) (by decide) (by decide) (by decide) rfl ?_
  change ia _ _ _ _ (_, _, .ref 65 :: _, mm_140)
  refine iq_putR hS 54 J_HFinder_init_d51 lf_3_34 (Or.inr ⟨rfl, rfl⟩) (Or.inr ⟨_, rfl⟩) ⟨by decide, rfl⟩ rfl ?_
  change ia _ _ _ _ (_, _, _, mm_141)
  refine iq_aload_n hS 55 J_HFinder_init_d54 h0 rfl ?_
  refine iq_aload_n hS 56 J_HFinder_init_d55 h1 rfl ?_
  refine iq_putR hS 59 J_HFinder_init_d56 lf_3_37 (Or.inr ⟨rfl, rfl⟩) (Or.inl ⟨_, rfl⟩) ⟨by decide, rfl⟩ rfl ?_
  change ia _ _ _ _ (_, _, _, mm_142)
  exact iq_ret J_HFinder_init_d59 rfl ⟨rfl, rfl⟩
theorem J_H_init_d0 : decode J_H_init.2.1 0 = .ok (.aload_n 0, 1) := by decide +kernel
theorem J_H_init_d1 : decode J_H_init.2.1 1 = .ok (.invokespecial 1, 3) := by decide +kernel
theorem J_H_init_d4 : decode J_H_init.2.1 4 = .ok (.aload_n 0, 1) := by decide +kernel
theorem J_H_init_d5 : decode J_H_init.2.1 5 = .ok (.new 7, 3) := by decide +kernel
theorem J_H_init_d8 : decode J_H_init.2.1 8 = .ok (.dup, 1) := by decide +kernel
theorem J_H_init_d9 : decode J_H_init.2.1 9 = .ok (.invokespecial 9, 3) := by decide +kernel
theorem J_H_init_d12 : decode J_H_init.2.1 12 = .ok (.putfield 10, 3) := by decide +kernel
theorem J_H_init_d15 : decode J_H_init.2.1 15 = .ok (.aload_n 0, 1) := by decide +kernel
theorem J_H_init_d16 : decode J_H_init.2.1 16 = .ok (.new 16, 3) := by decide +kernel
theorem J_H_init_d19 : decode J_H_init.2.1 19 = .ok (.dup, 1) := by decide +kernel
theorem J_H_init_d20 : decode J_H_init.2.1 20 = .ok (.bipush 120, 2) := by decide +kernel
theorem J_H_init_d22 : decode J_H_init.2.1 22 = .ok (.invokespecial 18, 3) := by decide +kernel
theorem J_H_init_d25 : decode J_H_init.2.1 25 = .ok (.putfield 21, 3) := by decide +kernel
theorem J_H_init_d28 : decode J_H_init.2.1 28 = .ok (.aload_n 0, 1) := by decide +kernel
theorem J_H_init_d29 : decode J_H_init.2.1 29 = .ok (.new 25, 3) := by decide +kernel
theorem J_H_init_d32 : decode J_H_init.2.1 32 = .ok (.dup, 1) := by decide +kernel
theorem J_H_init_d33 : decode J_H_init.2.1 33 = .ok (.aload_n 0, 1) := by decide +kernel
theorem J_H_init_d34 : decode J_H_init.2.1 34 = .ok (.getfield 10, 3) := by decide +kernel
theorem J_H_init_d37 : decode J_H_init.2.1 37 = .ok (.aload_n 0, 1) := by decide +kernel
theorem J_H_init_d38 : decode J_H_init.2.1 38 = .ok (.getfield 21, 3) := by decide +kernel
theorem J_H_init_d41 : decode J_H_init.2.1 41 = .ok (.invokespecial 27, 3) := by decide +kernel
theorem J_H_init_d44 : decode J_H_init.2.1 44 = .ok (.putfield 30, 3) := by decide +kernel
theorem J_H_init_d47 : decode J_H_init.2.1 47 = .ok (.aload_n 0, 1) := by decide +kernel
theorem J_H_init_d48 : decode J_H_init.2.1 48 = .ok (.new 34, 3) := by decide +kernel
theorem J_H_init_d51 : decode J_H_init.2.1 51 = .ok (.dup, 1) := by decide +kernel
theorem J_H_init_d52 : decode J_H_init.2.1 52 = .ok (.invokespecial 36, 3) := by decide +kernel
theorem J_H_init_d55 : decode J_H_init.2.1 55 = .ok (.putfield 37, 3) := by decide +kernel
theorem J_H_init_d58 : decode J_H_init.2.1 58 = .ok (.aload_n 0, 1) := by decide +kernel
theorem J_H_init_d59 : decode J_H_init.2.1 59 = .ok (.new 41, 3) := by decide +kernel
theorem J_H_init_d62 : decode J_H_init.2.1 62 = .ok (.dup, 1) := by decide +kernel
theorem J_H_init_d63 : decode J_H_init.2.1 63 = .ok (.invokespecial 43, 3) := by decide +kernel
theorem J_H_init_d66 : decode J_H_init.2.1 66 = .ok (.putfield 44, 3) := by decide +kernel
theorem J_H_init_d69 : decode J_H_init.2.1 69 = .ok (.aload_n 0, 1) := by decide +kernel
theorem J_H_init_d70 : decode J_H_init.2.1 70 = .ok (.new 48, 3) := by decide +kernel
theorem J_H_init_d73 : decode J_H_init.2.1 73 = .ok (.dup, 1) := by decide +kernel
theorem J_H_init_d74 : decode J_H_init.2.1 74 = .ok (.invokespecial 50, 3) := by decide +kernel
theorem J_H_init_d77 : decode J_H_init.2.1 77 = .ok (.putfield 51, 3) := by decide +kernel
theorem J_H_init_d80 : decode J_H_init.2.1 80 = .ok (.aload_n 0, 1) := by decide +kernel
theorem J_H_init_d81 : decode J_H_init.2.1 81 = .ok (.new 55, 3) := by decide +kernel
theorem J_H_init_d84 : decode J_H_init.2.1 84 = .ok (.dup, 1) := by decide +kernel
theorem J_H_init_d85 : decode J_H_init.2.1 85 = .ok (.aload_n 0, 1) := by decide +kernel
theorem J_H_init_d86 : decode J_H_init.2.1 86 = .ok (.getfield 37, 3) := by decide +kernel
theorem J_H_init_d89 : decode J_H_init.2.1 89 = .ok (.aload_n 0, 1) := by decide +kernel
theorem J_H_init_d90 : decode J_H_init.2.1 90 = .ok (.getfield 44, 3) := by decide +kernel
theorem J_H_init_d93 : decode J_H_init.2.1 93 = .ok (.aload_n 0, 1) := by decide +kernel
theorem J_H_init_d94 : decode J_H_init.2.1 94 = .ok (.getfield 51, 3) := by decide +kernel
theorem J_H_init_d97 : decode J_H_init.2.1 97 = .ok (.invokespecial 57, 3) := by decide +kernel
theorem J_H_init_d100 : decode J_H_init.2.1 100 = .ok (.putfield 60, 3) := by decide +kernel
theorem J_H_init_d103 : decode J_H_init.2.1 103 = .ok (.aload_n 0, 1) := by decide +kernel
theorem J_H_init_d104 : decode J_H_init.2.1 104 = .ok (.new 64, 3) := by decide +kernel
theorem J_H_init_d107 : decode J_H_init.2.1 107 = .ok (.dup, 1) := by decide +kernel
theorem J_H_init_d108 : decode J_H_init.2.1 108 = .ok (.aload_n 0, 1) := by decide +kernel
theorem J_H_init_d109 : decode J_H_init.2.1 109 = .ok (.getfield 37, 3) := by decide +kernel
theorem J_H_init_d112 : decode J_H_init.2.1 112 = .ok (.invokespecial 66, 3) := by decide +kernel
theorem J_H_init_d115 : decode J_H_init.2.1 115 = .ok (.putfield 69, 3) := by decide +kernel
theorem J_H_init_d118 : decode J_H_init.2.1 118 = .ok (.aload_n 0, 1) := by decide +kernel
theorem J_H_init_d119 : decode J_H_init.2.1 119 = .ok (.bipush 120, 2) := by decide +kernel
theorem J_H_init_d121 : decode J_H_init.2.1 121 = .ok (.newarray .int, 2) := by decide +kernel
theorem J_H_init_d123 : decode J_H_init.2.1 123 = .ok (.putfield 73, 3) := by decide +kernel
theorem J_H_init_d126 : decode J_H_init.2.1 126 = .ok (.aload_n 0, 1) := by decide +kernel
theorem J_H_init_d127 : decode J_H_init.2.1 127 = .ok (.bipush 7, 2) := by decide +kernel
theorem J_H_init_d129 : decode J_H_init.2.1 129 = .ok (.newarray .int, 2) := by decide +kernel
theorem J_H_init_d160 : decode J_H_init.2.1 160 = .ok (.putfield 77, 3) := by decide +kernel
theorem J_H_init_d163 : decode J_H_init.2.1 163 = .ok (.aload_n 0, 1) := by decide +kernel
theorem J_H_init_d164 : decode J_H_init.2.1 164 = .ok (.sipush 3000, 3) := by decide +kernel
theorem J_H_init_d167 : decode J_H_init.2.1 167 = .ok (.newarray .byte, 2) := by decide +kernel
theorem J_H_init_d169 : decode J_H_init.2.1 169 = .ok (.putfield 80, 3) := by decide +kernel
theorem J_H_init_d172 : decode J_H_init.2.1 172 = .ok (.return_, 1) := by decide +kernel
theorem iv_146_ok : ini_run J_H_init.2.1 (tb_find tb_cn 11) iv_146 131 0 = some 160 := by decide +kernel
set_option maxRecDepth 20000 in
set_option maxHeartbeats 40000000 in
theorem cs_12 {L : Nat} {xs : Nat → Int32} {dep : Nat} : ia (tb_G L xs) (dep + 2) J_H_init (fun v M1 => v = none ∧ M1 = mm_150) (0, lv_args 0 [.ref 0], [], mm_1) := by
  have hS : im_St (tb_G L xs) (dep + 2) J_H_init (ia (tb_G L xs) (dep + 2) J_H_init (fun v M1 => v = none ∧ M1 = mm_150)) := ia_St
  have h0 : im_lk (lv_args 0 [.ref 0]) 0 = some (.ref 0) := rfl
  refine iq_aload_n hS 1 J_H_init_d0 h0 rfl ?_
  refine iq_oinit hS 4 J_H_init_d1 lo_11_1 (Nat.le_of_ble_eq_true rfl) rfl ?_
  refine iq_aload_n hS 5 J_H_init_d4 h0 rfl ?_
  refine iq_new 8 J_H_init_d5 ln_11_7 rfl (by decide) (by decide) rfl ?_
  change ia _ _ _ _ (_, _, .ref 1 :: _, mm_2)
  refine iq_dup hS 9 J_H_init_d8 rfl rfl ?_
  refine iq_call hS 12 J_H_init_d9 rfl (pr_inst (vs := []) lc_11_9 lT_1 rfl rfl (by decide) (by decide) rfl (Nat.le_of_ble_eq_true rfl) (Nat.le_of_ble_eq_true rfl) (fun q => absurd q (by decide))) cs_0 rfl ?_
  rintro v M1 ⟨rfl, rfl⟩
  refine iq_putR hS 15 J_H_init_d12 lf_11_10 (Or.inr ⟨rfl, rfl⟩) (Or.inl ⟨_, rfl⟩) ⟨by decide, rfl⟩ rfl ?_
  change ia _ _ _ _ (_, _, _, mm_21)
  refine iq_aload_n hS 16 J_H_init_d15 h0 rfl ?_
  refine iq_new 19 J_H_init_d16 ln_11_16 rfl (by decide) (by decide) rfl ?_
  change ia _ _ _ _ (_, _, .ref 11 :: _, mm_22)
  refine iq_dup hS 20 J_H_init_d19 rfl rfl ?_
  refine iq_bipush hS 22 J_H_init_d20 (v := 120) (by decide +kernel) rfl ?_
  refine iq_call hS 25 J_H_init_d22 rfl (pr_inst (vs := [_]) lc_11_18 lT_2 rfl rfl (by decide) (by decide) rfl (Nat.le_of_ble_eq_true rfl) (Nat.le_of_ble_eq_true rfl) (fun q => absurd q (by decide))) cs_1 rfl ?_
  rintro v M1 ⟨rfl, rfl⟩
  refine iq_putR hS 28 J_H_init_d25 lf_11_21 (Or.inr ⟨rfl, rfl⟩) (Or.inl ⟨_, rfl⟩) ⟨by decide, rfl⟩ rfl ?_
  change ia _ _ _ _ (_, _, _, mm_29)
  refine iq_aload_n hS 29 J_H_init_d28 h0 rfl ?_
  refine iq_new 32 J_H_init_d29 ln_11_25 rfl (by decide) (by decide) rfl ?_
  change ia _ _ _ _ (_, _, .ref 15 :: _, mm_30)
  refine iq_dup hS 33 J_H_init_d32 rfl rfl ?_
  refine iq_aload_n hS 34 J_H_init_d33 h0 rfl ?_
  refine iq_getR hS 37 J_H_init_d34 lf_11_10 (Or.inl ⟨_, rfl⟩) ⟨by decide, rfl⟩ (b := 1) rfl rfl ?_
  refine iq_aload_n hS 38 J_H_init_d37 h0 rfl ?_
  refine iq_getR hS 41 J_H_init_d38 lf_11_21 (Or.inl ⟨_, rfl⟩) ⟨by decide, rfl⟩ (b := 11) rfl rfl ?_
  refine iq_call hS 44 J_H_init_d41 rfl (pr_inst (vs := [_, _]) lc_11_27 lT_3 rfl rfl (by decide) (by decide) rfl (Nat.le_of_ble_eq_true rfl) (Nat.le_of_ble_eq_true rfl) (fun q => absurd q (by decide))) cs_4 rfl ?_
  rintro v M1 ⟨rfl, rfl⟩
  refine iq_putR hS 47 J_H_init_d44 lf_11_30 (Or.inr ⟨rfl, rfl⟩) (Or.inl ⟨_, rfl⟩) ⟨by decide, rfl⟩ rfl ?_
  change ia _ _ _ _ (_, _, _, mm_58)
  refine iq_aload_n hS 48 J_H_init_d47 h0 rfl ?_
  refine iq_new 51 J_H_init_d48 ln_11_34 rfl (by decide) (by decide) rfl ?_
  change ia _ _ _ _ (_, _, .ref 28 :: _, mm_59)
  refine iq_dup hS 52 J_H_init_d51 rfl rfl ?_
  refine iq_call hS 55 J_H_init_d52 rfl (pr_inst (vs := []) lc_11_36 lT_5 rfl rfl (by decide) (by decide) rfl (Nat.le_of_ble_eq_true rfl) (Nat.le_of_ble_eq_true rfl) (fun q => absurd q (by decide))) cs_5 rfl ?_
  rintro v M1 ⟨rfl, rfl⟩
  refine iq_putR hS 58 J_H_init_d55 lf_11_37 (Or.inr ⟨rfl, rfl⟩) (Or.inl ⟨_, rfl⟩) ⟨by decide, rfl⟩ rfl ?_
  change ia _ _ _ _ (_, _, _, mm_66)
  refine iq_aload_n hS 59 J_H_init_d58 h0 rfl ?_
  refine iq_new 62 J_H_init_d59 ln_11_41 rfl (by decide) (by decide) rfl ?_
  change ia _ _ _ _ (_, _, .ref 31 :: _, mm_67)
  refine iq_dup hS 63 J_H_init_d62 rfl rfl ?_
  refine iq_call hS 66 J_H_init_d63 rfl (pr_inst (vs := []) lc_11_43 lT_6 rfl rfl (by decide) (by decide) rfl (Nat.le_of_ble_eq_true rfl) (Nat.le_of_ble_eq_true rfl) (fun q => absurd q (by decide))) cs_6 rfl ?_
  rintro v M1 ⟨rfl, rfl⟩
  refine iq_putR hS 69 J_H_init_d66 lf_11_44 (Or.inr ⟨rfl, rfl⟩) (Or.inl ⟨_, rfl⟩) ⟨by decide, rfl⟩ rfl ?_
  change ia _ _ _ _ (_, _, _, mm_80)
  refine iq_aload_n hS 70 J_H_init_d69 h0 rfl ?_
  refine iq_new 73 J_H_init_d70 ln_11_48 rfl (by decide) (by decide) rfl ?_
  change ia _ _ _ _ (_, _, .ref 38 :: _, mm_81)
  refine iq_dup hS 74 J_H_init_d73 rfl rfl ?_
  refine iq_call hS 77 J_H_init_d74 rfl (pr_inst (vs := []) lc_11_50 lT_7 rfl rfl (by decide) (by decide) rfl (Nat.le_of_ble_eq_true rfl) (Nat.le_of_ble_eq_true rfl) (fun q => absurd q (by decide))) cs_9 rfl ?_
  rintro v M1 ⟨rfl, rfl⟩
  refine iq_putR hS 80 J_H_init_d77 lf_11_51 (Or.inr ⟨rfl, rfl⟩) (Or.inl ⟨_, rfl⟩) ⟨by decide, rfl⟩ rfl ?_
  change ia _ _ _ _ (_, _, _, mm_117)
  refine iq_aload_n hS 81 J_H_init_d80 h0 rfl ?_
  refine iq_new 84 J_H_init_d81 ln_11_55 rfl (by decide) (by decide) rfl ?_
  change ia _ _ _ _ (_, _, .ref 56 :: _, mm_118)
  refine iq_dup hS 85 J_H_init_d84 rfl rfl ?_
  refine iq_aload_n hS 86 J_H_init_d85 h0 rfl ?_
  refine iq_getR hS 89 J_H_init_d86 lf_11_37 (Or.inl ⟨_, rfl⟩) ⟨by decide, rfl⟩ (b := 28) rfl rfl ?_
  refine iq_aload_n hS 90 J_H_init_d89 h0 rfl ?_
  refine iq_getR hS 93 J_H_init_d90 lf_11_44 (Or.inl ⟨_, rfl⟩) ⟨by decide, rfl⟩ (b := 31) rfl rfl ?_
  refine iq_aload_n hS 94 J_H_init_d93 h0 rfl ?_
  refine iq_getR hS 97 J_H_init_d94 lf_11_51 (Or.inl ⟨_, rfl⟩) ⟨by decide, rfl⟩ (b := 38) rfl rfl ?_
  refine iq_call hS 100 J_H_init_d97 rfl (pr_inst (vs := [_, _, _]) lc_11_57 lT_10 rfl rfl (by decide) (by decide) rfl (Nat.le_of_ble_eq_true rfl) (Nat.le_of_ble_eq_true rfl) (fun q => absurd q (by decide))) cs_10 rfl ?_
  rintro v M1 ⟨rfl, rfl⟩
  refine iq_putR hS 103 J_H_init_d100 lf_11_60 (Or.inr ⟨rfl, rfl⟩) (Or.inl ⟨_, rfl⟩) ⟨by decide, rfl⟩ rfl ?_
  change ia _ _ _ _ (_, _, _, mm_128)
  refine iq_aload_n hS 104 J_H_init_d103 h0 rfl ?_
  refine iq_new 107 J_H_init_d104 ln_11_64 rfl (by decide) (by decide) rfl ?_
  change ia _ _ _ _ (_, _, .ref 59 :: _, mm_129)
  refine iq_dup hS 108 J_H_init_d107 rfl rfl ?_
  refine iq_aload_n hS 109 J_H_init_d108 h0 rfl ?_
  refine iq_getR hS 112 J_H_init_d109 lf_11_37 (Or.inl ⟨_, rfl⟩) ⟨by decide, rfl⟩ (b := 28) rfl rfl ?_
  refine iq_call hS 115 J_H_init_d112 rfl (pr_inst (vs := [_]) lc_11_66 lT_11 rfl rfl (by decide) (by decide) rfl (Nat.le_of_ble_eq_true rfl) (Nat.le_of_ble_eq_true rfl) (fun q => absurd q (by decide))) cs_11 rfl ?_
  rintro v M1 ⟨rfl, rfl⟩
  refine iq_putR hS 118 J_H_init_d115 lf_11_69 (Or.inr ⟨rfl, rfl⟩) (Or.inl ⟨_, rfl⟩) ⟨by decide, rfl⟩ rfl ?_
  change ia _ _ _ _ (_, _, _, mm_143)
  refine iq_aload_n hS 119 J_H_init_d118 h0 rfl ?_
  refine iq_bipush hS 121 J_H_init_d119 (v := 120) (by decide +kernel) rfl ?_
  refine iq_newa hS 123 J_H_init_d121 (N := 120) rfl (by decide) (by decide) (by decide) (by decide) (by decide) rfl ?_
  change ia _ _ _ _ (_, _, .ref 66 :: _, mm_144)
  refine iq_putR hS 126 J_H_init_d123 lf_11_73 (Or.inr ⟨rfl, rfl⟩) (Or.inr ⟨_, rfl⟩) ⟨by decide, rfl⟩ rfl ?_
  change ia _ _ _ _ (_, _, _, mm_145)
  refine iq_aload_n hS 127 J_H_init_d126 h0 rfl ?_
  refine iq_bipush hS 129 J_H_init_d127 (v := 7) (by decide +kernel) rfl ?_
  refine iq_newa hS 131 J_H_init_d129 (N := 7) rfl (by decide) (by decide) (by decide) (by decide) (by decide) rfl ?_
  change ia _ _ _ _ (_, _, .ref 67 :: _, mm_146)
  refine ini_sound hS iv_146 131 0 160 _ ⟨by decide, rfl⟩ (by decide +kernel) (by decide) iv_146_ok ?_
  change ia _ _ _ _ (_, _, _, mm_147)
  refine iq_putR hS 163 J_H_init_d160 lf_11_77 (Or.inr ⟨rfl, rfl⟩) (Or.inr ⟨_, rfl⟩) ⟨by decide, rfl⟩ rfl ?_
  change ia _ _ _ _ (_, _, _, mm_148)
  refine iq_aload_n hS 164 J_H_init_d163 h0 rfl ?_
  refine iq_sipush hS 167 J_H_init_d164 (v := 3000) (by decide +kernel) rfl ?_
  refine iq_newa hS 169 J_H_init_d167 (N := 3000) rfl (by decide) (by decide) (by decide) (by decide) (by decide) rfl ?_
  change ia _ _ _ _ (_, _, .ref 68 :: _, mm_149)
  refine iq_putR hS 172 J_H_init_d169 lf_11_80 (Or.inr ⟨rfl, rfl⟩) (Or.inr ⟨_, rfl⟩) ⟨by decide, rfl⟩ rfl ?_
  change ia _ _ _ _ (_, _, _, mm_150)
  exact iq_ret J_H_init_d172 rfl ⟨rfl, rfl⟩
