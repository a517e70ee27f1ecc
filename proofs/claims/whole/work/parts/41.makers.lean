/-! THE CONSTRUCTORS RUN -/
theorem J_HTape_init_d0 : decode J_HTape_init.2.1 0 = .ok (.aload_n 0, 1) := by decide +kernel
theorem J_HTape_init_d1 : decode J_HTape_init.2.1 1 = .ok (.invokespecial 3, 3) := by decide +kernel
theorem J_HTape_init_d4 : decode J_HTape_init.2.1 4 = .ok (.aload_n 0, 1) := by decide +kernel
theorem J_HTape_init_d5 : decode J_HTape_init.2.1 5 = .ok (.sipush 4096, 3) := by decide +kernel
theorem J_HTape_init_d8 : decode J_HTape_init.2.1 8 = .ok (.newarray .byte, 2) := by decide +kernel
theorem J_HTape_init_d10 : decode J_HTape_init.2.1 10 = .ok (.putfield 11, 3) := by decide +kernel
theorem J_HTape_init_d13 : decode J_HTape_init.2.1 13 = .ok (.aload_n 0, 1) := by decide +kernel
theorem J_HTape_init_d14 : decode J_HTape_init.2.1 14 = .ok (.sipush 3200, 3) := by decide +kernel
theorem J_HTape_init_d17 : decode J_HTape_init.2.1 17 = .ok (.newarray .byte, 2) := by decide +kernel
theorem J_HTape_init_d19 : decode J_HTape_init.2.1 19 = .ok (.putfield 15, 3) := by decide +kernel
theorem J_HTape_init_d22 : decode J_HTape_init.2.1 22 = .ok (.aload_n 0, 1) := by decide +kernel
theorem J_HTape_init_d23 : decode J_HTape_init.2.1 23 = .ok (.bipush 8, 2) := by decide +kernel
theorem J_HTape_init_d25 : decode J_HTape_init.2.1 25 = .ok (.newarray .int, 2) := by decide +kernel
theorem J_HTape_init_d27 : decode J_HTape_init.2.1 27 = .ok (.putfield 18, 3) := by decide +kernel
theorem J_HTape_init_d30 : decode J_HTape_init.2.1 30 = .ok (.aload_n 0, 1) := by decide +kernel
theorem J_HTape_init_d31 : decode J_HTape_init.2.1 31 = .ok (.sipush 2000, 3) := by decide +kernel
theorem J_HTape_init_d34 : decode J_HTape_init.2.1 34 = .ok (.newarray .byte, 2) := by decide +kernel
theorem J_HTape_init_d36 : decode J_HTape_init.2.1 36 = .ok (.putfield 22, 3) := by decide +kernel
theorem J_HTape_init_d39 : decode J_HTape_init.2.1 39 = .ok (.aload_n 0, 1) := by decide +kernel
theorem J_HTape_init_d40 : decode J_HTape_init.2.1 40 = .ok (.bipush 10, 2) := by decide +kernel
theorem J_HTape_init_d42 : decode J_HTape_init.2.1 42 = .ok (.newarray .int, 2) := by decide +kernel
theorem J_HTape_init_d44 : decode J_HTape_init.2.1 44 = .ok (.putfield 25, 3) := by decide +kernel
theorem J_HTape_init_d47 : decode J_HTape_init.2.1 47 = .ok (.aload_n 0, 1) := by decide +kernel
theorem J_HTape_init_d48 : decode J_HTape_init.2.1 48 = .ok (.iconst 5, 1) := by decide +kernel
theorem J_HTape_init_d49 : decode J_HTape_init.2.1 49 = .ok (.newarray .int, 2) := by decide +kernel
theorem J_HTape_init_d51 : decode J_HTape_init.2.1 51 = .ok (.putfield 28, 3) := by decide +kernel
theorem J_HTape_init_d54 : decode J_HTape_init.2.1 54 = .ok (.aload_n 0, 1) := by decide +kernel
theorem J_HTape_init_d55 : decode J_HTape_init.2.1 55 = .ok (.iconst 5, 1) := by decide +kernel
theorem J_HTape_init_d56 : decode J_HTape_init.2.1 56 = .ok (.newarray .int, 2) := by decide +kernel
theorem J_HTape_init_d58 : decode J_HTape_init.2.1 58 = .ok (.putfield 31, 3) := by decide +kernel
theorem J_HTape_init_d61 : decode J_HTape_init.2.1 61 = .ok (.aload_n 0, 1) := by decide +kernel
theorem J_HTape_init_d62 : decode J_HTape_init.2.1 62 = .ok (.iconst 4, 1) := by decide +kernel
theorem J_HTape_init_d63 : decode J_HTape_init.2.1 63 = .ok (.newarray .int, 2) := by decide +kernel
theorem J_HTape_init_d65 : decode J_HTape_init.2.1 65 = .ok (.putfield 34, 3) := by decide +kernel
theorem J_HTape_init_d68 : decode J_HTape_init.2.1 68 = .ok (.aload_n 0, 1) := by decide +kernel
theorem J_HTape_init_d69 : decode J_HTape_init.2.1 69 = .ok (.sipush 200, 3) := by decide +kernel
theorem J_HTape_init_d72 : decode J_HTape_init.2.1 72 = .ok (.newarray .byte, 2) := by decide +kernel
theorem J_HTape_init_d74 : decode J_HTape_init.2.1 74 = .ok (.putfield 37, 3) := by decide +kernel
theorem J_HTape_init_d77 : decode J_HTape_init.2.1 77 = .ok (.return_, 1) := by decide +kernel
set_option maxRecDepth 20000 in
set_option maxHeartbeats 40000000 in
theorem cs_0 {L : Nat} {xs : Nat → Int32} {dep : Nat} : ia (tb_G L xs) dep J_HTape_init (fun v M1 => v = none ∧ M1 = mm_20) (0, lv_args 0 [.ref 1], [], mm_2) := by
  have hS : im_St (tb_G L xs) dep J_HTape_init (ia (tb_G L xs) dep J_HTape_init (fun v M1 => v = none ∧ M1 = mm_20)) := ia_St
  have h0 : im_lk (lv_args 0 [.ref 1]) 0 = some (.ref 1) := rfl
  refine iq_aload_n hS 1 J_HTape_init_d0 h0 rfl ?_
  refine iq_oinit hS 4 J_HTape_init_d1 (by decide +kernel) (Nat.le_of_ble_eq_true rfl) rfl ?_
  refine iq_aload_n hS 5 J_HTape_init_d4 h0 rfl ?_
  refine iq_sipush hS 8 J_HTape_init_d5 (v := 4096) (by decide +kernel) rfl ?_
  refine iq_newa hS 10 J_HTape_init_d8 (N := 4096) rfl (by decide) (by decide) (by decide) (by decide) (by decide) rfl ?_
  change ia _ _ _ _ (_, _, .ref 2 :: _, mm_3)
  refine iq_putR hS 13 J_HTape_init_d10 lf_10_11 (Or.inr ⟨rfl, rfl⟩) (Or.inr ⟨_, rfl⟩) ⟨by decide, rfl⟩ rfl ?_
  change ia _ _ _ _ (_, _, _, mm_4)
  refine iq_aload_n hS 14 J_HTape_init_d13 h0 rfl ?_
  refine iq_sipush hS 17 J_HTape_init_d14 (v := 3200) (by decide +kernel) rfl ?_
  refine iq_newa hS 19 J_HTape_init_d17 (N := 3200) rfl (by decide) (by decide) (by decide) (by decide) (by decide) rfl ?_
  change ia _ _ _ _ (_, _, .ref 3 :: _, mm_5)
  refine iq_putR hS 22 J_HTape_init_d19 lf_10_15 (Or.inr ⟨rfl, rfl⟩) (Or.inr ⟨_, rfl⟩) ⟨by decide, rfl⟩ rfl ?_
  change ia _ _ _ _ (_, _, _, mm_6)
  refine iq_aload_n hS 23 J_HTape_init_d22 h0 rfl ?_
  refine iq_bipush hS 25 J_HTape_init_d23 (v := 8) (by decide +kernel) rfl ?_
  refine iq_newa hS 27 J_HTape_init_d25 (N := 8) rfl (by decide) (by decide) (by decide) (by decide) (by decide) rfl ?_
  change ia _ _ _ _ (_, _, .ref 4 :: _, mm_7)
  refine iq_putR hS 30 J_HTape_init_d27 lf_10_18 (Or.inr ⟨rfl, rfl⟩) (Or.inr ⟨_, rfl⟩) ⟨by decide, rfl⟩ rfl ?_
  change ia _ _ _ _ (_, _, _, mm_8)
  refine iq_aload_n hS 31 J_HTape_init_d30 h0 rfl ?_
  refine iq_sipush hS 34 J_HTape_init_d31 (v := 2000) (by decide +kernel) rfl ?_
  refine iq_newa hS 36 J_HTape_init_d34 (N := 2000) rfl (by decide) (by decide) (by decide) (by decide) (by decide) rfl ?_
  change ia _ _ _ _ (_, _, .ref 5 :: _, mm_9)
  refine iq_putR hS 39 J_HTape_init_d36 lf_10_22 (Or.inr ⟨rfl, rfl⟩) (Or.inr ⟨_, rfl⟩) ⟨by decide, rfl⟩ rfl ?_
  change ia _ _ _ _ (_, _, _, mm_10)
  refine iq_aload_n hS 40 J_HTape_init_d39 h0 rfl ?_
  refine iq_bipush hS 42 J_HTape_init_d40 (v := 10) (by decide +kernel) rfl ?_
  refine iq_newa hS 44 J_HTape_init_d42 (N := 10) rfl (by decide) (by decide) (by decide) (by decide) (by decide) rfl ?_
  change ia _ _ _ _ (_, _, .ref 6 :: _, mm_11)
  refine iq_putR hS 47 J_HTape_init_d44 lf_10_25 (Or.inr ⟨rfl, rfl⟩) (Or.inr ⟨_, rfl⟩) ⟨by decide, rfl⟩ rfl ?_
  change ia _ _ _ _ (_, _, _, mm_12)
  refine iq_aload_n hS 48 J_HTape_init_d47 h0 rfl ?_
  refine iq_iconst hS 49 J_HTape_init_d48 (v := 5) (by decide +kernel) rfl ?_
  refine iq_newa hS 51 J_HTape_init_d49 (N := 5) rfl (by decide) (by decide) (by decide) (by decide) (by decide) rfl ?_
  change ia _ _ _ _ (_, _, .ref 7 :: _, mm_13)
  refine iq_putR hS 54 J_HTape_init_d51 lf_10_28 (Or.inr ⟨rfl, rfl⟩) (Or.inr ⟨_, rfl⟩) ⟨by decide, rfl⟩ rfl ?_
  change ia _ _ _ _ (_, _, _, mm_14)
  refine iq_aload_n hS 55 J_HTape_init_d54 h0 rfl ?_
  refine iq_iconst hS 56 J_HTape_init_d55 (v := 5) (by decide +kernel) rfl ?_
  refine iq_newa hS 58 J_HTape_init_d56 (N := 5) rfl (by decide) (by decide) (by decide) (by decide) (by decide) rfl ?_
  change ia _ _ _ _ (_, _, .ref 8 :: _, mm_15)
  refine iq_putR hS 61 J_HTape_init_d58 lf_10_31 (Or.inr ⟨rfl, rfl⟩) (Or.inr ⟨_, rfl⟩) ⟨by decide, rfl⟩ rfl ?_
  change ia _ _ _ _ (_, _, _, mm_16)
  refine iq_aload_n hS 62 J_HTape_init_d61 h0 rfl ?_
  refine iq_iconst hS 63 J_HTape_init_d62 (v := 4) (by decide +kernel) rfl ?_
  refine iq_newa hS 65 J_HTape_init_d63 (N := 4) rfl (by decide) (by decide) (by decide) (by decide) (by decide) rfl ?_
  change ia _ _ _ _ (_, _, .ref 9 :: _, mm_17)
  refine iq_putR hS 68 J_HTape_init_d65 lf_10_34 (Or.inr ⟨rfl, rfl⟩) (Or.inr ⟨_, rfl⟩) ⟨by decide, rfl⟩ rfl ?_
  change ia _ _ _ _ (_, _, _, mm_18)
  refine iq_aload_n hS 69 J_HTape_init_d68 h0 rfl ?_
  refine iq_sipush hS 72 J_HTape_init_d69 (v := 200) (by decide +kernel) rfl ?_
  refine iq_newa hS 74 J_HTape_init_d72 (N := 200) rfl (by decide) (by decide) (by decide) (by decide) (by decide) rfl ?_
  change ia _ _ _ _ (_, _, .ref 10 :: _, mm_19)
  refine iq_putR hS 77 J_HTape_init_d74 lf_10_37 (Or.inr ⟨rfl, rfl⟩) (Or.inr ⟨_, rfl⟩) ⟨by decide, rfl⟩ rfl ?_
  change ia _ _ _ _ (_, _, _, mm_20)
  exact iq_ret J_HTape_init_d77 rfl ⟨rfl, rfl⟩
theorem J_HOrders_init_d0 : decode J_HOrders_init.2.1 0 = .ok (.aload_n 0, 1) := by decide +kernel
theorem J_HOrders_init_d1 : decode J_HOrders_init.2.1 1 = .ok (.invokespecial 1, 3) := by decide +kernel
theorem J_HOrders_init_d4 : decode J_HOrders_init.2.1 4 = .ok (.aload_n 0, 1) := by decide +kernel
theorem J_HOrders_init_d5 : decode J_HOrders_init.2.1 5 = .ok (.sipush 200, 3) := by decide +kernel
theorem J_HOrders_init_d8 : decode J_HOrders_init.2.1 8 = .ok (.newarray .byte, 2) := by decide +kernel
theorem J_HOrders_init_d10 : decode J_HOrders_init.2.1 10 = .ok (.putfield 9, 3) := by decide +kernel
theorem J_HOrders_init_d13 : decode J_HOrders_init.2.1 13 = .ok (.aload_n 0, 1) := by decide +kernel
theorem J_HOrders_init_d14 : decode J_HOrders_init.2.1 14 = .ok (.iload_n 1, 1) := by decide +kernel
theorem J_HOrders_init_d15 : decode J_HOrders_init.2.1 15 = .ok (.bipush 14, 2) := by decide +kernel
theorem J_HOrders_init_d17 : decode J_HOrders_init.2.1 17 = .ok (.imul, 1) := by decide +kernel
theorem J_HOrders_init_d18 : decode J_HOrders_init.2.1 18 = .ok (.newarray .int, 2) := by decide +kernel
theorem J_HOrders_init_d20 : decode J_HOrders_init.2.1 20 = .ok (.putfield 13, 3) := by decide +kernel
theorem J_HOrders_init_d23 : decode J_HOrders_init.2.1 23 = .ok (.aload_n 0, 1) := by decide +kernel
theorem J_HOrders_init_d24 : decode J_HOrders_init.2.1 24 = .ok (.iload_n 1, 1) := by decide +kernel
theorem J_HOrders_init_d25 : decode J_HOrders_init.2.1 25 = .ok (.sipush 200, 3) := by decide +kernel
theorem J_HOrders_init_d28 : decode J_HOrders_init.2.1 28 = .ok (.imul, 1) := by decide +kernel
theorem J_HOrders_init_d29 : decode J_HOrders_init.2.1 29 = .ok (.newarray .byte, 2) := by decide +kernel
theorem J_HOrders_init_d31 : decode J_HOrders_init.2.1 31 = .ok (.putfield 17, 3) := by decide +kernel
theorem J_HOrders_init_d34 : decode J_HOrders_init.2.1 34 = .ok (.return_, 1) := by decide +kernel
set_option maxRecDepth 20000 in
set_option maxHeartbeats 40000000 in
theorem cs_1 {L : Nat} {xs : Nat → Int32} {dep : Nat} : ia (tb_G L xs) dep J_HOrders_init (fun v M1 => v = none ∧ M1 = mm_28) (0, lv_args 0 [.ref 11, .int 120], [], mm_22) := by
  have hS : im_St (tb_G L xs) dep J_HOrders_init (ia (tb_G L xs) dep J_HOrders_init (fun v M1 => v = none ∧ M1 = mm_28)) := ia_St
  have h0 : im_lk (lv_args 0 [.ref 11, .int 120]) 0 = some (.ref 11) := rfl
  have h1 : im_lk (lv_args 0 [.ref 11, .int 120]) 1 = some (.int 120) := rfl
  refine iq_aload_n hS 1 J_HOrders_init_d0 h0 rfl ?_
  refine iq_oinit hS 4 J_HOrders_init_d1 (by decide +kernel) (Nat.le_of_ble_eq_true rfl) rfl ?_
  refine iq_aload_n hS 5 J_HOrders_init_d4 h0 rfl ?_
  refine iq_sipush hS 8 J_HOrders_init_d5 (v := 200) (by decide +kernel) rfl ?_
  refine iq_newa hS 10 J_HOrders_init_d8 (N := 200) rfl (by decide) (by decide) (by decide) (by decide) (by decide) rfl ?_
  change ia _ _ _ _ (_, _, .ref 12 :: _, mm_23)
  refine iq_putR hS 13 J_HOrders_init_d10 lf_5_9 (Or.inr ⟨rfl, rfl⟩) (Or.inr ⟨_, rfl⟩) ⟨by decide, rfl⟩ rfl ?_
  change ia _ _ _ _ (_, _, _, mm_24)
  refine iq_aload_n hS 14 J_HOrders_init_d13 h0 rfl ?_
  refine iq_iload_n hS 15 J_HOrders_init_d14 h1 rfl ?_
  refine iq_bipush hS 17 J_HOrders_init_d15 (v := 14) (by decide +kernel) rfl ?_
  refine iq_imul hS 18 J_HOrders_init_d17 rfl ?_
  refine iq_newa hS 20 J_HOrders_init_d18 (N := 1680) rfl (by decide) (by decide) (by decide) (by decide) (by decide) rfl ?_
  change ia _ _ _ _ (_, _, .ref 13 :: _, mm_25)
  refine iq_putR hS 23 J_HOrders_init_d20 lf_5_13 (Or.inr ⟨rfl, rfl⟩) (Or.inr ⟨_, rfl⟩) ⟨by decide, rfl⟩ rfl ?_
  change ia _ _ _ _ (_, _, _, mm_26)
  refine iq_aload_n hS 24 J_HOrders_init_d23 h0 rfl ?_
  refine iq_iload_n hS 25 J_HOrders_init_d24 h1 rfl ?_
  refine iq_sipush hS 28 J_HOrders_init_d25 (v := 200) (by decide +kernel) rfl ?_
  refine iq_imul hS 29 J_HOrders_init_d28 rfl ?_
  refine iq_newa hS 31 J_HOrders_init_d29 (N := 24000) rfl (by decide) (by decide) (by decide) (by decide) (by decide) rfl ?_
  change ia _ _ _ _ (_, _, .ref 14 :: _, mm_27)
  refine iq_putR hS 34 J_HOrders_init_d31 lf_5_17 (Or.inr ⟨rfl, rfl⟩) (Or.inr ⟨_, rfl⟩) ⟨by decide, rfl⟩ rfl ?_
  change ia _ _ _ _ (_, _, _, mm_28)
  exact iq_ret J_HOrders_init_d34 rfl ⟨rfl, rfl⟩
set_option maxRecDepth 20000 in
set_option maxHeartbeats 40000000 in
theorem cs_2 {L : Nat} {xs : Nat → Int32} {dep : Nat} : ia (tb_G L xs) dep J_HOrders_init (fun v M1 => v = none ∧ M1 = mm_46) (0, lv_args 0 [.ref 19, .int 140], [], mm_40) := by
  have hS : im_St (tb_G L xs) dep J_HOrders_init (ia (tb_G L xs) dep J_HOrders_init (fun v M1 => v = none ∧ M1 = mm_46)) := ia_St
  have h0 : im_lk (lv_args 0 [.ref 19, .int 140]) 0 = some (.ref 19) := rfl
  have h1 : im_lk (lv_args 0 [.ref 19, .int 140]) 1 = some (.int 140) := rfl
  refine iq_aload_n hS 1 J_HOrders_init_d0 h0 rfl ?_
  refine iq_oinit hS 4 J_HOrders_init_d1 (by decide +kernel) (Nat.le_of_ble_eq_true rfl) rfl ?_
  refine iq_aload_n hS 5 J_HOrders_init_d4 h0 rfl ?_
  refine iq_sipush hS 8 J_HOrders_init_d5 (v := 200) (by decide +kernel) rfl ?_
  refine iq_newa hS 10 J_HOrders_init_d8 (N := 200) rfl (by decide) (by decide) (by decide) (by decide) (by decide) rfl ?_
  change ia _ _ _ _ (_, _, .ref 20 :: _, mm_41)
  refine iq_putR hS 13 J_HOrders_init_d10 lf_5_9 (Or.inr ⟨rfl, rfl⟩) (Or.inr ⟨_, rfl⟩) ⟨by decide, rfl⟩ rfl ?_
  change ia _ _ _ _ (_, _, _, mm_42)
  refine iq_aload_n hS 14 J_HOrders_init_d13 h0 rfl ?_
  refine iq_iload_n hS 15 J_HOrders_init_d14 h1 rfl ?_
  refine iq_bipush hS 17 J_HOrders_init_d15 (v := 14) (by decide +kernel) rfl ?_
  refine iq_imul hS 18 J_HOrders_init_d17 rfl ?_
  refine iq_newa hS 20 J_HOrders_init_d18 (N := 1960) rfl (by decide) (by decide) (by decide) (by decide) (by decide) rfl ?_
  change ia _ _ _ _ (_, _, .ref 21 :: _, mm_43)
  refine iq_putR hS 23 J_HOrders_init_d20 lf_5_13 (Or.inr ⟨rfl, rfl⟩) (Or.inr ⟨_, rfl⟩) ⟨by decide, rfl⟩ rfl ?_
  change ia _ _ _ _ (_, _, _, mm_44)
  refine iq_aload_n hS 24 J_HOrders_init_d23 h0 rfl ?_
  refine iq_iload_n hS 25 J_HOrders_init_d24 h1 rfl ?_
  refine iq_sipush hS 28 J_HOrders_init_d25 (v := 200) (by decide +kernel) rfl ?_
  refine iq_imul hS 29 J_HOrders_init_d28 rfl ?_
  refine iq_newa hS 31 J_HOrders_init_d29 (N := 28000) rfl (by decide) (by decide) (by decide) (by decide) (by decide) rfl ?_
  change ia _ _ _ _ (_, _, .ref 22 :: _, mm_45)
  refine iq_putR hS 34 J_HOrders_init_d31 lf_5_17 (Or.inr ⟨rfl, rfl⟩) (Or.inr ⟨_, rfl⟩) ⟨by decide, rfl⟩ rfl ?_
  change ia _ _ _ _ (_, _, _, mm_46)
  exact iq_ret J_HOrders_init_d34 rfl ⟨rfl, rfl⟩
theorem J_HField_init_d0 : decode J_HField_init.2.1 0 = .ok (.aload_n 0, 1) := by decide +kernel
theorem J_HField_init_d1 : decode J_HField_init.2.1 1 = .ok (.invokespecial 3, 3) := by decide +kernel
theorem J_HField_init_d4 : decode J_HField_init.2.1 4 = .ok (.aload_n 0, 1) := by decide +kernel
theorem J_HField_init_d5 : decode J_HField_init.2.1 5 = .ok (.iconst 4, 1) := by decide +kernel
theorem J_HField_init_d6 : decode J_HField_init.2.1 6 = .ok (.newarray .int, 2) := by decide +kernel
theorem J_HField_init_d8 : decode J_HField_init.2.1 8 = .ok (.putfield 9, 3) := by decide +kernel
theorem J_HField_init_d11 : decode J_HField_init.2.1 11 = .ok (.aload_n 0, 1) := by decide +kernel
theorem J_HField_init_d12 : decode J_HField_init.2.1 12 = .ok (.sipush 200, 3) := by decide +kernel
theorem J_HField_init_d15 : decode J_HField_init.2.1 15 = .ok (.newarray .byte, 2) := by decide +kernel
theorem J_HField_init_d17 : decode J_HField_init.2.1 17 = .ok (.putfield 17, 3) := by decide +kernel
theorem J_HField_init_d20 : decode J_HField_init.2.1 20 = .ok (.aload_n 0, 1) := by decide +kernel
theorem J_HField_init_d21 : decode J_HField_init.2.1 21 = .ok (.bipush 20, 2) := by decide +kernel
theorem J_HField_init_d23 : decode J_HField_init.2.1 23 = .ok (.newarray .int, 2) := by decide +kernel
theorem J_HField_init_d25 : decode J_HField_init.2.1 25 = .ok (.putfield 21, 3) := by decide +kernel
theorem J_HField_init_d28 : decode J_HField_init.2.1 28 = .ok (.aload_n 0, 1) := by decide +kernel
theorem J_HField_init_d29 : decode J_HField_init.2.1 29 = .ok (.bipush 20, 2) := by decide +kernel
theorem J_HField_init_d31 : decode J_HField_init.2.1 31 = .ok (.newarray .int, 2) := by decide +kernel
theorem J_HField_init_d33 : decode J_HField_init.2.1 33 = .ok (.putfield 24, 3) := by decide +kernel
theorem J_HField_init_d36 : decode J_HField_init.2.1 36 = .ok (.return_, 1) := by decide +kernel
set_option maxRecDepth 20000 in
set_option maxHeartbeats 40000000 in
theorem cs_3 {L : Nat} {xs : Nat → Int32} {dep : Nat} : ia (tb_G L xs) dep J_HField_init (fun v M1 => v = none ∧ M1 = mm_56) (0, lv_args 0 [.ref 23], [], mm_48) := by
  have hS : im_St (tb_G L xs) dep J_HField_init (ia (tb_G L xs) dep J_HField_init (fun v M1 => v = none ∧ M1 = mm_56)) := ia_St
  have h0 : im_lk (lv_args 0 [.ref 23]) 0 = some (.ref 23) := rfl
  refine iq_aload_n hS 1 J_HField_init_d0 h0 rfl ?_
  refine iq_oinit hS 4 J_HField_init_d1 (by decide +kernel) (Nat.le_of_ble_eq_true rfl) rfl ?_
  refine iq_aload_n hS 5 J_HField_init_d4 h0 rfl ?_
  refine iq_iconst hS 6 J_HField_init_d5 (v := 4) (by decide +kernel) rfl ?_
  refine iq_newa hS 8 J_HField_init_d6 (N := 4) rfl (by decide) (by decide) (by decide) (by decide) (by decide) rfl ?_
  change ia _ _ _ _ (_, _, .ref 24 :: _, mm_49)
  refine iq_putR hS 11 J_HField_init_d8 lf_2_9 (Or.inr ⟨rfl, rfl⟩) (Or.inr ⟨_, rfl⟩) ⟨by decide, rfl⟩ rfl ?_
  change ia _ _ _ _ (_, _, _, mm_50)
  refine iq_aload_n hS 12 J_HField_init_d11 h0 rfl ?_
  refine iq_sipush hS 15 J_HField_init_d12 (v := 200) (by decide +kernel) rfl ?_
  refine iq_newa hS 17 J_HField_init_d15 (N := 200) rfl (by decide) (by decide) (by decide) (by decide) (by decide) rfl ?_
  change ia _ _ _ _ (_, _, .ref 25 :: _, mm_51)
  refine iq_putR hS 20 J_HField_init_d17 lf_2_17 (Or.inr ⟨rfl, rfl⟩) (Or.inr ⟨_, rfl⟩) ⟨by decide, rfl⟩ rfl ?_
  change ia _ _ _ _ (_, _, _, mm_52)
  refine iq_aload_n hS 21 J_HField_init_d20 h0 rfl ?_
  refine iq_bipush hS 23 J_HField_init_d21 (v := 20) (by decide +kernel) rfl ?_
  refine iq_newa hS 25 J_HField_init_d23 (N := 20) rfl (by decide) (by decide) (by decide) (by decide) (by decide) rfl ?_
  change ia _ _ _ _ (_, _, .ref 26 :: _, mm_53)
  refine iq_putR hS 28 J_HField_init_d25 lf_2_21 (Or.inr ⟨rfl, rfl⟩) (Or.inr ⟨_, rfl⟩) ⟨by decide, rfl⟩ rfl ?_
  change ia _ _ _ _ (_, _, _, mm_54)
  refine iq_aload_n hS 29 J_HField_init_d28 h0 rfl ?_
  refine iq_bipush hS 31 J_HField_init_d29 (v := 20) (by decide +kernel) rfl ?_
  refine iq_newa hS 33 J_HField_init_d31 (N := 20) rfl (by decide) (by decide) (by decide) (by decide) (by decide) rfl ?_
  change ia _ _ _ _ (_, _, .ref 27 :: _, mm_55)
  refine iq_putR hS 36 J_HField_init_d33 lf_2_24 (Or.inr ⟨rfl, rfl⟩) (Or.inr ⟨_, rfl⟩) ⟨by decide, rfl⟩ rfl ?_
  change ia _ _ _ _ (_, _, _, mm_56)
  exact iq_ret J_HField_init_d36 rfl ⟨rfl, rfl⟩
theorem J_HSetter_init_d0 : decode J_HSetter_init.2.1 0 = .ok (.aload_n 0, 1) := by decide +kernel
theorem J_HSetter_init_d1 : decode J_HSetter_init.2.1 1 = .ok (.invokespecial 3, 3) := by decide +kernel
theorem J_HSetter_init_d4 : decode J_HSetter_init.2.1 4 = .ok (.aload_n 0, 1) := by decide +kernel
theorem J_HSetter_init_d5 : decode J_HSetter_init.2.1 5 = .ok (.bipush 48, 2) := by decide +kernel
theorem J_HSetter_init_d7 : decode J_HSetter_init.2.1 7 = .ok (.newarray .int, 2) := by decide +kernel
theorem J_HSetter_init_d9 : decode J_HSetter_init.2.1 9 = .ok (.putfield 11, 3) := by decide +kernel
theorem J_HSetter_init_d12 : decode J_HSetter_init.2.1 12 = .ok (.aload_n 0, 1) := by decide +kernel
theorem J_HSetter_init_d13 : decode J_HSetter_init.2.1 13 = .ok (.iconst (-1), 1) := by decide +kernel
theorem J_HSetter_init_d14 : decode J_HSetter_init.2.1 14 = .ok (.putfield 15, 3) := by decide +kernel
theorem J_HSetter_init_d17 : decode J_HSetter_init.2.1 17 = .ok (.aload_n 0, 1) := by decide +kernel
theorem J_HSetter_init_d18 : decode J_HSetter_init.2.1 18 = .ok (.iconst 2, 1) := by decide +kernel
theorem J_HSetter_init_d19 : decode J_HSetter_init.2.1 19 = .ok (.newarray .int, 2) := by decide +kernel
theorem J_HSetter_init_d21 : decode J_HSetter_init.2.1 21 = .ok (.putfield 19, 3) := by decide +kernel
theorem J_HSetter_init_d24 : decode J_HSetter_init.2.1 24 = .ok (.aload_n 0, 1) := by decide +kernel
theorem J_HSetter_init_d25 : decode J_HSetter_init.2.1 25 = .ok (.iconst 4, 1) := by decide +kernel
theorem J_HSetter_init_d26 : decode J_HSetter_init.2.1 26 = .ok (.newarray .int, 2) := by decide +kernel
theorem J_HSetter_init_d28 : decode J_HSetter_init.2.1 28 = .ok (.putfield 22, 3) := by decide +kernel
theorem J_HSetter_init_d31 : decode J_HSetter_init.2.1 31 = .ok (.aload_n 0, 1) := by decide +kernel
theorem J_HSetter_init_d32 : decode J_HSetter_init.2.1 32 = .ok (.aload_n 1, 1) := by decide +kernel
theorem J_HSetter_init_d33 : decode J_HSetter_init.2.1 33 = .ok (.putfield 25, 3) := by decide +kernel
theorem J_HSetter_init_d36 : decode J_HSetter_init.2.1 36 = .ok (.aload_n 0, 1) := by decide +kernel
theorem J_HSetter_init_d37 : decode J_HSetter_init.2.1 37 = .ok (.aload_n 2, 1) := by decide +kernel
theorem J_HSetter_init_d38 : decode J_HSetter_init.2.1 38 = .ok (.putfield 29, 3) := by decide +kernel
theorem J_HSetter_init_d41 : decode J_HSetter_init.2.1 41 = .ok (.aload_n 0, 1) := by decide +kernel
theorem J_HSetter_init_d42 : decode J_HSetter_init.2.1 42 = .ok (.new 33, 3) := by decide +kernel
theorem J_HSetter_init_d45 : decode J_HSetter_init.2.1 45 = .ok (.dup, 1) := by decide +kernel
theorem J_HSetter_init_d46 : decode J_HSetter_init.2.1 46 = .ok (.sipush 140, 3) := by decide +kernel
theorem J_HSetter_init_d49 : decode J_HSetter_init.2.1 49 = .ok (.invokespecial 37, 3) := by decide +kernel
theorem J_HSetter_init_d52 : decode J_HSetter_init.2.1 52 = .ok (.putfield 40, 3) := by decide +kernel
theorem J_HSetter_init_d55 : decode J_HSetter_init.2.1 55 = .ok (.aload_n 0, 1) := by decide +kernel
theorem J_HSetter_init_d56 : decode J_HSetter_init.2.1 56 = .ok (.new 35, 3) := by decide +kernel
theorem J_HSetter_init_d59 : decode J_HSetter_init.2.1 59 = .ok (.dup, 1) := by decide +kernel
theorem J_HSetter_init_d60 : decode J_HSetter_init.2.1 60 = .ok (.invokespecial 43, 3) := by decide +kernel
theorem J_HSetter_init_d63 : decode J_HSetter_init.2.1 63 = .ok (.putfield 44, 3) := by decide +kernel
theorem J_HSetter_init_d66 : decode J_HSetter_init.2.1 66 = .ok (.return_, 1) := by decide +kernel
set_option maxRecDepth 20000 in
set_option maxHeartbeats 40000000 in
theorem cs_4 {L : Nat} {xs : Nat → Int32} {dep : Nat} : ia (tb_G L xs) (dep + 1) J_HSetter_init (fun v M1 => v = none ∧ M1 = mm_57) (0, lv_args 0 [.ref 15, .ref 1, .ref 11], [], mm_30) := by
  have hS : im_St (tb_G L xs) (dep + 1) J_HSetter_init (ia (tb_G L xs) (dep + 1) J_HSetter_init (fun v M1 => v = none ∧ M1 = mm_57)) := ia_St
  have h0 : im_lk (lv_args 0 [.ref 15, .ref 1, .ref 11]) 0 = some (.ref 15) := rfl
  have h1 : im_lk (lv_args 0 [.ref 15, .ref 1, .ref 11]) 1 = some (.ref 1) := rfl
  have h2 : im_lk (lv_args 0 [.ref 15, .ref 1, .ref 11]) 2 = some (.ref 11) := rfl
  refine iq_aload_n hS 1 J_HSetter_init_d0 h0 rfl ?_
  refine iq_oinit hS 4 J_HSetter_init_d1 (by decide +kernel) (Nat.le_of_ble_eq_true rfl) rfl ?_
  refine iq_aload_n hS 5 J_HSetter_init_d4 h0 rfl ?_
  refine iq_bipush hS 7 J_HSetter_init_d5 (v := 48) (by decide +kernel) rfl ?_
  refine iq_newa hS 9 J_HSetter_init_d7 (N := 48) rfl (by decide) (by decide) (by decide) (by decide) (by decide) rfl ?_
  change ia _ _ _ _ (_, _, .ref 16 :: _, mm_31)
  refine iq_putR hS 12 J_HSetter_init_d9 lf_8_11 (Or.inr ⟨rfl, rfl⟩) (Or.inr ⟨_, rfl⟩) ⟨by decide, rfl⟩ rfl ?_
  change ia _ _ _ _ (_, _, _, mm_32)
  refine iq_aload_n hS 13 J_HSetter_init_d12 h0 rfl ?_
  refine iq_iconst hS 14 J_HSetter_init_d13 (v := (-1)) (by decide +kernel) rfl ?_
  refine iq_putI hS 17 J_HSetter_init_d14 lf_8_15 (Or.inl rfl) rfl ⟨by decide, rfl⟩ rfl ?_
  change ia _ _ _ _ (_, _, _, mm_33)
  refine iq_aload_n hS 18 J_HSetter_init_d17 h0 rfl ?_
  refine iq_iconst hS 19 J_HSetter_init_d18 (v := 2) (by decide +kernel) rfl ?_
  refine iq_newa hS 21 J_HSetter_init_d19 (N := 2) rfl (by decide) (by decide) (by decide) (by decide) (by decide) rfl ?_
  change ia _ _ _ _ (_, _, .ref 17 :: _, mm_34)
  refine iq_putR hS 24 J_HSetter_init_d21 lf_8_19 (Or.inr ⟨rfl, rfl⟩) (Or.inr ⟨_, rfl⟩) ⟨by decide, rfl⟩ rfl ?_
  change ia _ _ _ _ (_, _, _, mm_35)
  refine iq_aload_n hS 25 J_HSetter_init_d24 h0 rfl ?_
  refine iq_iconst hS 26 J_HSetter_init_d25 (v := 4) (by decide +kernel) rfl ?_
  refine iq_newa hS 28 J_HSetter_init_d26 (N := 4) rfl (by decide) (by decide) (by decide) (by decide) (by decide) rfl ?_
  change ia _ _ _ _ (_, _, .ref 18 :: _, mm_36)
  refine iq_putR hS 31 J_HSetter_init_d28 lf_8_22 (Or.inr ⟨rfl, rfl⟩) (Or.inr ⟨_, rfl⟩) ⟨by decide, rfl⟩ rfl ?_
  change ia _ _ _ _ (_, _, _, mm_37)
  refine iq_aload_n hS 32 J_HSetter_init_d31 h0 rfl ?_
  refine iq_aload_n hS 33 J_HSetter_init_d32 h1 rfl ?_
  refine iq_putR hS 36 J_HSetter_init_d33 lf_8_25 (Or.inr ⟨rfl, rfl⟩) (Or.inl ⟨_, rfl⟩) ⟨by decide, rfl⟩ rfl ?_
  change ia _ _ _ _ (_, _, _, mm_38)
  refine iq_aload_n hS 37 J_HSetter_init_d36 h0 rfl ?_
  refine iq_aload_n hS 38 J_HSetter_init_d37 h2 rfl ?_
  refine iq_putR hS 41 J_HSetter_init_d38 lf_8_29 (Or.inr ⟨rfl, rfl⟩) (Or.inl ⟨_, rfl⟩) ⟨by decide, rfl⟩ rfl ?_
  change ia _ _ _ _ (_, _, _, mm_39)
  refine iq_aload_n hS 42 J_HSetter_init_d41 h0 rfl ?_
  refine iq_new 45 J_HSetter_init_d42 ln_8_33 rfl (by decide) (by decide) rfl ?_
  change ia _ _ _ _ (_, _, .ref 19 :: _, mm_40)
  refine iq_dup hS 46 J_HSetter_init_d45 rfl rfl ?_
  refine iq_sipush hS 49 J_HSetter_init_d46 (v := 140) (by decide +kernel) rfl ?_
  refine iq_call hS 52 J_HSetter_init_d49 rfl (pr_inst (vs := [_]) lc_8_37 lT_2 rfl rfl (by decide) (by decide) rfl (Nat.le_of_ble_eq_true rfl) (Nat.le_of_ble_eq_true rfl) (fun q => absurd q (by decide))) cs_2 rfl ?_
  rintro v M1 ⟨rfl, rfl⟩
  refine iq_putR hS 55 J_HSetter_init_d52 lf_8_40 (Or.inr ⟨rfl, rfl⟩) (Or.inl ⟨_, rfl⟩) ⟨by decide, rfl⟩ rfl ?_
  change ia _ _ _ _ (_, _, _, mm_47)
  refine iq_aload_n hS 56 J_HSetter_init_d55 h0 rfl ?_
  refine iq_new 59 J_HSetter_init_d56 ln_8_35 rfl (by decide) (by decide) rfl ?_
  change ia _ _ _ _ (_, _, .ref 23 :: _, mm_48)
  refine iq_dup hS 60 J_HSetter_init_d59 rfl rfl ?_
  refine iq_call hS 63 J_HSetter_init_d60 rfl (pr_inst (vs := []) lc_8_43 lT_4 rfl rfl (by decide) (by decide) rfl (Nat.le_of_ble_eq_true rfl) (Nat.le_of_ble_eq_true rfl) (fun q => absurd q (by decide))) cs_3 rfl ?_
  rintro v M1 ⟨rfl, rfl⟩
  refine iq_putR hS 66 J_HSetter_init_d63 lf_8_44 (Or.inr ⟨rfl, rfl⟩) (Or.inl ⟨_, rfl⟩) ⟨by decide, rfl⟩ rfl ?_
  change ia _ _ _ _ (_, _, _, mm_57)
  exact iq_ret J_HSetter_init_d66 rfl ⟨rfl, rfl⟩
theorem J_HSheet_init_d0 : decode J_HSheet_init.2.1 0 = .ok (.aload_n 0, 1) := by decide +kernel
theorem J_HSheet_init_d1 : decode J_HSheet_init.2.1 1 = .ok (.invokespecial 3, 3) := by decide +kernel
theorem J_HSheet_init_d4 : decode J_HSheet_init.2.1 4 = .ok (.aload_n 0, 1) := by decide +kernel
theorem J_HSheet_init_d5 : decode J_HSheet_init.2.1 5 = .ok (.bipush 64, 2) := by decide +kernel
theorem J_HSheet_init_d7 : decode J_HSheet_init.2.1 7 = .ok (.putfield 9, 3) := by decide +kernel
theorem J_HSheet_init_d10 : decode J_HSheet_init.2.1 10 = .ok (.aload_n 0, 1) := by decide +kernel
theorem J_HSheet_init_d11 : decode J_HSheet_init.2.1 11 = .ok (.bipush 64, 2) := by decide +kernel
theorem J_HSheet_init_d13 : decode J_HSheet_init.2.1 13 = .ok (.putfield 15, 3) := by decide +kernel
theorem J_HSheet_init_d16 : decode J_HSheet_init.2.1 16 = .ok (.aload_n 0, 1) := by decide +kernel
theorem J_HSheet_init_d17 : decode J_HSheet_init.2.1 17 = .ok (.sipush 4096, 3) := by decide +kernel
theorem J_HSheet_init_d20 : decode J_HSheet_init.2.1 20 = .ok (.newarray .long, 2) := by decide +kernel
theorem J_HSheet_init_d22 : decode J_HSheet_init.2.1 22 = .ok (.putfield 18, 3) := by decide +kernel
theorem J_HSheet_init_d25 : decode J_HSheet_init.2.1 25 = .ok (.aload_n 0, 1) := by decide +kernel
theorem J_HSheet_init_d26 : decode J_HSheet_init.2.1 26 = .ok (.sipush 4096, 3) := by decide +kernel
theorem J_HSheet_init_d29 : decode J_HSheet_init.2.1 29 = .ok (.newarray .long, 2) := by decide +kernel
theorem J_HSheet_init_d31 : decode J_HSheet_init.2.1 31 = .ok (.putfield 22, 3) := by decide +kernel
theorem J_HSheet_init_d34 : decode J_HSheet_init.2.1 34 = .ok (.return_, 1) := by decide +kernel
set_option maxRecDepth 20000 in
set_option maxHeartbeats 40000000 in
theorem cs_5 {L : Nat} {xs : Nat → Int32} {dep : Nat} : ia (tb_G L xs) dep J_HSheet_init (fun v M1 => v = none ∧ M1 = mm_65) (0, lv_args 0 [.ref 28], [], mm_59) := by
  have hS : im_St (tb_G L xs) dep J_HSheet_init (ia (tb_G L xs) dep J_HSheet_init (fun v M1 => v = none ∧ M1 = mm_65)) := ia_St
  have h0 : im_lk (lv_args 0 [.ref 28]) 0 = some (.ref 28) := rfl
  refine iq_aload_n hS 1 J_HSheet_init_d0 h0 rfl ?_
  refine iq_oinit hS 4 J_HSheet_init_d1 (by decide +kernel) (Nat.le_of_ble_eq_true rfl) rfl ?_
  refine iq_aload_n hS 5 J_HSheet_init_d4 h0 rfl ?_
  refine iq_bipush hS 7 J_HSheet_init_d5 (v := 64) (by decide +kernel) rfl ?_
  refine iq_putI hS 10 J_HSheet_init_d7 lf_9_9 (Or.inl rfl) rfl ⟨by decide, rfl⟩ rfl ?_
  change ia _ _ _ _ (_, _, _, mm_60)
  refine iq_aload_n hS 11 J_HSheet_init_d10 h0 rfl ?_
  refine iq_bipush hS 13 J_HSheet_init_d11 (v := 64) (by decide +kernel) rfl ?_
  refine iq_putI hS 16 J_HSheet_init_d13 lf_9_15 (Or.inl rfl) rfl ⟨by decide, rfl⟩ rfl ?_
  change ia _ _ _ _ (_, _, _, mm_61)
  refine iq_aload_n hS 17 J_HSheet_init_d16 h0 rfl ?_
  refine iq_sipush hS 20 J_HSheet_init_d17 (v := 4096) (by decide +kernel) rfl ?_
  refine iq_newa hS 22 J_HSheet_init_d20 (N := 4096) rfl (by decide) (by decide) (by decide) (by decide) (by decide) rfl ?_
  change ia _ _ _ _ (_, _, .ref 29 :: _, mm_62)
  refine iq_putR hS 25 J_HSheet_init_d22 lf_9_18 (Or.inl rfl) (Or.inr ⟨_, rfl⟩) ⟨by decide, rfl⟩ rfl ?_
  change ia _ _ _ _ (_, _, _, mm_63)
  refine iq_aload_n hS 26 J_HSheet_init_d25 h0 rfl ?_
  refine iq_sipush hS 29 J_HSheet_init_d26 (v := 4096) (by decide +kernel) rfl ?_
  refine iq_newa hS 31 J_HSheet_init_d29 (N := 4096) rfl (by decide) (by decide) (by decide) (by decide) (by decide) rfl ?_
  change ia _ _ _ _ (_, _, .ref 30 :: _, mm_64)
  refine iq_putR hS 34 J_HSheet_init_d31 lf_9_22 (Or.inl rfl) (Or.inr ⟨_, rfl⟩) ⟨by decide, rfl⟩ rfl ?_
  change ia _ _ _ _ (_, _, _, mm_65)
  exact iq_ret J_HSheet_init_d34 rfl ⟨rfl, rfl⟩
theorem J_HBars_init_d0 : decode J_HBars_init.2.1 0 = .ok (.aload_n 0, 1) := by decide +kernel
theorem J_HBars_init_d1 : decode J_HBars_init.2.1 1 = .ok (.invokespecial 3, 3) := by decide +kernel
theorem J_HBars_init_d4 : decode J_HBars_init.2.1 4 = .ok (.aload_n 0, 1) := by decide +kernel
theorem J_HBars_init_d5 : decode J_HBars_init.2.1 5 = .ok (.sipush 512, 3) := by decide +kernel
theorem J_HBars_init_d8 : decode J_HBars_init.2.1 8 = .ok (.newarray .int, 2) := by decide +kernel
theorem J_HBars_init_d10 : decode J_HBars_init.2.1 10 = .ok (.putfield 11, 3) := by decide +kernel
theorem J_HBars_init_d13 : decode J_HBars_init.2.1 13 = .ok (.aload_n 0, 1) := by decide +kernel
theorem J_HBars_init_d14 : decode J_HBars_init.2.1 14 = .ok (.sipush 900, 3) := by decide +kernel
theorem J_HBars_init_d17 : decode J_HBars_init.2.1 17 = .ok (.newarray .int, 2) := by decide +kernel
theorem J_HBars_init_d19 : decode J_HBars_init.2.1 19 = .ok (.putfield 17, 3) := by decide +kernel
theorem J_HBars_init_d22 : decode J_HBars_init.2.1 22 = .ok (.aload_n 0, 1) := by decide +kernel
theorem J_HBars_init_d23 : decode J_HBars_init.2.1 23 = .ok (.bipush 65, 2) := by decide +kernel
theorem J_HBars_init_d25 : decode J_HBars_init.2.1 25 = .ok (.newarray .int, 2) := by decide +kernel
theorem J_HBars_init_d27 : decode J_HBars_init.2.1 27 = .ok (.putfield 20, 3) := by decide +kernel
theorem J_HBars_init_d30 : decode J_HBars_init.2.1 30 = .ok (.aload_n 0, 1) := by decide +kernel
theorem J_HBars_init_d31 : decode J_HBars_init.2.1 31 = .ok (.sipush 198, 3) := by decide +kernel
theorem J_HBars_init_d34 : decode J_HBars_init.2.1 34 = .ok (.newarray .int, 2) := by decide +kernel
theorem J_HBars_init_d36 : decode J_HBars_init.2.1 36 = .ok (.putfield 23, 3) := by decide +kernel
theorem J_HBars_init_d39 : decode J_HBars_init.2.1 39 = .ok (.aload_n 0, 1) := by decide +kernel
theorem J_HBars_init_d40 : decode J_HBars_init.2.1 40 = .ok (.sipush 140, 3) := by decide +kernel
theorem J_HBars_init_d43 : decode J_HBars_init.2.1 43 = .ok (.newarray .int, 2) := by decide +kernel
theorem J_HBars_init_d45 : decode J_HBars_init.2.1 45 = .ok (.putfield 26, 3) := by decide +kernel
theorem J_HBars_init_d48 : decode J_HBars_init.2.1 48 = .ok (.aload_n 0, 1) := by decide +kernel
theorem J_HBars_init_d49 : decode J_HBars_init.2.1 49 = .ok (.bipush 13, 2) := by decide +kernel
theorem J_HBars_init_d51 : decode J_HBars_init.2.1 51 = .ok (.newarray .int, 2) := by decide +kernel
theorem J_HBars_init_d53 : decode J_HBars_init.2.1 53 = .ok (.putfield 29, 3) := by decide +kernel
theorem J_HBars_init_d56 : decode J_HBars_init.2.1 56 = .ok (.return_, 1) := by decide +kernel
set_option maxRecDepth 20000 in
set_option maxHeartbeats 40000000 in
theorem cs_6 {L : Nat} {xs : Nat → Int32} {dep : Nat} : ia (tb_G L xs) dep J_HBars_init (fun v M1 => v = none ∧ M1 = mm_79) (0, lv_args 0 [.ref 31], [], mm_67) := by
  have hS : im_St (tb_G L xs) dep J_HBars_init (ia (tb_G L xs) dep J_HBars_init (fun v M1 => v = none ∧ M1 = mm_79)) := ia_St
  have h0 : im_lk (lv_args 0 [.ref 31]) 0 = some (.ref 31) := rfl
  refine iq_aload_n hS 1 J_HBars_init_d0 h0 rfl ?_
  refine iq_oinit hS 4 J_HBars_init_d1 (by decide +kernel) (Nat.le_of_ble_eq_true rfl) rfl ?_
  refine iq_aload_n hS 5 J_HBars_init_d4 h0 rfl ?_
  refine iq_sipush hS 8 J_HBars_init_d5 (v := 512) (by decide +kernel) rfl ?_
  refine iq_newa hS 10 J_HBars_init_d8 (N := 512) rfl (by decide) (by decide) (by decide) (by decide) (by decide) rfl ?_
  change ia _ _ _ _ (_, _, .ref 32 :: _, mm_68)
  refine iq_putR hS 13 J_HBars_init_d10 lf_0_11 (Or.inr ⟨rfl, rfl⟩) (Or.inr ⟨_, rfl⟩) ⟨by decide, rfl⟩ rfl ?_
  change ia _ _ _ _ (_, _, _, mm_69)
  refine iq_aload_n hS 14 J_HBars_init_d13 h0 rfl ?_
  refine iq_sipush hS 17 J_HBars_init_d14 (v := 900) (by decide +kernel) rfl ?_
  refine iq_newa hS 19 J_HBars_init_d17 (N := 900) rfl (by decide) (by decide) (by decide) (by decide) (by decide) rfl ?_
  change ia _ _ _ _ (_, _, .ref 33 :: _, mm_70)
  refine iq_putR hS 22 J_HBars_init_d19 lf_0_17 (Or.inr ⟨rfl, rfl⟩) (Or.inr ⟨_, rfl⟩) ⟨by decide, rfl⟩ rfl ?_
  change ia _ _ _ _ (_, _, _, mm_71)
  refine iq_aload_n hS 23 J_HBars_init_d22 h0 rfl ?_
  refine iq_bipush hS 25 J_HBars_init_d23 (v := 65) (by decide +kernel) rfl ?_
  refine iq_newa hS 27 J_HBars_init_d25 (N := 65) rfl (by decide) (by decide) (by decide) (by decide) (by decide) rfl ?_
  change ia _ _ _ _ (_, _, .ref 34 :: _, mm_72)
  refine iq_putR hS 30 J_HBars_init_d27 lf_0_20 (Or.inr ⟨rfl, rfl⟩) (Or.inr ⟨_, rfl⟩) ⟨by decide, rfl⟩ rfl ?_
  change ia _ _ _ _ (_, _, _, mm_73)
  refine iq_aload_n hS 31 J_HBars_init_d30 h0 rfl ?_
  refine iq_sipush hS 34 J_HBars_init_d31 (v := 198) (by decide +kernel) rfl ?_
  refine iq_newa hS 36 J_HBars_init_d34 (N := 198) rfl (by decide) (by decide) (by decide) (by decide) (by decide) rfl ?_
  change ia _ _ _ _ (_, _, .ref 35 :: _, mm_74)
  refine iq_putR hS 39 J_HBars_init_d36 lf_0_23 (Or.inr ⟨rfl, rfl⟩) (Or.inr ⟨_, rfl⟩) ⟨by decide, rfl⟩ rfl ?_
  change ia _ _ _ _ (_, _, _, mm_75)
  refine iq_aload_n hS 40 J_HBars_init_d39 h0 rfl ?_
  refine iq_sipush hS 43 J_HBars_init_d40 (v := 140) (by decide +kernel) rfl ?_
  refine iq_newa hS 45 J_HBars_init_d43 (N := 140) rfl (by decide) (by decide) (by decide) (by decide) (by decide) rfl ?_
  change ia _ _ _ _ (_, _, .ref 36 :: _, mm_76)
  refine iq_putR hS 48 J_HBars_init_d45 lf_0_26 (Or.inr ⟨rfl, rfl⟩) (Or.inr ⟨_, rfl⟩) ⟨by decide, rfl⟩ rfl ?_
  change ia _ _ _ _ (_, _, _, mm_77)
  refine iq_aload_n hS 49 J_HBars_init_d48 h0 rfl ?_
  refine iq_bipush hS 51 J_HBars_init_d49 (v := 13) (by decide +kernel) rfl ?_
  refine iq_newa hS 53 J_HBars_init_d51 (N := 13) rfl (by decide) (by decide) (by decide) (by decide) (by decide) rfl ?_
  change ia _ _ _ _ (_, _, .ref 37 :: _, mm_78)
  refine iq_putR hS 56 J_HBars_init_d53 lf_0_29 (Or.inr ⟨rfl, rfl⟩) (Or.inr ⟨_, rfl⟩) ⟨by decide, rfl⟩ rfl ?_
  change ia _ _ _ _ (_, _, _, mm_79)
  exact iq_ret J_HBars_init_d56 rfl ⟨rfl, rfl⟩
theorem J_HSegments_init_d0 : decode J_HSegments_init.2.1 0 = .ok (.aload_n 0, 1) := by decide +kernel
theorem J_HSegments_init_d1 : decode J_HSegments_init.2.1 1 = .ok (.invokespecial 3, 3) := by decide +kernel
theorem J_HSegments_init_d4 : decode J_HSegments_init.2.1 4 = .ok (.aload_n 0, 1) := by decide +kernel
theorem J_HSegments_init_d5 : decode J_HSegments_init.2.1 5 = .ok (.sipush 2956, 3) := by decide +kernel
theorem J_HSegments_init_d8 : decode J_HSegments_init.2.1 8 = .ok (.newarray .byte, 2) := by decide +kernel
theorem J_HSegments_init_d10 : decode J_HSegments_init.2.1 10 = .ok (.putfield 11, 3) := by decide +kernel
theorem J_HSegments_init_d13 : decode J_HSegments_init.2.1 13 = .ok (.aload_n 0, 1) := by decide +kernel
theorem J_HSegments_init_d14 : decode J_HSegments_init.2.1 14 = .ok (.sipush 1407, 3) := by decide +kernel
theorem J_HSegments_init_d17 : decode J_HSegments_init.2.1 17 = .ok (.newarray .int, 2) := by decide +kernel
theorem J_HSegments_init_d19 : decode J_HSegments_init.2.1 19 = .ok (.putfield 17, 3) := by decide +kernel
theorem J_HSegments_init_d22 : decode J_HSegments_init.2.1 22 = .ok (.aload_n 0, 1) := by decide +kernel
theorem J_HSegments_init_d23 : decode J_HSegments_init.2.1 23 = .ok (.sipush 200, 3) := by decide +kernel
theorem J_HSegments_init_d26 : decode J_HSegments_init.2.1 26 = .ok (.newarray .byte, 2) := by decide +kernel
theorem J_HSegments_init_d28 : decode J_HSegments_init.2.1 28 = .ok (.putfield 21, 3) := by decide +kernel
theorem J_HSegments_init_d31 : decode J_HSegments_init.2.1 31 = .ok (.return_, 1) := by decide +kernel
set_option maxRecDepth 20000 in
set_option maxHeartbeats 40000000 in
theorem cs_7 {L : Nat} {xs : Nat → Int32} {dep : Nat} : ia (tb_G L xs) dep J_HSegments_init (fun v M1 => v = none ∧ M1 = mm_88) (0, lv_args 0 [.ref 39], [], mm_82) := by
  have hS : im_St (tb_G L xs) dep J_HSegments_init (ia (tb_G L xs) dep J_HSegments_init (fun v M1 => v = none ∧ M1 = mm_88)) := ia_St
  have h0 : im_lk (lv_args 0 [.ref 39]) 0 = some (.ref 39) := rfl
  refine iq_aload_n hS 1 J_HSegments_init_d0 h0 rfl ?_
  refine iq_oinit hS 4 J_HSegments_init_d1 (by decide +kernel) (Nat.le_of_ble_eq_true rfl) rfl ?_
  refine iq_aload_n hS 5 J_HSegments_init_d4 h0 rfl ?_
  refine iq_sipush hS 8 J_HSegments_init_d5 (v := 2956) (by decide +kernel) rfl ?_
  refine iq_newa hS 10 J_HSegments_init_d8 (N := 2956) rfl (by decide) (by decide) (by decide) (by decide) (by decide) rfl ?_
  change ia _ _ _ _ (_, _, .ref 40 :: _, mm_83)
  refine iq_putR hS 13 J_HSegments_init_d10 lf_7_11 (Or.inr ⟨rfl, rfl⟩) (Or.inr ⟨_, rfl⟩) ⟨by decide, rfl⟩ rfl ?_
  change ia _ _ _ _ (_, _, _, mm_84)
  refine iq_aload_n hS 14 J_HSegments_init_d13 h0 rfl ?_
  refine iq_sipush hS 17 J_HSegments_init_d14 (v := 1407) (by decide +kernel) rfl ?_
  refine iq_newa hS 19 J_HSegments_init_d17 (N := 1407) rfl (by decide) (by decide) (by decide) (by decide) (by decide) rfl ?_
  change ia _ _ _ _ (_, _, .ref 41 :: _, mm_85)
  refine iq_putR hS 22 J_HSegments_init_d19 lf_7_17 (Or.inr ⟨rfl, rfl⟩) (Or.inr ⟨_, rfl⟩) ⟨by decide, rfl⟩ rfl ?_
  change ia _ _ _ _ (_, _, _, mm_86)
  refine iq_aload_n hS 23 J_HSegments_init_d22 h0 rfl ?_
  refine iq_sipush hS 26 J_HSegments_init_d23 (v := 200) (by decide +kernel) rfl ?_
  refine iq_newa hS 28 J_HSegments_init_d26 (N := 200) rfl (by decide) (by decide) (by decide) (by decide) (by decide) rfl ?_
  change ia _ _ _ _ (_, _, .ref 42 :: _, mm_87)
  refine iq_putR hS 31 J_HSegments_init_d28 lf_7_21 (Or.inr ⟨rfl, rfl⟩) (Or.inr ⟨_, rfl⟩) ⟨by decide, rfl⟩ rfl ?_
  change ia _ _ _ _ (_, _, _, mm_88)
  exact iq_ret J_HSegments_init_d31 rfl ⟨rfl, rfl⟩
theorem J_HBlocks_init_d0 : decode J_HBlocks_init.2.1 0 = .ok (.aload_n 0, 1) := by decide +kernel
theorem J_HBlocks_init_d1 : decode J_HBlocks_init.2.1 1 = .ok (.invokespecial 3, 3) := by decide +kernel
theorem J_HBlocks_init_d4 : decode J_HBlocks_init.2.1 4 = .ok (.aload_n 0, 1) := by decide +kernel
theorem J_HBlocks_init_d5 : decode J_HBlocks_init.2.1 5 = .ok (.sipush 3706, 3) := by decide +kernel
theorem J_HBlocks_init_d8 : decode J_HBlocks_init.2.1 8 = .ok (.newarray .byte, 2) := by decide +kernel
theorem J_HBlocks_init_d10 : decode J_HBlocks_init.2.1 10 = .ok (.putfield 11, 3) := by decide +kernel
theorem J_HBlocks_init_d13 : decode J_HBlocks_init.2.1 13 = .ok (.aload_n 0, 1) := by decide +kernel
theorem J_HBlocks_init_d14 : decode J_HBlocks_init.2.1 14 = .ok (.sipush 510, 3) := by decide +kernel
theorem J_HBlocks_init_d17 : decode J_HBlocks_init.2.1 17 = .ok (.newarray .int, 2) := by decide +kernel
theorem J_HBlocks_init_d19 : decode J_HBlocks_init.2.1 19 = .ok (.putfield 15, 3) := by decide +kernel
theorem J_HBlocks_init_d22 : decode J_HBlocks_init.2.1 22 = .ok (.aload_n 0, 1) := by decide +kernel
theorem J_HBlocks_init_d23 : decode J_HBlocks_init.2.1 23 = .ok (.sipush 256, 3) := by decide +kernel
theorem J_HBlocks_init_d26 : decode J_HBlocks_init.2.1 26 = .ok (.newarray .int, 2) := by decide +kernel
theorem J_HBlocks_init_d28 : decode J_HBlocks_init.2.1 28 = .ok (.putfield 19, 3) := by decide +kernel
theorem J_HBlocks_init_d31 : decode J_HBlocks_init.2.1 31 = .ok (.aload_n 0, 1) := by decide +kernel
theorem J_HBlocks_init_d32 : decode J_HBlocks_init.2.1 32 = .ok (.bipush 31, 2) := by decide +kernel
theorem J_HBlocks_init_d34 : decode J_HBlocks_init.2.1 34 = .ok (.newarray .int, 2) := by decide +kernel
theorem J_HBlocks_init_d36 : decode J_HBlocks_init.2.1 36 = .ok (.putfield 22, 3) := by decide +kernel
theorem J_HBlocks_init_d39 : decode J_HBlocks_init.2.1 39 = .ok (.aload_n 0, 1) := by decide +kernel
theorem J_HBlocks_init_d40 : decode J_HBlocks_init.2.1 40 = .ok (.sipush 255, 3) := by decide +kernel
theorem J_HBlocks_init_d43 : decode J_HBlocks_init.2.1 43 = .ok (.newarray .int, 2) := by decide +kernel
theorem J_HBlocks_init_d45 : decode J_HBlocks_init.2.1 45 = .ok (.putfield 25, 3) := by decide +kernel
theorem J_HBlocks_init_d48 : decode J_HBlocks_init.2.1 48 = .ok (.aload_n 0, 1) := by decide +kernel
theorem J_HBlocks_init_d49 : decode J_HBlocks_init.2.1 49 = .ok (.bipush 30, 2) := by decide +kernel
theorem J_HBlocks_init_d51 : decode J_HBlocks_init.2.1 51 = .ok (.newarray .int, 2) := by decide +kernel
theorem J_HBlocks_init_d53 : decode J_HBlocks_init.2.1 53 = .ok (.putfield 28, 3) := by decide +kernel
theorem J_HBlocks_init_d56 : decode J_HBlocks_init.2.1 56 = .ok (.aload_n 0, 1) := by decide +kernel
theorem J_HBlocks_init_d57 : decode J_HBlocks_init.2.1 57 = .ok (.bipush 31, 2) := by decide +kernel
theorem J_HBlocks_init_d59 : decode J_HBlocks_init.2.1 59 = .ok (.newarray .int, 2) := by decide +kernel
theorem J_HBlocks_init_d61 : decode J_HBlocks_init.2.1 61 = .ok (.putfield 31, 3) := by decide +kernel
theorem J_HBlocks_init_d64 : decode J_HBlocks_init.2.1 64 = .ok (.aload_n 0, 1) := by decide +kernel
theorem J_HBlocks_init_d65 : decode J_HBlocks_init.2.1 65 = .ok (.bipush 31, 2) := by decide +kernel
theorem J_HBlocks_init_d67 : decode J_HBlocks_init.2.1 67 = .ok (.newarray .int, 2) := by decide +kernel
theorem J_HBlocks_init_d69 : decode J_HBlocks_init.2.1 69 = .ok (.putfield 34, 3) := by decide +kernel
theorem J_HBlocks_init_d72 : decode J_HBlocks_init.2.1 72 = .ok (.aload_n 0, 1) := by decide +kernel
theorem J_HBlocks_init_d73 : decode J_HBlocks_init.2.1 73 = .ok (.bipush 31, 2) := by decide +kernel
theorem J_HBlocks_init_d75 : decode J_HBlocks_init.2.1 75 = .ok (.newarray .int, 2) := by decide +kernel
theorem J_HBlocks_init_d77 : decode J_HBlocks_init.2.1 77 = .ok (.putfield 37, 3) := by decide +kernel
theorem J_HBlocks_init_d80 : decode J_HBlocks_init.2.1 80 = .ok (.aload_n 0, 1) := by decide +kernel
theorem J_HBlocks_init_d81 : decode J_HBlocks_init.2.1 81 = .ok (.bipush 30, 2) := by decide +kernel
theorem J_HBlocks_init_d83 : decode J_HBlocks_init.2.1 83 = .ok (.newarray .int, 2) := by decide +kernel
theorem J_HBlocks_init_d85 : decode J_HBlocks_init.2.1 85 = .ok (.putfield 40, 3) := by decide +kernel
theorem J_HBlocks_init_d88 : decode J_HBlocks_init.2.1 88 = .ok (.iconst 1, 1) := by decide +kernel
theorem J_HBlocks_init_d89 : decode J_HBlocks_init.2.1 89 = .ok (.istore_n 1, 1) := by decide +kernel
theorem J_HBlocks_init_d90 : decode J_HBlocks_init.2.1 90 = .ok (.iconst 0, 1) := by decide +kernel
theorem J_HBlocks_init_d91 : decode J_HBlocks_init.2.1 91 = .ok (.istore_n 2, 1) := by decide +kernel
theorem J_HBlocks_init_d92 : decode J_HBlocks_init.2.1 92 = .ok (.iload_n 2, 1) := by decide +kernel
theorem J_HBlocks_init_d93 : decode J_HBlocks_init.2.1 93 = .ok (.sipush 510, 3) := by decide +kernel
theorem J_HBlocks_init_d96 : decode J_HBlocks_init.2.1 96 = .ok (.if_icmp .ge 47, 3) := by decide +kernel
theorem J_HBlocks_init_d99 : decode J_HBlocks_init.2.1 99 = .ok (.aload_n 0, 1) := by decide +kernel
theorem J_HBlocks_init_d100 : decode J_HBlocks_init.2.1 100 = .ok (.getfield 15, 3) := by decide +kernel
theorem J_HBlocks_init_d103 : decode J_HBlocks_init.2.1 103 = .ok (.iload_n 2, 1) := by decide +kernel
theorem J_HBlocks_init_d104 : decode J_HBlocks_init.2.1 104 = .ok (.iload_n 1, 1) := by decide +kernel
theorem J_HBlocks_init_d105 : decode J_HBlocks_init.2.1 105 = .ok (.iastore, 1) := by decide +kernel
theorem J_HBlocks_init_d106 : decode J_HBlocks_init.2.1 106 = .ok (.iload_n 2, 1) := by decide +kernel
theorem J_HBlocks_init_d107 : decode J_HBlocks_init.2.1 107 = .ok (.sipush 255, 3) := by decide +kernel
theorem J_HBlocks_init_d110 : decode J_HBlocks_init.2.1 110 = .ok (.if_icmp .ge 10, 3) := by decide +kernel
theorem J_HBlocks_init_d113 : decode J_HBlocks_init.2.1 113 = .ok (.aload_n 0, 1) := by decide +kernel
theorem J_HBlocks_init_d114 : decode J_HBlocks_init.2.1 114 = .ok (.getfield 19, 3) := by decide +kernel
theorem J_HBlocks_init_d117 : decode J_HBlocks_init.2.1 117 = .ok (.iload_n 1, 1) := by decide +kernel
theorem J_HBlocks_init_d118 : decode J_HBlocks_init.2.1 118 = .ok (.iload_n 2, 1) := by decide +kernel
theorem J_HBlocks_init_d119 : decode J_HBlocks_init.2.1 119 = .ok (.iastore, 1) := by decide +kernel
theorem J_HBlocks_init_d120 : decode J_HBlocks_init.2.1 120 = .ok (.iload_n 1, 1) := by decide +kernel
theorem J_HBlocks_init_d121 : decode J_HBlocks_init.2.1 121 = .ok (.iconst 1, 1) := by decide +kernel
theorem J_HBlocks_init_d122 : decode J_HBlocks_init.2.1 122 = .ok (.ishl, 1) := by decide +kernel
theorem J_HBlocks_init_d123 : decode J_HBlocks_init.2.1 123 = .ok (.istore_n 1, 1) := by decide +kernel
theorem J_HBlocks_init_d124 : decode J_HBlocks_init.2.1 124 = .ok (.iload_n 1, 1) := by decide +kernel
theorem J_HBlocks_init_d125 : decode J_HBlocks_init.2.1 125 = .ok (.sipush 255, 3) := by decide +kernel
theorem J_HBlocks_init_d128 : decode J_HBlocks_init.2.1 128 = .ok (.if_icmp .le 9, 3) := by decide +kernel
theorem J_HBlocks_init_d131 : decode J_HBlocks_init.2.1 131 = .ok (.iload_n 1, 1) := by decide +kernel
theorem J_HBlocks_init_d132 : decode J_HBlocks_init.2.1 132 = .ok (.sipush 285, 3) := by decide +kernel
theorem J_HBlocks_init_d135 : decode J_HBlocks_init.2.1 135 = .ok (.ixor, 1) := by decide +kernel
theorem J_HBlocks_init_d136 : decode J_HBlocks_init.2.1 136 = .ok (.istore_n 1, 1) := by decide +kernel
theorem J_HBlocks_init_d137 : decode J_HBlocks_init.2.1 137 = .ok (.iinc 2 1, 3) := by decide +kernel
theorem J_HBlocks_init_d140 : decode J_HBlocks_init.2.1 140 = .ok (.goto (-48), 3) := by decide +kernel
theorem J_HBlocks_init_d143 : decode J_HBlocks_init.2.1 143 = .ok (.return_, 1) := by decide +kernel
theorem bl_v_ok : ∀ k, k < 511 → 0 ≤ (bl_v k).toInt ∧ (bl_v k).toInt < 256 := by decide +kernel
theorem bl_tail {L : Nat} {xs : Nat → Int32} {dep k : Nat} {Lc : List (Nat × Value)} (h0 : im_lk Lc 0 = some (.ref 43)) (h1 : im_lk Lc 1 = some (.int (bl_v k))) (h2 : im_lk Lc 2 = some (.int (nI k))) (ih : ∀ Lc, im_lk Lc 0 = some (.ref 43) → im_lk Lc 1 = some (.int (bl_v (k + 1))) → im_lk Lc 2 = some (.int (nI (k + 1))) → ia (tb_G L xs) dep J_HBlocks_init (fun v M1 => v = none ∧ M1 = mm_111) (92, Lc, [], bl_M (k + 1))) : ia (tb_G L xs) dep J_HBlocks_init (fun v M1 => v = none ∧ M1 = mm_111) (120, Lc, [], bl_M (k + 1)) := by
  have hS : im_St (tb_G L xs) dep J_HBlocks_init (ia (tb_G L xs) dep J_HBlocks_init (fun v M1 => v = none ∧ M1 = mm_111)) := ia_St
  have e1 : nI k + Int32.ofInt 1 = nI (k + 1) := nI_1 k
  refine iq_iload_n hS 121 J_HBlocks_init_d120 h1 rfl ?_
  refine iq_iconst hS 122 J_HBlocks_init_d121 (v := 1) (by decide +kernel) rfl ?_
  refine iq_ishl hS 123 J_HBlocks_init_d122 rfl ?_
  refine iq_istore_n hS 124 J_HBlocks_init_d123 (by decide) rfl ?_
  refine iq_iload_n hS 125 J_HBlocks_init_d124 lk_1s rfl ?_
  refine iq_sipush hS 128 J_HBlocks_init_d125 (v := 255) (by decide +kernel) rfl ?_
  refine iq_icmp_le hS 131 J_HBlocks_init_d128 (t := 137) rfl (fun q => ?_) rfl (fun q => ?_)
  · have e9 : bl_v (k + 1) = bl_v k <<< ((1 : Int32) &&& 31) := if_neg (Int32.not_lt.mpr q)
    refine iq_iinc hS 140 J_HBlocks_init_d137 (lk_1i h2 (by decide)) (by decide) rfl ?_
    refine iq_goto hS J_HBlocks_init_d140 (t := 92) rfl ?_
    refine ih _ (lk_1r (lk_1r h0 (by decide)) (by decide)) ?_ ?_
    · rw [e9]; exact lk_1i lk_1s (by decide)
    · rw [← e1]; exact lk_1s
  · have e9 : bl_v (k + 1) = (bl_v k <<< ((1 : Int32) &&& 31)) ^^^ 285 := if_pos (Int32.not_le.mp q)
    refine iq_iload_n hS 132 J_HBlocks_init_d131 lk_1s rfl ?_
    refine iq_sipush hS 135 J_HBlocks_init_d132 (v := 285) (by decide +kernel) rfl ?_
    refine iq_ixor hS 136 J_HBlocks_init_d135 rfl ?_
    refine iq_istore_n hS 137 J_HBlocks_init_d136 (by decide) rfl ?_
    refine iq_iinc hS 140 J_HBlocks_init_d137 (lk_1i (lk_1i h2 (by decide)) (by decide)) (by decide) rfl ?_
    refine iq_goto hS J_HBlocks_init_d140 (t := 92) rfl ?_
    refine ih _ (lk_1r (lk_1r (lk_1r h0 (by decide)) (by decide)) (by decide)) ?_ ?_
    · rw [e9]; exact lk_1i lk_1s (by decide)
    · rw [← e1]; exact lk_1s
theorem bl_loop {L : Nat} {xs : Nat → Int32} {dep : Nat} : ∀ (j k : Nat), k + j = 510 → ∀ Lc : List (Nat × Value), im_lk Lc 0 = some (.ref 43) → im_lk Lc 1 = some (.int (bl_v k)) → im_lk Lc 2 = some (.int (nI k)) → ia (tb_G L xs) dep J_HBlocks_init (fun v M1 => v = none ∧ M1 = mm_111) (92, Lc, [], bl_M k) := by
  have hS : im_St (tb_G L xs) dep J_HBlocks_init (ia (tb_G L xs) dep J_HBlocks_init (fun v M1 => v = none ∧ M1 = mm_111)) := ia_St
  intro j
  induction j with
  | zero =>
    intro k hk Lc h0 h1 h2
    have hk : k = 510 := hk
    subst hk
    refine iq_iload_n hS 93 J_HBlocks_init_d92 h2 rfl ?_
    refine iq_sipush hS 96 J_HBlocks_init_d93 (v := 510) (by decide +kernel) rfl ?_
    refine iq_icmp_ge hS 99 J_HBlocks_init_d96 (t := 143) rfl (fun q => ?_) rfl (fun q => absurd (by decide +kernel) q)
    exact iq_ret J_HBlocks_init_d143 rfl ⟨rfl, rfl⟩
  | succ j ih =>
    intro k hk Lc h0 h1 h2
    have hk5 : k < 510 := by omega
    have hb := bl_v_ok k (by omega)
    refine iq_iload_n hS 93 J_HBlocks_init_d92 h2 rfl ?_
    refine iq_sipush hS 96 J_HBlocks_init_d93 (v := nI 510) (by decide +kernel) rfl ?_
    refine iq_icmp_ge hS 99 J_HBlocks_init_d96 (t := 143) rfl (fun q => absurd q (nI_ge hk5 (by decide))) rfl (fun _ => ?_)
    refine iq_aload_n hS 100 J_HBlocks_init_d99 h0 rfl ?_
    refine iq_getR hS 103 J_HBlocks_init_d100 lf_1_15 (Or.inr ⟨_, rfl⟩) ⟨Nat.lt_of_ble_eq_true rfl, rfl⟩ (b := 45) rfl rfl ?_
    refine iq_iload_n hS 104 J_HBlocks_init_d103 h2 rfl ?_
    refine iq_iload_n hS 105 J_HBlocks_init_d104 h1 rfl ?_
    refine iq_iastore hS 106 J_HBlocks_init_d105 ⟨Nat.lt_of_ble_eq_true rfl, rfl, by rw [nI_toInt (by omega)]; omega, by rw [nI_toInt (by omega)]; show (k : Int) < ((510 : Nat) : Int); omega⟩ rfl ?_
    rw [nI_clamp (by omega)]
    refine iq_iload_n hS 107 J_HBlocks_init_d106 h2 rfl ?_
    refine iq_sipush hS 110 J_HBlocks_init_d107 (v := nI 255) (by decide +kernel) rfl ?_
    refine iq_icmp_ge hS 113 J_HBlocks_init_d110 (t := 120) rfl (fun q => ?_) rfl (fun q => ?_)
    · have hn : ¬ k < 255 := fun z => nI_ge z (by decide) q
      have e : im_setI (bl_M k) 45 k (bl_v k) = bl_M (k + 1) := by
        show (_, true, _, im_u2 (bl_i k) 45 k (bl_v k), _, _) = (_, true, _, bl_i (k + 1), _, _)
        rw [show bl_i (k + 1) = im_u2 (bl_i k) 45 k (bl_v k) from if_neg hn]
      rw [e]
      exact bl_tail h0 h1 h2 (fun Lc => ih (k + 1) (by omega) Lc)
    · have hn : k < 255 := by
        rcases Nat.lt_or_ge k 255 with z | z
        · exact z
        · exact absurd (nI_le z (by omega)) q
      refine iq_aload_n hS 114 J_HBlocks_init_d113 h0 rfl ?_
      refine iq_getR hS 117 J_HBlocks_init_d114 lf_1_19 (Or.inr ⟨_, rfl⟩) ⟨Nat.lt_of_ble_eq_true rfl, rfl⟩ (b := 46) rfl rfl ?_
      refine iq_iload_n hS 118 J_HBlocks_init_d117 h1 rfl ?_
      refine iq_iload_n hS 119 J_HBlocks_init_d118 h2 rfl ?_
      refine iq_iastore hS 120 J_HBlocks_init_d119 ⟨Nat.lt_of_ble_eq_true rfl, rfl, hb.1, hb.2⟩ rfl ?_
      have e : im_setI (im_setI (bl_M k) 45 k (bl_v k)) 46 (bl_v k).toNatClampNeg (nI k) = bl_M (k + 1) := by
        show (_, true, _, im_u2 (im_u2 (bl_i k) 45 k (bl_v k)) 46 (bl_v k).toNatClampNeg (nI k), _, _) = (_, true, _, bl_i (k + 1), _, _)
        rw [show bl_i (k + 1) = im_u2 (im_u2 (bl_i k) 45 k (bl_v k)) 46 (bl_v k).toNatClampNeg (nI k) from if_pos hn]
      rw [e]
      exact bl_tail h0 h1 h2 (fun Lc => ih (k + 1) (by omega) Lc)
set_option maxRecDepth 20000 in
set_option maxHeartbeats 40000000 in
theorem cs_8 {L : Nat} {xs : Nat → Int32} {dep : Nat} : ia (tb_G L xs) dep J_HBlocks_init (fun v M1 => v = none ∧ M1 = mm_111) (0, lv_args 0 [.ref 43], [], mm_90) := by
  have hS : im_St (tb_G L xs) dep J_HBlocks_init (ia (tb_G L xs) dep J_HBlocks_init (fun v M1 => v = none ∧ M1 = mm_111)) := ia_St
  have h0 : im_lk (lv_args 0 [.ref 43]) 0 = some (.ref 43) := rfl
  refine iq_aload_n hS 1 J_HBlocks_init_d0 h0 rfl ?_
  refine iq_oinit hS 4 J_HBlocks_init_d1 (by decide +kernel) (Nat.le_of_ble_eq_true rfl) rfl ?_
  refine iq_aload_n hS 5 J_HBlocks_init_d4 h0 rfl ?_
  refine iq_sipush hS 8 J_HBlocks_init_d5 (v := 3706) (by decide +kernel) rfl ?_
  refine iq_newa hS 10 J_HBlocks_init_d8 (N := 3706) rfl (by decide) (by decide) (by decide) (by decide) (by decide) rfl ?_
  change ia _ _ _ _ (_, _, .ref 44 :: _, mm_91)
  refine iq_putR hS 13 J_HBlocks_init_d10 lf_1_11 (Or.inr ⟨rfl, rfl⟩) (Or.inr ⟨_, rfl⟩) ⟨by decide, rfl⟩ rfl ?_
  change ia _ _ _ _ (_, _, _, mm_92)
  refine iq_aload_n hS 14 J_HBlocks_init_d13 h0 rfl ?_
  refine iq_sipush hS 17 J_HBlocks_init_d14 (v := 510) (by decide +kernel) rfl ?_
  refine iq_newa hS 19 J_HBlocks_init_d17 (N := 510) rfl (by decide) (by decide) (by decide) (by decide) (by decide) rfl ?_
  change ia _ _ _ _ (_, _, .ref 45 :: _, mm_93)
  refine iq_putR hS 22 J_HBlocks_init_d19 lf_1_15 (Or.inr ⟨rfl, rfl⟩) (Or.inr ⟨_, rfl⟩) ⟨by decide, rfl⟩ rfl ?_
  change ia _ _ _ _ (_, _, _, mm_94)
  refine iq_aload_n hS 23 J_HBlocks_init_d22 h0 rfl ?_
  refine iq_sipush hS 26 J_HBlocks_init_d23 (v := 256) (by decide +kernel) rfl ?_
  refine iq_newa hS 28 J_HBlocks_init_d26 (N := 256) rfl (by decide) (by decide) (by decide) (by decide) (by decide) rfl ?_
  change ia _ _ _ _ (_, _, .ref 46 :: _, mm_95)
  refine iq_putR hS 31 J_HBlocks_init_d28 lf_1_19 (Or.inr ⟨rfl, rfl⟩) (Or.inr ⟨_, rfl⟩) ⟨by decide, rfl⟩ rfl ?_
  change ia _ _ _ _ (_, _, _, mm_96)
  refine iq_aload_n hS 32 J_HBlocks_init_d31 h0 rfl ?_
  refine iq_bipush hS 34 J_HBlocks_init_d32 (v := 31) (by decide +kernel) rfl ?_
  refine iq_newa hS 36 J_HBlocks_init_d34 (N := 31) rfl (by decide) (by decide) (by decide) (by decide) (by decide) rfl ?_
  change ia _ _ _ _ (_, _, .ref 47 :: _, mm_97)
  refine iq_putR hS 39 J_HBlocks_init_d36 lf_1_22 (Or.inr ⟨rfl, rfl⟩) (Or.inr ⟨_, rfl⟩) ⟨by decide, rfl⟩ rfl ?_
  change ia _ _ _ _ (_, _, _, mm_98)
  refine iq_aload_n hS 40 J_HBlocks_init_d39 h0 rfl ?_
  refine iq_sipush hS 43 J_HBlocks_init_d40 (v := 255) (by decide +kernel) rfl ?_
  refine iq_newa hS 45 J_HBlocks_init_d43 (N := 255) rfl (by decide) (by decide) (by decide) (by decide) (by decide) rfl ?_
  change ia _ _ _ _ (_, _, .ref 48 :: _, mm_99)
  refine iq_putR hS 48 J_HBlocks_init_d45 lf_1_25 (Or.inr ⟨rfl, rfl⟩) (Or.inr ⟨_, rfl⟩) ⟨by decide, rfl⟩ rfl ?_
  change ia _ _ _ _ (_, _, _, mm_100)
  refine iq_aload_n hS 49 J_HBlocks_init_d48 h0 rfl ?_
  refine iq_bipush hS 51 J_HBlocks_init_d49 (v := 30) (by decide +kernel) rfl ?_
  refine iq_newa hS 53 J_HBlocks_init_d51 (N := 30) rfl (by decide) (by decide) (by decide) (by decide) (by decide) rfl ?_
  change ia _ _ _ _ (_, _, .ref 49 :: _, mm_101)
  refine iq_putR hS 56 J_HBlocks_init_d53 lf_1_28 (Or.inr ⟨rfl, rfl⟩) (Or.inr ⟨_, rfl⟩) ⟨by decide, rfl⟩ rfl ?_
  change ia _ _ _ _ (_, _, _, mm_102)
  refine iq_aload_n hS 57 J_HBlocks_init_d56 h0 rfl ?_
  refine iq_bipush hS 59 J_HBlocks_init_d57 (v := 31) (by decide +kernel) rfl ?_
  refine iq_newa hS 61 J_HBlocks_init_d59 (N := 31) rfl (by decide) (by decide) (by decide) (by decide) (by decide) rfl ?_
  change ia _ _ _ _ (_, _, .ref 50 :: _, mm_103)
  refine iq_putR hS 64 J_HBlocks_init_d61 lf_1_31 (Or.inr ⟨rfl, rfl⟩) (Or.inr ⟨_, rfl⟩) ⟨by decide, rfl⟩ rfl ?_
  change ia _ _ _ _ (_, _, _, mm_104)
  refine iq_aload_n hS 65 J_HBlocks_init_d64 h0 rfl ?_
  refine iq_bipush hS 67 J_HBlocks_init_d65 (v := 31) (by decide +kernel) rfl ?_
  refine iq_newa hS 69 J_HBlocks_init_d67 (N := 31) rfl (by decide) (by decide) (by decide) (by decide) (by decide) rfl ?_
  change ia _ _ _ _ (_, _, .ref 51 :: _, mm_105)
  refine iq_putR hS 72 J_HBlocks_init_d69 lf_1_34 (Or.inr ⟨rfl, rfl⟩) (Or.inr ⟨_, rfl⟩) ⟨by decide, rfl⟩ rfl ?_
  change ia _ _ _ _ (_, _, _, mm_106)
  refine iq_aload_n hS 73 J_HBlocks_init_d72 h0 rfl ?_
  refine iq_bipush hS 75 J_HBlocks_init_d73 (v := 31) (by decide +kernel) rfl ?_
  refine iq_newa hS 77 J_HBlocks_init_d75 (N := 31) rfl (by decide) (by decide) (by decide) (by decide) (by decide) rfl ?_
  change ia _ _ _ _ (_, _, .ref 52 :: _, mm_107)
  refine iq_putR hS 80 J_HBlocks_init_d77 lf_1_37 (Or.inr ⟨rfl, rfl⟩) (Or.inr ⟨_, rfl⟩) ⟨by decide, rfl⟩ rfl ?_
  change ia _ _ _ _ (_, _, _, mm_108)
  refine iq_aload_n hS 81 J_HBlocks_init_d80 h0 rfl ?_
  refine iq_bipush hS 83 J_HBlocks_init_d81 (v := 30) (by decide +kernel) rfl ?_
  refine iq_newa hS 85 J_HBlocks_init_d83 (N := 30) rfl (by decide) (by decide) (by decide) (by decide) (by decide) rfl ?_
  change ia _ _ _ _ (_, _, .ref 53 :: _, mm_109)
  refine iq_putR hS 88 J_HBlocks_init_d85 lf_1_40 (Or.inr ⟨rfl, rfl⟩) (Or.inr ⟨_, rfl⟩) ⟨by decide, rfl⟩ rfl ?_
  change ia _ _ _ _ (_, _, _, mm_110)
  refine iq_iconst hS 89 J_HBlocks_init_d88 (v := 1) (by decide +kernel) rfl ?_
  refine iq_istore_n hS 90 J_HBlocks_init_d89 (by decide) rfl ?_
  refine iq_iconst hS 91 J_HBlocks_init_d90 (v := 0) (by decide +kernel) rfl ?_
  refine iq_istore_n hS 92 J_HBlocks_init_d91 (by decide) rfl ?_
  exact bl_loop 510 0 rfl _ (lk_1r (lk_1r h0 (by decide)) (by decide)) (lk_1i lk_1s (by decide)) lk_1s
theorem J_HGrid_init_d0 : decode J_HGrid_init.2.1 0 = .ok (.aload_n 0, 1) := by decide +kernel
theorem J_HGrid_init_d1 : decode J_HGrid_init.2.1 1 = .ok (.invokespecial 3, 3) := by decide +kernel
theorem J_HGrid_init_d4 : decode J_HGrid_init.2.1 4 = .ok (.aload_n 0, 1) := by decide +kernel
theorem J_HGrid_init_d5 : decode J_HGrid_init.2.1 5 = .ok (.new 9, 3) := by decide +kernel
theorem J_HGrid_init_d8 : decode J_HGrid_init.2.1 8 = .ok (.dup, 1) := by decide +kernel
theorem J_HGrid_init_d9 : decode J_HGrid_init.2.1 9 = .ok (.invokespecial 11, 3) := by decide +kernel
theorem J_HGrid_init_d12 : decode J_HGrid_init.2.1 12 = .ok (.putfield 12, 3) := by decide +kernel
theorem J_HGrid_init_d15 : decode J_HGrid_init.2.1 15 = .ok (.aload_n 0, 1) := by decide +kernel
theorem J_HGrid_init_d16 : decode J_HGrid_init.2.1 16 = .ok (.new 18, 3) := by decide +kernel
theorem J_HGrid_init_d19 : decode J_HGrid_init.2.1 19 = .ok (.dup, 1) := by decide +kernel
theorem J_HGrid_init_d20 : decode J_HGrid_init.2.1 20 = .ok (.invokespecial 20, 3) := by decide +kernel
theorem J_HGrid_init_d23 : decode J_HGrid_init.2.1 23 = .ok (.putfield 21, 3) := by decide +kernel
theorem J_HGrid_init_d26 : decode J_HGrid_init.2.1 26 = .ok (.aload_n 0, 1) := by decide +kernel
theorem J_HGrid_init_d27 : decode J_HGrid_init.2.1 27 = .ok (.sipush 31329, 3) := by decide +kernel
theorem J_HGrid_init_d30 : decode J_HGrid_init.2.1 30 = .ok (.newarray .byte, 2) := by decide +kernel
theorem J_HGrid_init_d32 : decode J_HGrid_init.2.1 32 = .ok (.putfield 25, 3) := by decide +kernel
theorem J_HGrid_init_d35 : decode J_HGrid_init.2.1 35 = .ok (.aload_n 0, 1) := by decide +kernel
theorem J_HGrid_init_d36 : decode J_HGrid_init.2.1 36 = .ok (.sipush 31329, 3) := by decide +kernel
theorem J_HGrid_init_d39 : decode J_HGrid_init.2.1 39 = .ok (.newarray .byte, 2) := by decide +kernel
theorem J_HGrid_init_d41 : decode J_HGrid_init.2.1 41 = .ok (.putfield 29, 3) := by decide +kernel
theorem J_HGrid_init_d44 : decode J_HGrid_init.2.1 44 = .ok (.return_, 1) := by decide +kernel
set_option maxRecDepth 20000 in
set_option maxHeartbeats 40000000 in
theorem cs_9 {L : Nat} {xs : Nat → Int32} {dep : Nat} : ia (tb_G L xs) (dep + 1) J_HGrid_init (fun v M1 => v = none ∧ M1 = mm_116) (0, lv_args 0 [.ref 38], [], mm_81) := by
  have hS : im_St (tb_G L xs) (dep + 1) J_HGrid_init (ia (tb_G L xs) (dep + 1) J_HGrid_init (fun v M1 => v = none ∧ M1 = mm_116)) := ia_St
  have h0 : im_lk (lv_args 0 [.ref 38]) 0 = some (.ref 38) := rfl
  refine iq_aload_n hS 1 J_HGrid_init_d0 h0 rfl ?_
  refine iq_oinit hS 4 J_HGrid_init_d1 (by decide +kernel) (Nat.le_of_ble_eq_true rfl) rfl ?_
  refine iq_aload_n hS 5 J_HGrid_init_d4 h0 rfl ?_
  refine iq_new 8 J_HGrid_init_d5 ln_4_9 rfl (by decide) (by decide) rfl ?_
  change ia _ _ _ _ (_, _, .ref 39 :: _, mm_82)
  refine iq_dup hS 9 J_HGrid_init_d8 rfl rfl ?_
  refine iq_call hS 12 J_HGrid_init_d9 rfl (pr_inst (vs := []) lc_4_11 lT_8 rfl rfl (by decide) (by decide) rfl (Nat.le_of_ble_eq_true rfl) (Nat.le_of_ble_eq_true rfl) (fun q => absurd q (by decide))) cs_7 rfl ?_
  rintro v M1 ⟨rfl, rfl⟩
  refine iq_putR hS 15 J_HGrid_init_d12 lf_4_12 (Or.inr ⟨rfl, rfl⟩) (Or.inl ⟨_, rfl⟩) ⟨by decide, rfl⟩ rfl ?_
  change ia _ _ _ _ (_, _, _, mm_89)
  refine iq_aload_n hS 16 J_HGrid_init_d15 h0 rfl ?_
  refine iq_new 19 J_HGrid_init_d16 ln_4_18 rfl (by decide) (by decide) rfl ?_
  change ia _ _ _ _ (_, _, .ref 43 :: _, mm_90)
  refine iq_dup hS 20 J_HGrid_init_d19 rfl rfl ?_
  refine iq_call hS 23 J_HGrid_init_d20 rfl (pr_inst (vs := []) lc_4_20 lT_9 rfl rfl (by decide) (by decide) rfl (Nat.le_of_ble_eq_true rfl) (Nat.le_of_ble_eq_true rfl) (fun q => absurd q (by decide))) cs_8 rfl ?_
  rintro v M1 ⟨rfl, rfl⟩
  refine iq_putR hS 26 J_HGrid_init_d23 lf_4_21 (Or.inr ⟨rfl, rfl⟩) (Or.inl ⟨_, rfl⟩) ⟨by decide, rfl⟩ rfl ?_
  change ia _ _ _ _ (_, _, _, mm_112)
  refine iq_aload_n hS 27 J_HGrid_init_d26 h0 rfl ?_
  refine iq_sipush hS 30 J_HGrid_init_d27 (v := 31329) (by decide +kernel) rfl ?_
  refine iq_newa hS 32 J_HGrid_init_d30 (N := 31329) rfl (by decide) (by decide) (by decide) (by decide) (by decide) rfl ?_
  change ia _ _ _ _ (_, _, .ref 54 :: _, mm_113)
  refine iq_putR hS 35 J_HGrid_init_d32 lf_4_25 (Or.inr ⟨rfl, rfl⟩) (Or.inr ⟨_, rfl⟩) ⟨by decide, rfl⟩ rfl ?_
  change ia _ _ _ _ (_, _, _, mm_114)
  refine iq_aload_n hS 36 J_HGrid_init_d35 h0 rfl ?_
  refine iq_sipush hS 39 J_HGrid_init_d36 (v := 31329) (by decide +kernel) rfl ?_
  refine iq_newa hS 41 J_HGrid_init_d39 (N := 31329) rfl (by decide) (by decide) (by decide) (by decide) (by decide) rfl ?_
  change ia _ _ _ _ (_, _, .ref 55 :: _, mm_115)
  refine iq_putR hS 44 J_HGrid_init_d41 lf_4_29 (Or.inr ⟨rfl, rfl⟩) (Or.inr ⟨_, rfl⟩) ⟨by decide, rfl⟩ rfl ?_
  change ia _ _ _ _ (_, _, _, mm_116)
  exact iq_ret J_HGrid_init_d44 rfl ⟨rfl, rfl⟩
theorem J_HPen_init_d0 : decode J_HPen_init.2.1 0 = .ok (.aload_n 0, 1) := by decide +kernel
theorem J_HPen_init_d1 : decode J_HPen_init.2.1 1 = .ok (.invokespecial 3, 3) := by decide +kernel
theorem J_HPen_init_d4 : decode J_HPen_init.2.1 4 = .ok (.aload_n 0, 1) := by decide +kernel
theorem J_HPen_init_d5 : decode J_HPen_init.2.1 5 = .ok (.bipush 12, 2) := by decide +kernel
theorem J_HPen_init_d7 : decode J_HPen_init.2.1 7 = .ok (.newarray .int, 2) := by decide +kernel
theorem J_HPen_init_d9 : decode J_HPen_init.2.1 9 = .ok (.dup, 1) := by decide +kernel
theorem J_HPen_init_d10 : decode J_HPen_init.2.1 10 = .ok (.iconst 0, 1) := by decide +kernel
theorem J_HPen_init_d11 : decode J_HPen_init.2.1 11 = .ok (.bipush 8, 2) := by decide +kernel
theorem J_HPen_init_d13 : decode J_HPen_init.2.1 13 = .ok (.iastore, 1) := by decide +kernel
theorem J_HPen_init_d14 : decode J_HPen_init.2.1 14 = .ok (.dup, 1) := by decide +kernel
theorem J_HPen_init_d15 : decode J_HPen_init.2.1 15 = .ok (.iconst 1, 1) := by decide +kernel
theorem J_HPen_init_d16 : decode J_HPen_init.2.1 16 = .ok (.bipush 8, 2) := by decide +kernel
theorem J_HPen_init_d18 : decode J_HPen_init.2.1 18 = .ok (.iastore, 1) := by decide +kernel
theorem J_HPen_init_d19 : decode J_HPen_init.2.1 19 = .ok (.dup, 1) := by decide +kernel
theorem J_HPen_init_d20 : decode J_HPen_init.2.1 20 = .ok (.iconst 2, 1) := by decide +kernel
theorem J_HPen_init_d21 : decode J_HPen_init.2.1 21 = .ok (.iconst 0, 1) := by decide +kernel
theorem J_HPen_init_d22 : decode J_HPen_init.2.1 22 = .ok (.iastore, 1) := by decide +kernel
theorem J_HPen_init_d23 : decode J_HPen_init.2.1 23 = .ok (.dup, 1) := by decide +kernel
theorem J_HPen_init_d24 : decode J_HPen_init.2.1 24 = .ok (.iconst 3, 1) := by decide +kernel
theorem J_HPen_init_d25 : decode J_HPen_init.2.1 25 = .ok (.bipush 8, 2) := by decide +kernel
theorem J_HPen_init_d27 : decode J_HPen_init.2.1 27 = .ok (.iastore, 1) := by decide +kernel
theorem J_HPen_init_d28 : decode J_HPen_init.2.1 28 = .ok (.dup, 1) := by decide +kernel
theorem J_HPen_init_d29 : decode J_HPen_init.2.1 29 = .ok (.iconst 4, 1) := by decide +kernel
theorem J_HPen_init_d30 : decode J_HPen_init.2.1 30 = .ok (.bipush 8, 2) := by decide +kernel
theorem J_HPen_init_d32 : decode J_HPen_init.2.1 32 = .ok (.iastore, 1) := by decide +kernel
theorem J_HPen_init_d33 : decode J_HPen_init.2.1 33 = .ok (.dup, 1) := by decide +kernel
theorem J_HPen_init_d34 : decode J_HPen_init.2.1 34 = .ok (.iconst 5, 1) := by decide +kernel
theorem J_HPen_init_d35 : decode J_HPen_init.2.1 35 = .ok (.iconst 0, 1) := by decide +kernel
theorem J_HPen_init_d36 : decode J_HPen_init.2.1 36 = .ok (.iastore, 1) := by decide +kernel
theorem J_HPen_init_d37 : decode J_HPen_init.2.1 37 = .ok (.dup, 1) := by decide +kernel
theorem J_HPen_init_d38 : decode J_HPen_init.2.1 38 = .ok (.bipush 6, 2) := by decide +kernel
theorem J_HPen_init_d40 : decode J_HPen_init.2.1 40 = .ok (.bipush 8, 2) := by decide +kernel
theorem J_HPen_init_d42 : decode J_HPen_init.2.1 42 = .ok (.iastore, 1) := by decide +kernel
theorem J_HPen_init_d43 : decode J_HPen_init.2.1 43 = .ok (.dup, 1) := by decide +kernel
theorem J_HPen_init_d44 : decode J_HPen_init.2.1 44 = .ok (.bipush 7, 2) := by decide +kernel
theorem J_HPen_init_d46 : decode J_HPen_init.2.1 46 = .ok (.bipush 8, 2) := by decide +kernel
theorem J_HPen_init_d48 : decode J_HPen_init.2.1 48 = .ok (.iastore, 1) := by decide +kernel
theorem J_HPen_init_d49 : decode J_HPen_init.2.1 49 = .ok (.dup, 1) := by decide +kernel
theorem J_HPen_init_d50 : decode J_HPen_init.2.1 50 = .ok (.bipush 8, 2) := by decide +kernel
theorem J_HPen_init_d52 : decode J_HPen_init.2.1 52 = .ok (.iconst 0, 1) := by decide +kernel
theorem J_HPen_init_d53 : decode J_HPen_init.2.1 53 = .ok (.iastore, 1) := by decide +kernel
theorem J_HPen_init_d54 : decode J_HPen_init.2.1 54 = .ok (.dup, 1) := by decide +kernel
theorem J_HPen_init_d55 : decode J_HPen_init.2.1 55 = .ok (.bipush 9, 2) := by decide +kernel
theorem J_HPen_init_d57 : decode J_HPen_init.2.1 57 = .ok (.bipush 8, 2) := by decide +kernel
theorem J_HPen_init_d59 : decode J_HPen_init.2.1 59 = .ok (.iastore, 1) := by decide +kernel
theorem J_HPen_init_d60 : decode J_HPen_init.2.1 60 = .ok (.dup, 1) := by decide +kernel
theorem J_HPen_init_d61 : decode J_HPen_init.2.1 61 = .ok (.bipush 10, 2) := by decide +kernel
theorem J_HPen_init_d63 : decode J_HPen_init.2.1 63 = .ok (.bipush 8, 2) := by decide +kernel
theorem J_HPen_init_d65 : decode J_HPen_init.2.1 65 = .ok (.iastore, 1) := by decide +kernel
theorem J_HPen_init_d66 : decode J_HPen_init.2.1 66 = .ok (.dup, 1) := by decide +kernel
theorem J_HPen_init_d67 : decode J_HPen_init.2.1 67 = .ok (.bipush 11, 2) := by decide +kernel
theorem J_HPen_init_d69 : decode J_HPen_init.2.1 69 = .ok (.iconst 0, 1) := by decide +kernel
theorem J_HPen_init_d70 : decode J_HPen_init.2.1 70 = .ok (.iastore, 1) := by decide +kernel
theorem J_HPen_init_d71 : decode J_HPen_init.2.1 71 = .ok (.putfield 9, 3) := by decide +kernel
theorem J_HPen_init_d74 : decode J_HPen_init.2.1 74 = .ok (.aload_n 0, 1) := by decide +kernel
theorem J_HPen_init_d75 : decode J_HPen_init.2.1 75 = .ok (.ldc 15, 2) := by decide +kernel
theorem J_HPen_init_d77 : decode J_HPen_init.2.1 77 = .ok (.newarray .int, 2) := by decide +kernel
theorem J_HPen_init_d79 : decode J_HPen_init.2.1 79 = .ok (.putfield 16, 3) := by decide +kernel
theorem J_HPen_init_d82 : decode J_HPen_init.2.1 82 = .ok (.aload_n 0, 1) := by decide +kernel
theorem J_HPen_init_d83 : decode J_HPen_init.2.1 83 = .ok (.aload_n 1, 1) := by decide +kernel
theorem J_HPen_init_d84 : decode J_HPen_init.2.1 84 = .ok (.putfield 19, 3) := by decide +kernel
theorem J_HPen_init_d87 : decode J_HPen_init.2.1 87 = .ok (.aload_n 0, 1) := by decide +kernel
theorem J_HPen_init_d88 : decode J_HPen_init.2.1 88 = .ok (.aload_n 2, 1) := by decide +kernel
theorem J_HPen_init_d89 : decode J_HPen_init.2.1 89 = .ok (.putfield 23, 3) := by decide +kernel
theorem J_HPen_init_d92 : decode J_HPen_init.2.1 92 = .ok (.aload_n 0, 1) := by decide +kernel
theorem J_HPen_init_d93 : decode J_HPen_init.2.1 93 = .ok (.aload_n 3, 1) := by decide +kernel
theorem J_HPen_init_d94 : decode J_HPen_init.2.1 94 = .ok (.putfield 27, 3) := by decide +kernel
theorem J_HPen_init_d97 : decode J_HPen_init.2.1 97 = .ok (.return_, 1) := by decide +kernel
set_option maxRecDepth 20000 in
set_option maxHeartbeats 40000000 in
theorem cs_10 {L : Nat} {xs : Nat → Int32} {dep : Nat} : ia (tb_G L xs) dep J_HPen_init (fun v M1 => v = none ∧ M1 = mm_137) (0, lv_args 0 [.ref 56, .ref 28, .ref 31, .ref 38], [], mm_118) := by
  have hS : im_St (tb_G L xs) dep J_HPen_init (ia (tb_G L xs) dep J_HPen_init (fun v M1 => v = none ∧ M1 = mm_137)) := ia_St
  have h0 : im_lk (lv_args 0 [.ref 56, .ref 28, .ref 31, .ref 38]) 0 = some (.ref 56) := rfl
  have h1 : im_lk (lv_args 0 [.ref 56, .ref 28, .ref 31, .ref 38]) 1 = some (.ref 28) := rfl
  have h2 : im_lk (lv_args 0 [.ref 56, .ref 28, .ref 31, .ref 38]) 2 = some (.ref 31) := rfl
  have h3 : im_lk (lv_args 0 [.ref 56, .ref 28, .ref 31, .ref 38]) 3 = some (.ref 38) := rfl
  refine iq_aload_n hS 1 J_HPen_init_d0 h0 rfl ?_
  refine iq_oinit hS 4 J_HPen_init_d1 (by decide +kernel) (Nat.le_of_ble_eq_true rfl) rfl ?_
  refine iq_aload_n hS 5 J_HPen_init_d4 h0 rfl ?_
  refine iq_bipush hS 7 J_HPen_init_d5 (v := 12) (by decide +kernel) rfl ?_
  refine iq_newa hS 9 J_HPen_init_d7 (N := 12) rfl (by decide) (by decide) (by decide) (by decide) (by decide) rfl ?_
  change ia _ _ _ _ (_, _, .ref 57 :: _, mm_119)
  refine iq_dup hS 10 J_HPen_init_d9 rfl rfl ?_
  refine iq_iconst hS 11 J_HPen_init_d10 (v := 0) (by decide +kernel) rfl ?_
  refine iq_bipush hS 13 J_HPen_init_d11 (v := 8) (by decide +kernel) rfl ?_
  refine iq_iastore hS 14 J_HPen_init_d13 ⟨by decide, rfl, by decide +kernel, by decide +kernel⟩ rfl ?_
  change ia _ _ _ _ (_, _, _, mm_120)
  refine iq_dup hS 15 J_HPen_init_d14 rfl rfl ?_
  refine iq_iconst hS 16 J_HPen_init_d15 (v := 1) (by decide +kernel) rfl ?_
  refine iq_bipush hS 18 J_HPen_init_d16 (v := 8) (by decide +kernel) rfl ?_
  refine iq_iastore hS 19 J_HPen_init_d18 ⟨by decide, rfl, by decide +kernel, by decide +kernel⟩ rfl ?_
  change ia _ _ _ _ (_, _, _, mm_121)
  refine iq_dup hS 20 J_HPen_init_d19 rfl rfl ?_
  refine iq_iconst hS 21 J_HPen_init_d20 (v := 2) (by decide +kernel) rfl ?_
  refine iq_iconst hS 22 J_HPen_init_d21 (v := 0) (by decide +kernel) rfl ?_
  refine iq_iastore hS 23 J_HPen_init_d22 ⟨by decide, rfl, by decide +kernel, by decide +kernel⟩ rfl ?_
  change ia _ _ _ _ (_, _, _, mm_122)
  refine iq_dup hS 24 J_HPen_init_d23 rfl rfl ?_
  refine iq_iconst hS 25 J_HPen_init_d24 (v := 3) (by decide +kernel) rfl ?_
  refine iq_bipush hS 27 J_HPen_init_d25 (v := 8) (by decide +kernel) rfl ?_
  refine iq_iastore hS 28 J_HPen_init_d27 ⟨by decide, rfl, by decide +kernel, by decide +kernel⟩ rfl ?_
  change ia _ _ _ _ (_, _, _, mm_123)
  refine iq_dup hS 29 J_HPen_init_d28 rfl rfl ?_
  refine iq_iconst hS 30 J_HPen_init_d29 (v := 4) (by decide +kernel) rfl ?_
  refine iq_bipush hS 32 J_HPen_init_d30 (v := 8) (by decide +kernel) rfl ?_
  refine iq_iastore hS 33 J_HPen_init_d32 ⟨by decide, rfl, by decide +kernel, by decide +kernel⟩ rfl ?_
  change ia _ _ _ _ (_, _, _, mm_124)
  refine iq_dup hS 34 J_HPen_init_d33 rfl rfl ?_
  refine iq_iconst hS 35 J_HPen_init_d34 (v := 5) (by decide +kernel) rfl ?_
  refine iq_iconst hS 36 J_HPen_init_d35 (v := 0) (by decide +kernel) rfl ?_
  refine iq_iastore hS 37 J_HPen_init_d36 ⟨by decide, rfl, by decide +kernel, by decide +kernel⟩ rfl ?_
  change ia _ _ _ _ (_, _, _, mm_125)
  refine iq_dup hS 38 J_HPen_init_d37 rfl rfl ?_
  refine iq_bipush hS 40 J_HPen_init_d38 (v := 6) (by decide +kernel) rfl ?_
  refine iq_bipush hS 42 J_HPen_init_d40 (v := 8) (by decide +kernel) rfl ?_
  refine iq_iastore hS 43 J_HPen_init_d42 ⟨by decide, rfl, by decide +kernel, by decide +kernel⟩ rfl ?_
  change ia _ _ _ _ (_, _, _, mm_126)
  refine iq_dup hS 44 J_HPen_init_d43 rfl rfl ?_
  refine iq_bipush hS 46 J_HPen_init_d44 (v := 7) (by decide +kernel) rfl ?_
  refine iq_bipush hS 48 J_HPen_init_d46 (v := 8) (by decide +kernel) rfl ?_
  refine iq_iastore hS 49 J_HPen_init_d48 ⟨by decide, rfl, by decide +kernel, by decide +kernel⟩ rfl ?_
  change ia _ _ _ _ (_, _, _, mm_127)
  refine iq_dup hS 50 J_HPen_init_d49 rfl rfl ?_
  refine iq_bipush hS 52 J_HPen_init_d50 (v := 8) (by decide +kernel) rfl ?_
  refine iq_iconst hS 53 J_HPen_init_d52 (v := 0) (by decide +kernel) rfl ?_
  refine iq_iastore hS 54 J_HPen_init_d53 ⟨by decide, rfl, by decide +kernel, by decide +kernel⟩ rfl ?_
  change ia _ _ _ _ (_, _, _, mm_128)
  refine iq_dup hS 55 J_HPen_init_d54 rfl rfl ?_
  refine iq_bipush hS 57 J_HPen_init_d55 (v := 9) (by decide +kernel) rfl ?_
  refine iq_bipush hS 59 J_HPen_init_d57 (v := 8) (by decide +kernel) rfl ?_
  refine iq_iastore hS 60 J_HPen_init_d59 ⟨by decide, rfl, by decide +kernel, by decide +kernel⟩ rfl ?_
  change ia _ _ _ _ (_, _, _, mm_129)
  refine iq_dup hS 61 J_HPen_init_d60 rfl rfl ?_
  refine iq_bipush hS 63 J_HPen_init_d61 (v := 10) (by decide +kernel) rfl ?_
  refine iq_bipush hS 65 J_HPen_init_d63 (v := 8) (by decide +kernel) rfl ?_
  refine iq_iastore hS 66 J_HPen_init_d65 ⟨by decide, rfl, by decide +kernel, by decide +kernel⟩ rfl ?_
  change ia _ _ _ _ (_, _, _, mm_130)
  refine iq_dup hS 67 J_HPen_init_d66 rfl rfl ?_
  refine iq_bipush hS 69 J_HPen_init_d67 (v := 11) (by decide +kernel) rfl ?_
  refine iq_iconst hS 70 J_HPen_init_d69 (v := 0) (by decide +kernel) rfl ?_
  refine iq_iastore hS 71 J_HPen_init_d70 ⟨by decide, rfl, by decide +kernel, by decide +kernel⟩ rfl ?_
  change ia _ _ _ _ (_, _, _, mm_131)
  refine iq_putR hS 74 J_HPen_init_d71 lf_6_9 (Or.inr ⟨rfl, rfl⟩) (Or.inr ⟨_, rfl⟩) ⟨by decide, rfl⟩ rfl ?_
  change ia _ _ _ _ (_, _, _, mm_132)
  refine iq_aload_n hS 75 J_HPen_init_d74 h0 rfl ?_
  refine iq_ldc hS 77 J_HPen_init_d75 lk_6_15 rfl ?_
  refine iq_newa hS 79 J_HPen_init_d77 (N := 32768) rfl (by decide) (by decide) (by decide) (by decide) (by decide) rfl ?_
  change ia _ _ _ _ (_, _, .ref 58 :: _, mm_133)
  refine iq_putR hS 82 J_HPen_init_d79 lf_6_16 (Or.inr ⟨rfl, rfl⟩) (Or.inr ⟨_, rfl⟩) ⟨by decide, rfl⟩ rfl ?_
  change ia _ _ _ _ (_, _, _, mm_134)
  refine iq_aload_n hS 83 J_HPen_init_d82 h0 rfl ?_
  refine iq_aload_n hS 84 J_HPen_init_d83 h1 rfl ?_
  refine iq_putR hS 87 J_HPen_init_d84 lf_6_19 (Or.inr ⟨rfl, rfl⟩) (Or.inl ⟨_, rfl⟩) ⟨by decide, rfl⟩ rfl ?_
  change ia _ _ _ _ (_, _, _, mm_135)
  refine iq_aload_n hS 88 J_HPen_init_d87 h0 rfl ?_
  refine iq_aload_n hS 89 J_HPen_init_d88 h2 rfl ?_
  refine iq_putR hS 92 J_HPen_init_d89 lf_6_23 (Or.inr ⟨rfl, rfl⟩) (Or.inl ⟨_, rfl⟩) ⟨by decide, rfl⟩ rfl ?_
  change ia _ _ _ _ (_, _, _, mm_136)
  refine iq_aload_n hS 93 J_HPen_init_d92 h0 rfl ?_
  refine iq_aload_n hS 94 J_HPen_init_d93 h3 rfl ?_
  refine iq_putR hS 97 J_HPen_init_d94 lf_6_27 (Or.inr ⟨rfl, rfl⟩) (Or.inl ⟨_, rfl⟩) ⟨by decide, rfl⟩ rfl ?_
  change ia _ _ _ _ (_, _, _, mm_137)
  exact iq_ret J_HPen_init_d97 rfl ⟨rfl, rfl⟩
theorem J_HFinder_init_d0 : decode J_HFinder_init.2.1 0 = .ok (.aload_n 0, 1) := by decide +kernel
theorem J_HFinder_init_d1 : decode J_HFinder_init.2.1 1 = .ok (.invokespecial 5, 3) := by decide +kernel
theorem J_HFinder_init_d4 : decode J_HFinder_init.2.1 4 = .ok (.aload_n 0, 1) := by decide +kernel
theorem J_HFinder_init_d5 : decode J_HFinder_init.2.1 5 = .ok (.ldc 13, 2) := by decide +kernel
theorem J_HFinder_init_d7 : decode J_HFinder_init.2.1 7 = .ok (.newarray .int, 2) := by decide +kernel
theorem J_HFinder_init_d9 : decode J_HFinder_init.2.1 9 = .ok (.putfield 14, 3) := by decide +kernel
theorem J_HFinder_init_d12 : decode J_HFinder_init.2.1 12 = .ok (.aload_n 0, 1) := by decide +kernel
theorem J_HFinder_init_d13 : decode J_HFinder_init.2.1 13 = .ok (.ldc 18, 2) := by decide +kernel
theorem J_HFinder_init_d15 : decode J_HFinder_init.2.1 15 = .ok (.newarray .short, 2) := by decide +kernel
theorem J_HFinder_init_d17 : decode J_HFinder_init.2.1 17 = .ok (.putfield 19, 3) := by decide +kernel
theorem J_HFinder_init_d20 : decode J_HFinder_init.2.1 20 = .ok (.aload_n 0, 1) := by decide +kernel
theorem J_HFinder_init_d21 : decode J_HFinder_init.2.1 21 = .ok (.sipush 300, 3) := by decide +kernel
theorem J_HFinder_init_d24 : decode J_HFinder_init.2.1 24 = .ok (.newarray .long, 2) := by decide +kernel
theorem J_HFinder_init_d26 : decode J_HFinder_init.2.1 26 = .ok (.putfield 23, 3) := by decide +kernel
theorem J_HFinder_init_d29 : decode J_HFinder_init.2.1 29 = .ok (.aload_n 0, 1) := by decide +kernel
theorem J_HFinder_init_d30 : decode J_HFinder_init.2.1 30 = .ok (.sipush 300, 3) := by decide +kernel
theorem J_HFinder_init_d33 : decode J_HFinder_init.2.1 33 = .ok (.newarray .int, 2) := by decide +kernel
theorem J_HFinder_init_d35 : decode J_HFinder_init.2.1 35 = .ok (.putfield 27, 3) := by decide +kernel
theorem J_HFinder_init_d38 : decode J_HFinder_init.2.1 38 = .ok (.aload_n 0, 1) := by decide +kernel
theorem J_HFinder_init_d39 : decode J_HFinder_init.2.1 39 = .ok (.sipush 300, 3) := by decide +kernel
theorem J_HFinder_init_d42 : decode J_HFinder_init.2.1 42 = .ok (.newarray .boolean, 2) := by decide +kernel
theorem J_HFinder_init_d44 : decode J_HFinder_init.2.1 44 = .ok (.putfield 30, 3) := by decide +kernel
theorem J_HFinder_init_d47 : decode J_HFinder_init.2.1 47 = .ok (.aload_n 0, 1) := by decide +kernel
theorem J_HFinder_init_d48 : decode J_HFinder_init.2.1 48 = .ok (.iconst 4, 1) := by decide +kernel
theorem J_HFinder_init_d49 : decode J_HFinder_init.2.1 49 = .ok (.newarray .int, 2) := by decide +kernel
theorem J_HFinder_init_d51 : decode J_HFinder_init.2.1 51 = .ok (.putfield 34, 3) := by decide +kernel
theorem J_HFinder_init_d54 : decode J_HFinder_init.2.1 54 = .ok (.aload_n 0, 1) := by decide +kernel
theorem J_HFinder_init_d55 : decode J_HFinder_init.2.1 55 = .ok (.aload_n 1, 1) := by decide +kernel
theorem J_HFinder_init_d56 : decode J_HFinder_init.2.1 56 = .ok (.putfield 37, 3) := by decide +kernel
theorem J_HFinder_init_d59 : decode J_HFinder_init.2.1 59 = .ok (.return_, 1) := by decide +kernel
set_option maxRecDepth 20000 in
set_option maxHeartbeats 40000000 in
theorem cs_11 {L : Nat} {xs : Nat → Int32} {dep : Nat} : ia (tb_G L xs) dep J_HFinder_init (fun v M1 => v = none ∧ M1 = mm_152) (0, lv_args 0 [.ref 59, .ref 28], [], mm_139) := by
  have hS : im_St (tb_G L xs) dep J_HFinder_init (ia (tb_G L xs) dep J_HFinder_init (fun v M1 => v = none ∧ M1 = mm_152)) := ia_St
  have h0 : im_lk (lv_args 0 [.ref 59, .ref 28]) 0 = some (.ref 59) := rfl
  have h1 : im_lk (lv_args 0 [.ref 59, .ref 28]) 1 = some (.ref 28) := rfl
  refine iq_aload_n hS 1 J_HFinder_init_d0 h0 rfl ?_
  refine iq_oinit hS 4 J_HFinder_init_d1 (by decide +kernel) (Nat.le_of_ble_eq_true rfl) rfl ?_
  refine iq_aload_n hS 5 J_HFinder_init_d4 h0 rfl ?_
  refine iq_ldc hS 7 J_HFinder_init_d5 lk_3_13 rfl ?_
  refine iq_newa hS 9 J_HFinder_init_d7 (N := 263169) rfl (by decide) (by decide) (by decide) (by decide) (by decide) rfl ?_
  change ia _ _ _ _ (_, _, .ref 60 :: _, mm_140)
  refine iq_putR hS 12 J_HFinder_init_d9 lf_3_14 (Or.inr ⟨rfl, rfl⟩) (Or.inr ⟨_, rfl⟩) ⟨by decide, rfl⟩ rfl ?_
  change ia _ _ _ _ (_, _, _, mm_141)
  refine iq_aload_n hS 13 J_HFinder_init_d12 h0 rfl ?_
  refine iq_ldc hS 15 J_HFinder_init_d13 lk_3_18 rfl ?_
  refine iq_newa hS 17 J_HFinder_init_d15 (N := 262144) rfl (by decide) (by decide) (by decide) (by decide) (by decide) rfl ?_
  change ia _ _ _ _ (_, _, .ref 61 :: _, mm_142)
  refine iq_putR hS 20 J_HFinder_init_d17 lf_3_19 (Or.inr ⟨rfl, rfl⟩) (Or.inr ⟨_, rfl⟩) ⟨by decide, rfl⟩ rfl ?_
  change ia _ _ _ _ (_, _, _, mm_143)
  refine iq_aload_n hS 21 J_HFinder_init_d20 h0 rfl ?_
  refine iq_sipush hS 24 J_HFinder_init_d21 (v := 300) (by decide +kernel) rfl ?_
  refine iq_newa hS 26 J_HFinder_init_d24 (N := 300) rfl (by decide) (by decide) (by decide) (by decide) (by decide) rfl ?_
  change ia _ _ _ _ (_, _, .ref 62 :: _, mm_144)
  refine iq_putR hS 29 J_HFinder_init_d26 lf_3_23 (Or.inr ⟨rfl, rfl⟩) (Or.inr ⟨_, rfl⟩) ⟨by decide, rfl⟩ rfl ?_
  change ia _ _ _ _ (_, _, _, mm_145)
  refine iq_aload_n hS 30 J_HFinder_init_d29 h0 rfl ?_
  refine iq_sipush hS 33 J_HFinder_init_d30 (v := 300) (by decide +kernel) rfl ?_
  refine iq_newa hS 35 J_HFinder_init_d33 (N := 300) rfl (by decide) (by decide) (by decide) (by decide) (by decide) rfl ?_
  change ia _ _ _ _ (_, _, .ref 63 :: _, mm_146)
  refine iq_putR hS 38 J_HFinder_init_d35 lf_3_27 (Or.inr ⟨rfl, rfl⟩) (Or.inr ⟨_, rfl⟩) ⟨by decide, rfl⟩ rfl ?_
  change ia _ _ _ _ (_, _, _, mm_147)
  refine iq_aload_n hS 39 J_HFinder_init_d38 h0 rfl ?_
  refine iq_sipush hS 42 J_HFinder_init_d39 (v := 300) (by decide +kernel) rfl ?_
  refine iq_newa hS 44 J_HFinder_init_d42 (N := 300) rfl (by decide) (by decide) (by decide) (by decide) (by decide) rfl ?_
  change ia _ _ _ _ (_, _, .ref 64 :: _, mm_148)
  refine iq_putR hS 47 J_HFinder_init_d44 lf_3_30 (Or.inr ⟨rfl, rfl⟩) (Or.inr ⟨_, rfl⟩) ⟨by decide, rfl⟩ rfl ?_
  change ia _ _ _ _ (_, _, _, mm_149)
  refine iq_aload_n hS 48 J_HFinder_init_d47 h0 rfl ?_
  refine iq_iconst hS 49 J_HFinder_init_d48 (v := 4) (by decide +kernel) rfl ?_
  refine iq_newa hS 51 J_HFinder_init_d49 (N := 4) rfl (by decide) (by decide) (by decide) (by decide) (by decide) rfl ?_
  change ia _ _ _ _ (_, _, .ref 65 :: _, mm_150)
  refine iq_putR hS 54 J_HFinder_init_d51 lf_3_34 (Or.inr ⟨rfl, rfl⟩) (Or.inr ⟨_, rfl⟩) ⟨by decide, rfl⟩ rfl ?_
  change ia _ _ _ _ (_, _, _, mm_151)
  refine iq_aload_n hS 55 J_HFinder_init_d54 h0 rfl ?_
  refine iq_aload_n hS 56 J_HFinder_init_d55 h1 rfl ?_
  refine iq_putR hS 59 J_HFinder_init_d56 lf_3_37 (Or.inr ⟨rfl, rfl⟩) (Or.inl ⟨_, rfl⟩) ⟨by decide, rfl⟩ rfl ?_
  change ia _ _ _ _ (_, _, _, mm_152)
  exact iq_ret J_HFinder_init_d59 rfl ⟨rfl, rfl⟩
theorem J_H_init_d0 : decode J_H_init.2.1 0 = .ok (.aload_n 0, 1) := by decide +kernel
theorem J_H_init_d1 : decode J_H_init.2.1 1 = .ok (.invokespecial 1, 3) := by decide +kernel
theorem J_H_init_d4 : decode J_H_init.2.1 4 = .ok (.aload_n 0, 1) := by decide +kernel
theorem J_H_init_d5 : decode J_H_init.2.1 5 = .ok (.new 7, 3) := by decide +kernel
theorem J_H_init_d8 : decode J_H_init.2.1 8 = .ok (.dup, 1) := by decide +kernel
theorem J_H_init_d9 : decode J_H_init.2.1 9 = .ok (.invokespecial 9, 3) := by decide +kernel
theorem J_H_init_d12 : decode J_H_init.2.1 12 = .ok (.putfield 10, 3) := by decide +kernel
theorem J_H_init_d15 : decode J_H_init.2.1 15 = .ok (.aload_n 0, 1) := by decide +kernel
theorem J_H_init_d16 : decode J_H_init.2.1 16 = .ok (.new 16, 3) := by decide +kernel
theorem J_H_init_d19 : decode J_H_init.2.1 19 = .ok (.dup, 1) := by decide +kernel
theorem J_H_init_d20 : decode J_H_init.2.1 20 = .ok (.bipush 120, 2) := by decide +kernel
theorem J_H_init_d22 : decode J_H_init.2.1 22 = .ok (.invokespecial 18, 3) := by decide +kernel
theorem J_H_init_d25 : decode J_H_init.2.1 25 = .ok (.putfield 21, 3) := by decide +kernel
theorem J_H_init_d28 : decode J_H_init.2.1 28 = .ok (.aload_n 0, 1) := by decide +kernel
theorem J_H_init_d29 : decode J_H_init.2.1 29 = .ok (.new 25, 3) := by decide +kernel
theorem J_H_init_d32 : decode J_H_init.2.1 32 = .ok (.dup, 1) := by decide +kernel
theorem J_H_init_d33 : decode J_H_init.2.1 33 = .ok (.aload_n 0, 1) := by decide +kernel
theorem J_H_init_d34 : decode J_H_init.2.1 34 = .ok (.getfield 10, 3) := by decide +kernel
theorem J_H_init_d37 : decode J_H_init.2.1 37 = .ok (.aload_n 0, 1) := by decide +kernel
theorem J_H_init_d38 : decode J_H_init.2.1 38 = .ok (.getfield 21, 3) := by decide +kernel
theorem J_H_init_d41 : decode J_H_init.2.1 41 = .ok (.invokespecial 27, 3) := by decide +kernel
theorem J_H_init_d44 : decode J_H_init.2.1 44 = .ok (.putfield 30, 3) := by decide +kernel
theorem J_H_init_d47 : decode J_H_init.2.1 47 = .ok (.aload_n 0, 1) := by decide +kernel
theorem J_H_init_d48 : decode J_H_init.2.1 48 = .ok (.new 34, 3) := by decide +kernel
theorem J_H_init_d51 : decode J_H_init.2.1 51 = .ok (.dup, 1) := by decide +kernel
theorem J_H_init_d52 : decode J_H_init.2.1 52 = .ok (.invokespecial 36, 3) := by decide +kernel
theorem J_H_init_d55 : decode J_H_init.2.1 55 = .ok (.putfield 37, 3) := by decide +kernel
theorem J_H_init_d58 : decode J_H_init.2.1 58 = .ok (.aload_n 0, 1) := by decide +kernel
theorem J_H_init_d59 : decode J_H_init.2.1 59 = .ok (.new 41, 3) := by decide +kernel
theorem J_H_init_d62 : decode J_H_init.2.1 62 = .ok (.dup, 1) := by decide +kernel
theorem J_H_init_d63 : decode J_H_init.2.1 63 = .ok (.invokespecial 43, 3) := by decide +kernel
theorem J_H_init_d66 : decode J_H_init.2.1 66 = .ok (.putfield 44, 3) := by decide +kernel
theorem J_H_init_d69 : decode J_H_init.2.1 69 = .ok (.aload_n 0, 1) := by decide +kernel
theorem J_H_init_d70 : decode J_H_init.2.1 70 = .ok (.new 48, 3) := by decide +kernel
theorem J_H_init_d73 : decode J_H_init.2.1 73 = .ok (.dup, 1) := by decide +kernel
theorem J_H_init_d74 : decode J_H_init.2.1 74 = .ok (.invokespecial 50, 3) := by decide +kernel
theorem J_H_init_d77 : decode J_H_init.2.1 77 = .ok (.putfield 51, 3) := by decide +kernel
theorem J_H_init_d80 : decode J_H_init.2.1 80 = .ok (.aload_n 0, 1) := by decide +kernel
theorem J_H_init_d81 : decode J_H_init.2.1 81 = .ok (.new 55, 3) := by decide +kernel
theorem J_H_init_d84 : decode J_H_init.2.1 84 = .ok (.dup, 1) := by decide +kernel
theorem J_H_init_d85 : decode J_H_init.2.1 85 = .ok (.aload_n 0, 1) := by decide +kernel
theorem J_H_init_d86 : decode J_H_init.2.1 86 = .ok (.getfield 37, 3) := by decide +kernel
theorem J_H_init_d89 : decode J_H_init.2.1 89 = .ok (.aload_n 0, 1) := by decide +kernel
theorem J_H_init_d90 : decode J_H_init.2.1 90 = .ok (.getfield 44, 3) := by decide +kernel
theorem J_H_init_d93 : decode J_H_init.2.1 93 = .ok (.aload_n 0, 1) := by decide +kernel
theorem J_H_init_d94 : decode J_H_init.2.1 94 = .ok (.getfield 51, 3) := by decide +kernel
theorem J_H_init_d97 : decode J_H_init.2.1 97 = .ok (.invokespecial 57, 3) := by decide +kernel
theorem J_H_init_d100 : decode J_H_init.2.1 100 = .ok (.putfield 60, 3) := by decide +kernel
theorem J_H_init_d103 : decode J_H_init.2.1 103 = .ok (.aload_n 0, 1) := by decide +kernel
theorem J_H_init_d104 : decode J_H_init.2.1 104 = .ok (.new 64, 3) := by decide +kernel
theorem J_H_init_d107 : decode J_H_init.2.1 107 = .ok (.dup, 1) := by decide +kernel
theorem J_H_init_d108 : decode J_H_init.2.1 108 = .ok (.aload_n 0, 1) := by decide +kernel
theorem J_H_init_d109 : decode J_H_init.2.1 109 = .ok (.getfield 37, 3) := by decide +kernel
theorem J_H_init_d112 : decode J_H_init.2.1 112 = .ok (.invokespecial 66, 3) := by decide +kernel
theorem J_H_init_d115 : decode J_H_init.2.1 115 = .ok (.putfield 69, 3) := by decide +kernel
theorem J_H_init_d118 : decode J_H_init.2.1 118 = .ok (.aload_n 0, 1) := by decide +kernel
theorem J_H_init_d119 : decode J_H_init.2.1 119 = .ok (.bipush 120, 2) := by decide +kernel
theorem J_H_init_d121 : decode J_H_init.2.1 121 = .ok (.newarray .int, 2) := by decide +kernel
theorem J_H_init_d123 : decode J_H_init.2.1 123 = .ok (.putfield 73, 3) := by decide +kernel
theorem J_H_init_d126 : decode J_H_init.2.1 126 = .ok (.aload_n 0, 1) := by decide +kernel
theorem J_H_init_d127 : decode J_H_init.2.1 127 = .ok (.bipush 7, 2) := by decide +kernel
theorem J_H_init_d129 : decode J_H_init.2.1 129 = .ok (.newarray .int, 2) := by decide +kernel
theorem J_H_init_d131 : decode J_H_init.2.1 131 = .ok (.dup, 1) := by decide +kernel
theorem J_H_init_d132 : decode J_H_init.2.1 132 = .ok (.iconst 0, 1) := by decide +kernel
theorem J_H_init_d133 : decode J_H_init.2.1 133 = .ok (.iconst (-1), 1) := by decide +kernel
theorem J_H_init_d134 : decode J_H_init.2.1 134 = .ok (.iastore, 1) := by decide +kernel
theorem J_H_init_d135 : decode J_H_init.2.1 135 = .ok (.dup, 1) := by decide +kernel
theorem J_H_init_d136 : decode J_H_init.2.1 136 = .ok (.iconst 1, 1) := by decide +kernel
theorem J_H_init_d137 : decode J_H_init.2.1 137 = .ok (.iconst (-1), 1) := by decide +kernel
theorem J_H_init_d138 : decode J_H_init.2.1 138 = .ok (.iastore, 1) := by decide +kernel
theorem J_H_init_d139 : decode J_H_init.2.1 139 = .ok (.dup, 1) := by decide +kernel
theorem J_H_init_d140 : decode J_H_init.2.1 140 = .ok (.iconst 2, 1) := by decide +kernel
theorem J_H_init_d141 : decode J_H_init.2.1 141 = .ok (.iconst (-1), 1) := by decide +kernel
theorem J_H_init_d142 : decode J_H_init.2.1 142 = .ok (.iastore, 1) := by decide +kernel
theorem J_H_init_d143 : decode J_H_init.2.1 143 = .ok (.dup, 1) := by decide +kernel
theorem J_H_init_d144 : decode J_H_init.2.1 144 = .ok (.iconst 3, 1) := by decide +kernel
theorem J_H_init_d145 : decode J_H_init.2.1 145 = .ok (.iconst (-1), 1) := by decide +kernel
theorem J_H_init_d146 : decode J_H_init.2.1 146 = .ok (.iastore, 1) := by decide +kernel
theorem J_H_init_d147 : decode J_H_init.2.1 147 = .ok (.dup, 1) := by decide +kernel
theorem J_H_init_d148 : decode J_H_init.2.1 148 = .ok (.iconst 4, 1) := by decide +kernel
theorem J_H_init_d149 : decode J_H_init.2.1 149 = .ok (.iconst (-1), 1) := by decide +kernel
theorem J_H_init_d150 : decode J_H_init.2.1 150 = .ok (.iastore, 1) := by decide +kernel
theorem J_H_init_d151 : decode J_H_init.2.1 151 = .ok (.dup, 1) := by decide +kernel
theorem J_H_init_d152 : decode J_H_init.2.1 152 = .ok (.iconst 5, 1) := by decide +kernel
theorem J_H_init_d153 : decode J_H_init.2.1 153 = .ok (.iconst (-1), 1) := by decide +kernel
theorem J_H_init_d154 : decode J_H_init.2.1 154 = .ok (.iastore, 1) := by decide +kernel
theorem J_H_init_d155 : decode J_H_init.2.1 155 = .ok (.dup, 1) := by decide +kernel
theorem J_H_init_d156 : decode J_H_init.2.1 156 = .ok (.bipush 6, 2) := by decide +kernel
theorem J_H_init_d158 : decode J_H_init.2.1 158 = .ok (.iconst 0, 1) := by decide +kernel
theorem J_H_init_d159 : decode J_H_init.2.1 159 = .ok (.iastore, 1) := by decide +kernel
theorem J_H_init_d160 : decode J_H_init.2.1 160 = .ok (.putfield 77, 3) := by decide +kernel
theorem J_H_init_d163 : decode J_H_init.2.1 163 = .ok (.aload_n 0, 1) := by decide +kernel
theorem J_H_init_d164 : decode J_H_init.2.1 164 = .ok (.sipush 3000, 3) := by decide +kernel
theorem J_H_init_d167 : decode J_H_init.2.1 167 = .ok (.newarray .byte, 2) := by decide +kernel
theorem J_H_init_d169 : decode J_H_init.2.1 169 = .ok (.putfield 80, 3) := by decide +kernel
theorem J_H_init_d172 : decode J_H_init.2.1 172 = .ok (.return_, 1) := by decide +kernel
set_option maxRecDepth 20000 in
set_option maxHeartbeats 40000000 in
theorem cs_12 {L : Nat} {xs : Nat → Int32} {dep : Nat} : ia (tb_G L xs) (dep + 2) J_H_init (fun v M1 => v = none ∧ M1 = mm_166) (0, lv_args 0 [.ref 0], [], mm_1) := by
  have hS : im_St (tb_G L xs) (dep + 2) J_H_init (ia (tb_G L xs) (dep + 2) J_H_init (fun v M1 => v = none ∧ M1 = mm_166)) := ia_St
  have h0 : im_lk (lv_args 0 [.ref 0]) 0 = some (.ref 0) := rfl
  refine iq_aload_n hS 1 J_H_init_d0 h0 rfl ?_
  refine iq_oinit hS 4 J_H_init_d1 (by decide +kernel) (Nat.le_of_ble_eq_true rfl) rfl ?_
  refine iq_aload_n hS 5 J_H_init_d4 h0 rfl ?_
  refine iq_new 8 J_H_init_d5 ln_11_7 rfl (by decide) (by decide) rfl ?_
  change ia _ _ _ _ (_, _, .ref 1 :: _, mm_2)
  refine iq_dup hS 9 J_H_init_d8 rfl rfl ?_
  refine iq_call hS 12 J_H_init_d9 rfl (pr_inst (vs := []) lc_11_9 lT_1 rfl rfl (by decide) (by decide) rfl (Nat.le_of_ble_eq_true rfl) (Nat.le_of_ble_eq_true rfl) (fun q => absurd q (by decide))) cs_0 rfl ?_
  rintro v M1 ⟨rfl, rfl⟩
  refine iq_putR hS 15 J_H_init_d12 lf_11_10 (Or.inr ⟨rfl, rfl⟩) (Or.inl ⟨_, rfl⟩) ⟨by decide, rfl⟩ rfl ?_
  change ia _ _ _ _ (_, _, _, mm_21)
  refine iq_aload_n hS 16 J_H_init_d15 h0 rfl ?_
  refine iq_new 19 J_H_init_d16 ln_11_16 rfl (by decide) (by decide) rfl ?_
  change ia _ _ _ _ (_, _, .ref 11 :: _, mm_22)
  refine iq_dup hS 20 J_H_init_d19 rfl rfl ?_
  refine iq_bipush hS 22 J_H_init_d20 (v := 120) (by decide +kernel) rfl ?_
  refine iq_call hS 25 J_H_init_d22 rfl (pr_inst (vs := [_]) lc_11_18 lT_2 rfl rfl (by decide) (by decide) rfl (Nat.le_of_ble_eq_true rfl) (Nat.le_of_ble_eq_true rfl) (fun q => absurd q (by decide))) cs_1 rfl ?_
  rintro v M1 ⟨rfl, rfl⟩
  refine iq_putR hS 28 J_H_init_d25 lf_11_21 (Or.inr ⟨rfl, rfl⟩) (Or.inl ⟨_, rfl⟩) ⟨by decide, rfl⟩ rfl ?_
  change ia _ _ _ _ (_, _, _, mm_29)
  refine iq_aload_n hS 29 J_H_init_d28 h0 rfl ?_
  refine iq_new 32 J_H_init_d29 ln_11_25 rfl (by decide) (by decide) rfl ?_
  change ia _ _ _ _ (_, _, .ref 15 :: _, mm_30)
  refine iq_dup hS 33 J_H_init_d32 rfl rfl ?_
  refine iq_aload_n hS 34 J_H_init_d33 h0 rfl ?_
  refine iq_getR hS 37 J_H_init_d34 lf_11_10 (Or.inl ⟨_, rfl⟩) ⟨by decide, rfl⟩ (b := 1) rfl rfl ?_
  refine iq_aload_n hS 38 J_H_init_d37 h0 rfl ?_
  refine iq_getR hS 41 J_H_init_d38 lf_11_21 (Or.inl ⟨_, rfl⟩) ⟨by decide, rfl⟩ (b := 11) rfl rfl ?_
  refine iq_call hS 44 J_H_init_d41 rfl (pr_inst (vs := [_, _]) lc_11_27 lT_3 rfl rfl (by decide) (by decide) rfl (Nat.le_of_ble_eq_true rfl) (Nat.le_of_ble_eq_true rfl) (fun q => absurd q (by decide))) cs_4 rfl ?_
  rintro v M1 ⟨rfl, rfl⟩
  refine iq_putR hS 47 J_H_init_d44 lf_11_30 (Or.inr ⟨rfl, rfl⟩) (Or.inl ⟨_, rfl⟩) ⟨by decide, rfl⟩ rfl ?_
  change ia _ _ _ _ (_, _, _, mm_58)
  refine iq_aload_n hS 48 J_H_init_d47 h0 rfl ?_
  refine iq_new 51 J_H_init_d48 ln_11_34 rfl (by decide) (by decide) rfl ?_
  change ia _ _ _ _ (_, _, .ref 28 :: _, mm_59)
  refine iq_dup hS 52 J_H_init_d51 rfl rfl ?_
  refine iq_call hS 55 J_H_init_d52 rfl (pr_inst (vs := []) lc_11_36 lT_5 rfl rfl (by decide) (by decide) rfl (Nat.le_of_ble_eq_true rfl) (Nat.le_of_ble_eq_true rfl) (fun q => absurd q (by decide))) cs_5 rfl ?_
  rintro v M1 ⟨rfl, rfl⟩
  refine iq_putR hS 58 J_H_init_d55 lf_11_37 (Or.inr ⟨rfl, rfl⟩) (Or.inl ⟨_, rfl⟩) ⟨by decide, rfl⟩ rfl ?_
  change ia _ _ _ _ (_, _, _, mm_66)
  refine iq_aload_n hS 59 J_H_init_d58 h0 rfl ?_
  refine iq_new 62 J_H_init_d59 ln_11_41 rfl (by decide) (by decide) rfl ?_
  change ia _ _ _ _ (_, _, .ref 31 :: _, mm_67)
  refine iq_dup hS 63 J_H_init_d62 rfl rfl ?_
  refine iq_call hS 66 J_H_init_d63 rfl (pr_inst (vs := []) lc_11_43 lT_6 rfl rfl (by decide) (by decide) rfl (Nat.le_of_ble_eq_true rfl) (Nat.le_of_ble_eq_true rfl) (fun q => absurd q (by decide))) cs_6 rfl ?_
  rintro v M1 ⟨rfl, rfl⟩
  refine iq_putR hS 69 J_H_init_d66 lf_11_44 (Or.inr ⟨rfl, rfl⟩) (Or.inl ⟨_, rfl⟩) ⟨by decide, rfl⟩ rfl ?_
  change ia _ _ _ _ (_, _, _, mm_80)
  refine iq_aload_n hS 70 J_H_init_d69 h0 rfl ?_
  refine iq_new 73 J_H_init_d70 ln_11_48 rfl (by decide) (by decide) rfl ?_
  change ia _ _ _ _ (_, _, .ref 38 :: _, mm_81)
  refine iq_dup hS 74 J_H_init_d73 rfl rfl ?_
  refine iq_call hS 77 J_H_init_d74 rfl (pr_inst (vs := []) lc_11_50 lT_7 rfl rfl (by decide) (by decide) rfl (Nat.le_of_ble_eq_true rfl) (Nat.le_of_ble_eq_true rfl) (fun q => absurd q (by decide))) cs_9 rfl ?_
  rintro v M1 ⟨rfl, rfl⟩
  refine iq_putR hS 80 J_H_init_d77 lf_11_51 (Or.inr ⟨rfl, rfl⟩) (Or.inl ⟨_, rfl⟩) ⟨by decide, rfl⟩ rfl ?_
  change ia _ _ _ _ (_, _, _, mm_117)
  refine iq_aload_n hS 81 J_H_init_d80 h0 rfl ?_
  refine iq_new 84 J_H_init_d81 ln_11_55 rfl (by decide) (by decide) rfl ?_
  change ia _ _ _ _ (_, _, .ref 56 :: _, mm_118)
  refine iq_dup hS 85 J_H_init_d84 rfl rfl ?_
  refine iq_aload_n hS 86 J_H_init_d85 h0 rfl ?_
  refine iq_getR hS 89 J_H_init_d86 lf_11_37 (Or.inl ⟨_, rfl⟩) ⟨by decide, rfl⟩ (b := 28) rfl rfl ?_
  refine iq_aload_n hS 90 J_H_init_d89 h0 rfl ?_
  refine iq_getR hS 93 J_H_init_d90 lf_11_44 (Or.inl ⟨_, rfl⟩) ⟨by decide, rfl⟩ (b := 31) rfl rfl ?_
  refine iq_aload_n hS 94 J_H_init_d93 h0 rfl ?_
  refine iq_getR hS 97 J_H_init_d94 lf_11_51 (Or.inl ⟨_, rfl⟩) ⟨by decide, rfl⟩ (b := 38) rfl rfl ?_
  refine iq_call hS 100 J_H_init_d97 rfl (pr_inst (vs := [_, _, _]) lc_11_57 lT_10 rfl rfl (by decide) (by decide) rfl (Nat.le_of_ble_eq_true rfl) (Nat.le_of_ble_eq_true rfl) (fun q => absurd q (by decide))) cs_10 rfl ?_
  rintro v M1 ⟨rfl, rfl⟩
  refine iq_putR hS 103 J_H_init_d100 lf_11_60 (Or.inr ⟨rfl, rfl⟩) (Or.inl ⟨_, rfl⟩) ⟨by decide, rfl⟩ rfl ?_
  change ia _ _ _ _ (_, _, _, mm_138)
  refine iq_aload_n hS 104 J_H_init_d103 h0 rfl ?_
  refine iq_new 107 J_H_init_d104 ln_11_64 rfl (by decide) (by decide) rfl ?_
  change ia _ _ _ _ (_, _, .ref 59 :: _, mm_139)
  refine iq_dup hS 108 J_H_init_d107 rfl rfl ?_
  refine iq_aload_n hS 109 J_H_init_d108 h0 rfl ?_
  refine iq_getR hS 112 J_H_init_d109 lf_11_37 (Or.inl ⟨_, rfl⟩) ⟨by decide, rfl⟩ (b := 28) rfl rfl ?_
  refine iq_call hS 115 J_H_init_d112 rfl (pr_inst (vs := [_]) lc_11_66 lT_11 rfl rfl (by decide) (by decide) rfl (Nat.le_of_ble_eq_true rfl) (Nat.le_of_ble_eq_true rfl) (fun q => absurd q (by decide))) cs_11 rfl ?_
  rintro v M1 ⟨rfl, rfl⟩
  refine iq_putR hS 118 J_H_init_d115 lf_11_69 (Or.inr ⟨rfl, rfl⟩) (Or.inl ⟨_, rfl⟩) ⟨by decide, rfl⟩ rfl ?_
  change ia _ _ _ _ (_, _, _, mm_153)
  refine iq_aload_n hS 119 J_H_init_d118 h0 rfl ?_
  refine iq_bipush hS 121 J_H_init_d119 (v := 120) (by decide +kernel) rfl ?_
  refine iq_newa hS 123 J_H_init_d121 (N := 120) rfl (by decide) (by decide) (by decide) (by decide) (by decide) rfl ?_
  change ia _ _ _ _ (_, _, .ref 66 :: _, mm_154)
  refine iq_putR hS 126 J_H_init_d123 lf_11_73 (Or.inr ⟨rfl, rfl⟩) (Or.inr ⟨_, rfl⟩) ⟨by decide, rfl⟩ rfl ?_
  change ia _ _ _ _ (_, _, _, mm_155)
  refine iq_aload_n hS 127 J_H_init_d126 h0 rfl ?_
  refine iq_bipush hS 129 J_H_init_d127 (v := 7) (by decide +kernel) rfl ?_
  refine iq_newa hS 131 J_H_init_d129 (N := 7) rfl (by decide) (by decide) (by decide) (by decide) (by decide) rfl ?_
  change ia _ _ _ _ (_, _, .ref 67 :: _, mm_156)
  refine iq_dup hS 132 J_H_init_d131 rfl rfl ?_
  refine iq_iconst hS 133 J_H_init_d132 (v := 0) (by decide +kernel) rfl ?_
  refine iq_iconst hS 134 J_H_init_d133 (v := (-1)) (by decide +kernel) rfl ?_
  refine iq_iastore hS 135 J_H_init_d134 ⟨by decide, rfl, by decide +kernel, by decide +kernel⟩ rfl ?_
  change ia _ _ _ _ (_, _, _, mm_157)
  refine iq_dup hS 136 J_H_init_d135 rfl rfl ?_
  refine iq_iconst hS 137 J_H_init_d136 (v := 1) (by decide +kernel) rfl ?_
  refine iq_iconst hS 138 J_H_init_d137 (v := (-1)) (by decide +kernel) rfl ?_
  refine iq_iastore hS 139 J_H_init_d138 ⟨by decide, rfl, by decide +kernel, by decide +kernel⟩ rfl ?_
  change ia _ _ _ _ (_, _, _, mm_158)
  refine iq_dup hS 140 J_H_init_d139 rfl rfl ?_
  refine iq_iconst hS 141 J_H_init_d140 (v := 2) (by decide +kernel) rfl ?_
  refine iq_iconst hS 142 J_H_init_d141 (v := (-1)) (by decide +kernel) rfl ?_
  refine iq_iastore hS 143 J_H_init_d142 ⟨by decide, rfl, by decide +kernel, by decide +kernel⟩ rfl ?_
  change ia _ _ _ _ (_, _, _, mm_159)
  refine iq_dup hS 144 J_H_init_d143 rfl rfl ?_
  refine iq_iconst hS 145 J_H_init_d144 (v := 3) (by decide +kernel) rfl ?_
  refine iq_iconst hS 146 J_H_init_d145 (v := (-1)) (by decide +kernel) rfl ?_
  refine iq_iastore hS 147 J_H_init_d146 ⟨by decide, rfl, by decide +kernel, by decide +kernel⟩ rfl ?_
  change ia _ _ _ _ (_, _, _, mm_160)
  refine iq_dup hS 148 J_H_init_d147 rfl rfl ?_
  refine iq_iconst hS 149 J_H_init_d148 (v := 4) (by decide +kernel) rfl ?_
  refine iq_iconst hS 150 J_H_init_d149 (v := (-1)) (by decide +kernel) rfl ?_
  refine iq_iastore hS 151 J_H_init_d150 ⟨by decide, rfl, by decide +kernel, by decide +kernel⟩ rfl ?_
  change ia _ _ _ _ (_, _, _, mm_161)
  refine iq_dup hS 152 J_H_init_d151 rfl rfl ?_
  refine iq_iconst hS 153 J_H_init_d152 (v := 5) (by decide +kernel) rfl ?_
  refine iq_iconst hS 154 J_H_init_d153 (v := (-1)) (by decide +kernel) rfl ?_
  refine iq_iastore hS 155 J_H_init_d154 ⟨by decide, rfl, by decide +kernel, by decide +kernel⟩ rfl ?_
  change ia _ _ _ _ (_, _, _, mm_162)
  refine iq_dup hS 156 J_H_init_d155 rfl rfl ?_
  refine iq_bipush hS 158 J_H_init_d156 (v := 6) (by decide +kernel) rfl ?_
  refine iq_iconst hS 159 J_H_init_d158 (v := 0) (by decide +kernel) rfl ?_
  refine iq_iastore hS 160 J_H_init_d159 ⟨by decide, rfl, by decide +kernel, by decide +kernel⟩ rfl ?_
  change ia _ _ _ _ (_, _, _, mm_163)
  refine iq_putR hS 163 J_H_init_d160 lf_11_77 (Or.inr ⟨rfl, rfl⟩) (Or.inr ⟨_, rfl⟩) ⟨by decide, rfl⟩ rfl ?_
  change ia _ _ _ _ (_, _, _, mm_164)
  refine iq_aload_n hS 164 J_H_init_d163 h0 rfl ?_
  refine iq_sipush hS 167 J_H_init_d164 (v := 3000) (by decide +kernel) rfl ?_
  refine iq_newa hS 169 J_H_init_d167 (N := 3000) rfl (by decide) (by decide) (by decide) (by decide) (by decide) rfl ?_
  change ia _ _ _ _ (_, _, .ref 68 :: _, mm_165)
  refine iq_putR hS 172 J_H_init_d169 lf_11_80 (Or.inr ⟨rfl, rfl⟩) (Or.inr ⟨_, rfl⟩) ⟨by decide, rfl⟩ rfl ?_
  change ia _ _ _ _ (_, _, _, mm_166)
  exact iq_ret J_H_init_d172 rfl ⟨rfl, rfl⟩
theorem J_MScriptRows_init_d0 : decode J_MScriptRows_init.2.1 0 = .ok (.aload_n 0, 1) := by decide +kernel
theorem J_MScriptRows_init_d1 : decode J_MScriptRows_init.2.1 1 = .ok (.invokespecial 1, 3) := by decide +kernel
theorem J_MScriptRows_init_d4 : decode J_MScriptRows_init.2.1 4 = .ok (.aload_n 0, 1) := by decide +kernel
theorem J_MScriptRows_init_d5 : decode J_MScriptRows_init.2.1 5 = .ok (.sipush 4096, 3) := by decide +kernel
theorem J_MScriptRows_init_d8 : decode J_MScriptRows_init.2.1 8 = .ok (.newarray .int, 2) := by decide +kernel
theorem J_MScriptRows_init_d10 : decode J_MScriptRows_init.2.1 10 = .ok (.putfield 7, 3) := by decide +kernel
theorem J_MScriptRows_init_d13 : decode J_MScriptRows_init.2.1 13 = .ok (.aload_n 0, 1) := by decide +kernel
theorem J_MScriptRows_init_d14 : decode J_MScriptRows_init.2.1 14 = .ok (.sipush 3200, 3) := by decide +kernel
theorem J_MScriptRows_init_d17 : decode J_MScriptRows_init.2.1 17 = .ok (.newarray .int, 2) := by decide +kernel
theorem J_MScriptRows_init_d19 : decode J_MScriptRows_init.2.1 19 = .ok (.putfield 13, 3) := by decide +kernel
theorem J_MScriptRows_init_d22 : decode J_MScriptRows_init.2.1 22 = .ok (.aload_n 0, 1) := by decide +kernel
theorem J_MScriptRows_init_d23 : decode J_MScriptRows_init.2.1 23 = .ok (.bipush 8, 2) := by decide +kernel
theorem J_MScriptRows_init_d25 : decode J_MScriptRows_init.2.1 25 = .ok (.newarray .int, 2) := by decide +kernel
theorem J_MScriptRows_init_d27 : decode J_MScriptRows_init.2.1 27 = .ok (.putfield 16, 3) := by decide +kernel
theorem J_MScriptRows_init_d30 : decode J_MScriptRows_init.2.1 30 = .ok (.aload_n 0, 1) := by decide +kernel
theorem J_MScriptRows_init_d31 : decode J_MScriptRows_init.2.1 31 = .ok (.sipush 2000, 3) := by decide +kernel
theorem J_MScriptRows_init_d34 : decode J_MScriptRows_init.2.1 34 = .ok (.newarray .int, 2) := by decide +kernel
theorem J_MScriptRows_init_d36 : decode J_MScriptRows_init.2.1 36 = .ok (.putfield 19, 3) := by decide +kernel
theorem J_MScriptRows_init_d39 : decode J_MScriptRows_init.2.1 39 = .ok (.aload_n 0, 1) := by decide +kernel
theorem J_MScriptRows_init_d40 : decode J_MScriptRows_init.2.1 40 = .ok (.bipush 10, 2) := by decide +kernel
theorem J_MScriptRows_init_d42 : decode J_MScriptRows_init.2.1 42 = .ok (.newarray .int, 2) := by decide +kernel
theorem J_MScriptRows_init_d44 : decode J_MScriptRows_init.2.1 44 = .ok (.putfield 22, 3) := by decide +kernel
theorem J_MScriptRows_init_d47 : decode J_MScriptRows_init.2.1 47 = .ok (.aload_n 0, 1) := by decide +kernel
theorem J_MScriptRows_init_d48 : decode J_MScriptRows_init.2.1 48 = .ok (.sipush 5800, 3) := by decide +kernel
theorem J_MScriptRows_init_d51 : decode J_MScriptRows_init.2.1 51 = .ok (.newarray .int, 2) := by decide +kernel
theorem J_MScriptRows_init_d53 : decode J_MScriptRows_init.2.1 53 = .ok (.putfield 25, 3) := by decide +kernel
theorem J_MScriptRows_init_d56 : decode J_MScriptRows_init.2.1 56 = .ok (.aload_n 0, 1) := by decide +kernel
theorem J_MScriptRows_init_d57 : decode J_MScriptRows_init.2.1 57 = .ok (.iconst (-1), 1) := by decide +kernel
theorem J_MScriptRows_init_d58 : decode J_MScriptRows_init.2.1 58 = .ok (.putfield 28, 3) := by decide +kernel
theorem J_MScriptRows_init_d61 : decode J_MScriptRows_init.2.1 61 = .ok (.aload_n 0, 1) := by decide +kernel
theorem J_MScriptRows_init_d62 : decode J_MScriptRows_init.2.1 62 = .ok (.iconst 4, 1) := by decide +kernel
theorem J_MScriptRows_init_d63 : decode J_MScriptRows_init.2.1 63 = .ok (.newarray .int, 2) := by decide +kernel
theorem J_MScriptRows_init_d65 : decode J_MScriptRows_init.2.1 65 = .ok (.putfield 32, 3) := by decide +kernel
theorem J_MScriptRows_init_d68 : decode J_MScriptRows_init.2.1 68 = .ok (.aload_n 0, 1) := by decide +kernel
theorem J_MScriptRows_init_d69 : decode J_MScriptRows_init.2.1 69 = .ok (.sipush 200, 3) := by decide +kernel
theorem J_MScriptRows_init_d72 : decode J_MScriptRows_init.2.1 72 = .ok (.newarray .int, 2) := by decide +kernel
theorem J_MScriptRows_init_d74 : decode J_MScriptRows_init.2.1 74 = .ok (.putfield 35, 3) := by decide +kernel
theorem J_MScriptRows_init_d77 : decode J_MScriptRows_init.2.1 77 = .ok (.aload_n 0, 1) := by decide +kernel
theorem J_MScriptRows_init_d78 : decode J_MScriptRows_init.2.1 78 = .ok (.iconst 4, 1) := by decide +kernel
theorem J_MScriptRows_init_d79 : decode J_MScriptRows_init.2.1 79 = .ok (.newarray .int, 2) := by decide +kernel
theorem J_MScriptRows_init_d81 : decode J_MScriptRows_init.2.1 81 = .ok (.putfield 38, 3) := by decide +kernel
theorem J_MScriptRows_init_d84 : decode J_MScriptRows_init.2.1 84 = .ok (.aload_n 0, 1) := by decide +kernel
theorem J_MScriptRows_init_d85 : decode J_MScriptRows_init.2.1 85 = .ok (.bipush 16, 2) := by decide +kernel
theorem J_MScriptRows_init_d87 : decode J_MScriptRows_init.2.1 87 = .ok (.newarray .int, 2) := by decide +kernel
theorem J_MScriptRows_init_d89 : decode J_MScriptRows_init.2.1 89 = .ok (.putfield 41, 3) := by decide +kernel
theorem J_MScriptRows_init_d92 : decode J_MScriptRows_init.2.1 92 = .ok (.aload_n 0, 1) := by decide +kernel
theorem J_MScriptRows_init_d93 : decode J_MScriptRows_init.2.1 93 = .ok (.sipush 2000, 3) := by decide +kernel
theorem J_MScriptRows_init_d96 : decode J_MScriptRows_init.2.1 96 = .ok (.newarray .int, 2) := by decide +kernel
theorem J_MScriptRows_init_d98 : decode J_MScriptRows_init.2.1 98 = .ok (.putfield 44, 3) := by decide +kernel
theorem J_MScriptRows_init_d101 : decode J_MScriptRows_init.2.1 101 = .ok (.aload_n 0, 1) := by decide +kernel
theorem J_MScriptRows_init_d102 : decode J_MScriptRows_init.2.1 102 = .ok (.sipush 200, 3) := by decide +kernel
theorem J_MScriptRows_init_d105 : decode J_MScriptRows_init.2.1 105 = .ok (.newarray .int, 2) := by decide +kernel
theorem J_MScriptRows_init_d107 : decode J_MScriptRows_init.2.1 107 = .ok (.putfield 47, 3) := by decide +kernel
theorem J_MScriptRows_init_d110 : decode J_MScriptRows_init.2.1 110 = .ok (.aload_n 0, 1) := by decide +kernel
theorem J_MScriptRows_init_d111 : decode J_MScriptRows_init.2.1 111 = .ok (.sipush 24200, 3) := by decide +kernel
theorem J_MScriptRows_init_d114 : decode J_MScriptRows_init.2.1 114 = .ok (.newarray .int, 2) := by decide +kernel
theorem J_MScriptRows_init_d116 : decode J_MScriptRows_init.2.1 116 = .ok (.putfield 50, 3) := by decide +kernel
theorem J_MScriptRows_init_d119 : decode J_MScriptRows_init.2.1 119 = .ok (.aload_n 0, 1) := by decide +kernel
theorem J_MScriptRows_init_d120 : decode J_MScriptRows_init.2.1 120 = .ok (.sipush 200, 3) := by decide +kernel
theorem J_MScriptRows_init_d123 : decode J_MScriptRows_init.2.1 123 = .ok (.newarray .int, 2) := by decide +kernel
theorem J_MScriptRows_init_d125 : decode J_MScriptRows_init.2.1 125 = .ok (.putfield 53, 3) := by decide +kernel
theorem J_MScriptRows_init_d128 : decode J_MScriptRows_init.2.1 128 = .ok (.aload_n 0, 1) := by decide +kernel
theorem J_MScriptRows_init_d129 : decode J_MScriptRows_init.2.1 129 = .ok (.bipush 48, 2) := by decide +kernel
theorem J_MScriptRows_init_d131 : decode J_MScriptRows_init.2.1 131 = .ok (.newarray .int, 2) := by decide +kernel
theorem J_MScriptRows_init_d133 : decode J_MScriptRows_init.2.1 133 = .ok (.putfield 56, 3) := by decide +kernel
theorem J_MScriptRows_init_d136 : decode J_MScriptRows_init.2.1 136 = .ok (.aload_n 0, 1) := by decide +kernel
theorem J_MScriptRows_init_d137 : decode J_MScriptRows_init.2.1 137 = .ok (.sipush 1080, 3) := by decide +kernel
theorem J_MScriptRows_init_d140 : decode J_MScriptRows_init.2.1 140 = .ok (.newarray .int, 2) := by decide +kernel
theorem J_MScriptRows_init_d142 : decode J_MScriptRows_init.2.1 142 = .ok (.putfield 59, 3) := by decide +kernel
theorem J_MScriptRows_init_d145 : decode J_MScriptRows_init.2.1 145 = .ok (.aload_n 0, 1) := by decide +kernel
theorem J_MScriptRows_init_d146 : decode J_MScriptRows_init.2.1 146 = .ok (.sipush 24000, 3) := by decide +kernel
theorem J_MScriptRows_init_d149 : decode J_MScriptRows_init.2.1 149 = .ok (.newarray .int, 2) := by decide +kernel
theorem J_MScriptRows_init_d151 : decode J_MScriptRows_init.2.1 151 = .ok (.putfield 62, 3) := by decide +kernel
theorem J_MScriptRows_init_d154 : decode J_MScriptRows_init.2.1 154 = .ok (.return_, 1) := by decide +kernel
set_option maxRecDepth 20000 in
set_option maxHeartbeats 40000000 in
theorem cs_13 {L : Nat} {xs : Nat → Int32} {dep : Nat} : ia (tb_G L xs) dep J_MScriptRows_init (fun v M1 => v = none ∧ M1 = mm_205) (0, lv_args 0 [.ref 71], [], mm_170) := by
  have hS : im_St (tb_G L xs) dep J_MScriptRows_init (ia (tb_G L xs) dep J_MScriptRows_init (fun v M1 => v = none ∧ M1 = mm_205)) := ia_St
  have h0 : im_lk (lv_args 0 [.ref 71]) 0 = some (.ref 71) := rfl
  refine iq_aload_n hS 1 J_MScriptRows_init_d0 h0 rfl ?_
  refine iq_oinit hS 4 J_MScriptRows_init_d1 (by decide +kernel) (Nat.le_of_ble_eq_true rfl) rfl ?_
  refine iq_aload_n hS 5 J_MScriptRows_init_d4 h0 rfl ?_
  refine iq_sipush hS 8 J_MScriptRows_init_d5 (v := 4096) (by decide +kernel) rfl ?_
  refine iq_newa hS 10 J_MScriptRows_init_d8 (N := 4096) rfl (by decide) (by decide) (by decide) (by decide) (by decide) rfl ?_
  change ia _ _ _ _ (_, _, .ref 72 :: _, mm_171)
  refine iq_putR hS 13 J_MScriptRows_init_d10 lf_15_7 (Or.inr ⟨rfl, rfl⟩) (Or.inr ⟨_, rfl⟩) ⟨by decide, rfl⟩ rfl ?_
  change ia _ _ _ _ (_, _, _, mm_172)
  refine iq_aload_n hS 14 J_MScriptRows_init_d13 h0 rfl ?_
  refine iq_sipush hS 17 J_MScriptRows_init_d14 (v := 3200) (by decide +kernel) rfl ?_
  refine iq_newa hS 19 J_MScriptRows_init_d17 (N := 3200) rfl (by decide) (by decide) (by decide) (by decide) (by decide) rfl ?_
  change ia _ _ _ _ (_, _, .ref 73 :: _, mm_173)
  refine iq_putR hS 22 J_MScriptRows_init_d19 lf_15_13 (Or.inr ⟨rfl, rfl⟩) (Or.inr ⟨_, rfl⟩) ⟨by decide, rfl⟩ rfl ?_
  change ia _ _ _ _ (_, _, _, mm_174)
  refine iq_aload_n hS 23 J_MScriptRows_init_d22 h0 rfl ?_
  refine iq_bipush hS 25 J_MScriptRows_init_d23 (v := 8) (by decide +kernel) rfl ?_
  refine iq_newa hS 27 J_MScriptRows_init_d25 (N := 8) rfl (by decide) (by decide) (by decide) (by decide) (by decide) rfl ?_
  change ia _ _ _ _ (_, _, .ref 74 :: _, mm_175)
  refine iq_putR hS 30 J_MScriptRows_init_d27 lf_15_16 (Or.inr ⟨rfl, rfl⟩) (Or.inr ⟨_, rfl⟩) ⟨by decide, rfl⟩ rfl ?_
  change ia _ _ _ _ (_, _, _, mm_176)
  refine iq_aload_n hS 31 J_MScriptRows_init_d30 h0 rfl ?_
  refine iq_sipush hS 34 J_MScriptRows_init_d31 (v := 2000) (by decide +kernel) rfl ?_
  refine iq_newa hS 36 J_MScriptRows_init_d34 (N := 2000) rfl (by decide) (by decide) (by decide) (by decide) (by decide) rfl ?_
  change ia _ _ _ _ (_, _, .ref 75 :: _, mm_177)
  refine iq_putR hS 39 J_MScriptRows_init_d36 lf_15_19 (Or.inr ⟨rfl, rfl⟩) (Or.inr ⟨_, rfl⟩) ⟨by decide, rfl⟩ rfl ?_
  change ia _ _ _ _ (_, _, _, mm_178)
  refine iq_aload_n hS 40 J_MScriptRows_init_d39 h0 rfl ?_
  refine iq_bipush hS 42 J_MScriptRows_init_d40 (v := 10) (by decide +kernel) rfl ?_
  refine iq_newa hS 44 J_MScriptRows_init_d42 (N := 10) rfl (by decide) (by decide) (by decide) (by decide) (by decide) rfl ?_
  change ia _ _ _ _ (_, _, .ref 76 :: _, mm_179)
  refine iq_putR hS 47 J_MScriptRows_init_d44 lf_15_22 (Or.inr ⟨rfl, rfl⟩) (Or.inr ⟨_, rfl⟩) ⟨by decide, rfl⟩ rfl ?_
  change ia _ _ _ _ (_, _, _, mm_180)
  refine iq_aload_n hS 48 J_MScriptRows_init_d47 h0 rfl ?_
  refine iq_sipush hS 51 J_MScriptRows_init_d48 (v := 5800) (by decide +kernel) rfl ?_
  refine iq_newa hS 53 J_MScriptRows_init_d51 (N := 5800) rfl (by decide) (by decide) (by decide) (by decide) (by decide) rfl ?_
  change ia _ _ _ _ (_, _, .ref 77 :: _, mm_181)
  refine iq_putR hS 56 J_MScriptRows_init_d53 lf_15_25 (Or.inr ⟨rfl, rfl⟩) (Or.inr ⟨_, rfl⟩) ⟨by decide, rfl⟩ rfl ?_
  change ia _ _ _ _ (_, _, _, mm_182)
  refine iq_aload_n hS 57 J_MScriptRows_init_d56 h0 rfl ?_
  refine iq_iconst hS 58 J_MScriptRows_init_d57 (v := (-1)) (by decide +kernel) rfl ?_
  refine iq_putI hS 61 J_MScriptRows_init_d58 lf_15_28 (Or.inl rfl) rfl ⟨by decide, rfl⟩ rfl ?_
  change ia _ _ _ _ (_, _, _, mm_183)
  refine iq_aload_n hS 62 J_MScriptRows_init_d61 h0 rfl ?_
  refine iq_iconst hS 63 J_MScriptRows_init_d62 (v := 4) (by decide +kernel) rfl ?_
  refine iq_newa hS 65 J_MScriptRows_init_d63 (N := 4) rfl (by decide) (by decide) (by decide) (by decide) (by decide) rfl ?_
  change ia _ _ _ _ (_, _, .ref 78 :: _, mm_184)
  refine iq_putR hS 68 J_MScriptRows_init_d65 lf_15_32 (Or.inr ⟨rfl, rfl⟩) (Or.inr ⟨_, rfl⟩) ⟨by decide, rfl⟩ rfl ?_
  change ia _ _ _ _ (_, _, _, mm_185)
  refine iq_aload_n hS 69 J_MScriptRows_init_d68 h0 rfl ?_
  refine iq_sipush hS 72 J_MScriptRows_init_d69 (v := 200) (by decide +kernel) rfl ?_
  refine iq_newa hS 74 J_MScriptRows_init_d72 (N := 200) rfl (by decide) (by decide) (by decide) (by decide) (by decide) rfl ?_
  change ia _ _ _ _ (_, _, .ref 79 :: _, mm_186)
  refine iq_putR hS 77 J_MScriptRows_init_d74 lf_15_35 (Or.inr ⟨rfl, rfl⟩) (Or.inr ⟨_, rfl⟩) ⟨by decide, rfl⟩ rfl ?_
  change ia _ _ _ _ (_, _, _, mm_187)
  refine iq_aload_n hS 78 J_MScriptRows_init_d77 h0 rfl ?_
  refine iq_iconst hS 79 J_MScriptRows_init_d78 (v := 4) (by decide +kernel) rfl ?_
  refine iq_newa hS 81 J_MScriptRows_init_d79 (N := 4) rfl (by decide) (by decide) (by decide) (by decide) (by decide) rfl ?_
  change ia _ _ _ _ (_, _, .ref 80 :: _, mm_188)
  refine iq_putR hS 84 J_MScriptRows_init_d81 lf_15_38 (Or.inr ⟨rfl, rfl⟩) (Or.inr ⟨_, rfl⟩) ⟨by decide, rfl⟩ rfl ?_
  change ia _ _ _ _ (_, _, _, mm_189)
  refine iq_aload_n hS 85 J_MScriptRows_init_d84 h0 rfl ?_
  refine iq_bipush hS 87 J_MScriptRows_init_d85 (v := 16) (by decide +kernel) rfl ?_
  refine iq_newa hS 89 J_MScriptRows_init_d87 (N := 16) rfl (by decide) (by decide) (by decide) (by decide) (by decide) rfl ?_
  change ia _ _ _ _ (_, _, .ref 81 :: _, mm_190)
  refine iq_putR hS 92 J_MScriptRows_init_d89 lf_15_41 (Or.inr ⟨rfl, rfl⟩) (Or.inr ⟨_, rfl⟩) ⟨by decide, rfl⟩ rfl ?_
  change ia _ _ _ _ (_, _, _, mm_191)
  refine iq_aload_n hS 93 J_MScriptRows_init_d92 h0 rfl ?_
  refine iq_sipush hS 96 J_MScriptRows_init_d93 (v := 2000) (by decide +kernel) rfl ?_
  refine iq_newa hS 98 J_MScriptRows_init_d96 (N := 2000) rfl (by decide) (by decide) (by decide) (by decide) (by decide) rfl ?_
  change ia _ _ _ _ (_, _, .ref 82 :: _, mm_192)
  refine iq_putR hS 101 J_MScriptRows_init_d98 lf_15_44 (Or.inr ⟨rfl, rfl⟩) (Or.inr ⟨_, rfl⟩) ⟨by decide, rfl⟩ rfl ?_
  change ia _ _ _ _ (_, _, _, mm_193)
  refine iq_aload_n hS 102 J_MScriptRows_init_d101 h0 rfl ?_
  refine iq_sipush hS 105 J_MScriptRows_init_d102 (v := 200) (by decide +kernel) rfl ?_
  refine iq_newa hS 107 J_MScriptRows_init_d105 (N := 200) rfl (by decide) (by decide) (by decide) (by decide) (by decide) rfl ?_
  change ia _ _ _ _ (_, _, .ref 83 :: _, mm_194)
  refine iq_putR hS 110 J_MScriptRows_init_d107 lf_15_47 (Or.inr ⟨rfl, rfl⟩) (Or.inr ⟨_, rfl⟩) ⟨by decide, rfl⟩ rfl ?_
  change ia _ _ _ _ (_, _, _, mm_195)
  refine iq_aload_n hS 111 J_MScriptRows_init_d110 h0 rfl ?_
  refine iq_sipush hS 114 J_MScriptRows_init_d111 (v := 24200) (by decide +kernel) rfl ?_
  refine iq_newa hS 116 J_MScriptRows_init_d114 (N := 24200) rfl (by decide) (by decide) (by decide) (by decide) (by decide) rfl ?_
  change ia _ _ _ _ (_, _, .ref 84 :: _, mm_196)
  refine iq_putR hS 119 J_MScriptRows_init_d116 lf_15_50 (Or.inr ⟨rfl, rfl⟩) (Or.inr ⟨_, rfl⟩) ⟨by decide, rfl⟩ rfl ?_
  change ia _ _ _ _ (_, _, _, mm_197)
  refine iq_aload_n hS 120 J_MScriptRows_init_d119 h0 rfl ?_
  refine iq_sipush hS 123 J_MScriptRows_init_d120 (v := 200) (by decide +kernel) rfl ?_
  refine iq_newa hS 125 J_MScriptRows_init_d123 (N := 200) rfl (by decide) (by decide) (by decide) (by decide) (by decide) rfl ?_
  change ia _ _ _ _ (_, _, .ref 85 :: _, mm_198)
  refine iq_putR hS 128 J_MScriptRows_init_d125 lf_15_53 (Or.inr ⟨rfl, rfl⟩) (Or.inr ⟨_, rfl⟩) ⟨by decide, rfl⟩ rfl ?_
  change ia _ _ _ _ (_, _, _, mm_199)
  refine iq_aload_n hS 129 J_MScriptRows_init_d128 h0 rfl ?_
  refine iq_bipush hS 131 J_MScriptRows_init_d129 (v := 48) (by decide +kernel) rfl ?_
  refine iq_newa hS 133 J_MScriptRows_init_d131 (N := 48) rfl (by decide) (by decide) (by decide) (by decide) (by decide) rfl ?_
  change ia _ _ _ _ (_, _, .ref 86 :: _, mm_200)
  refine iq_putR hS 136 J_MScriptRows_init_d133 lf_15_56 (Or.inr ⟨rfl, rfl⟩) (Or.inr ⟨_, rfl⟩) ⟨by decide, rfl⟩ rfl ?_
  change ia _ _ _ _ (_, _, _, mm_201)
  refine iq_aload_n hS 137 J_MScriptRows_init_d136 h0 rfl ?_
  refine iq_sipush hS 140 J_MScriptRows_init_d137 (v := 1080) (by decide +kernel) rfl ?_
  refine iq_newa hS 142 J_MScriptRows_init_d140 (N := 1080) rfl (by decide) (by decide) (by decide) (by decide) (by decide) rfl ?_
  change ia _ _ _ _ (_, _, .ref 87 :: _, mm_202)
  refine iq_putR hS 145 J_MScriptRows_init_d142 lf_15_59 (Or.inr ⟨rfl, rfl⟩) (Or.inr ⟨_, rfl⟩) ⟨by decide, rfl⟩ rfl ?_
  change ia _ _ _ _ (_, _, _, mm_203)
  refine iq_aload_n hS 146 J_MScriptRows_init_d145 h0 rfl ?_
  refine iq_sipush hS 149 J_MScriptRows_init_d146 (v := 24000) (by decide +kernel) rfl ?_
  refine iq_newa hS 151 J_MScriptRows_init_d149 (N := 24000) rfl (by decide) (by decide) (by decide) (by decide) (by decide) rfl ?_
  change ia _ _ _ _ (_, _, .ref 88 :: _, mm_204)
  refine iq_putR hS 154 J_MScriptRows_init_d151 lf_15_62 (Or.inr ⟨rfl, rfl⟩) (Or.inr ⟨_, rfl⟩) ⟨by decide, rfl⟩ rfl ?_
  change ia _ _ _ _ (_, _, _, mm_205)
  exact iq_ret J_MScriptRows_init_d154 rfl ⟨rfl, rfl⟩
theorem J_MDotRows_init_d0 : decode J_MDotRows_init.2.1 0 = .ok (.aload_n 0, 1) := by decide +kernel
theorem J_MDotRows_init_d1 : decode J_MDotRows_init.2.1 1 = .ok (.invokespecial 1, 3) := by decide +kernel
theorem J_MDotRows_init_d4 : decode J_MDotRows_init.2.1 4 = .ok (.aload_n 0, 1) := by decide +kernel
theorem J_MDotRows_init_d5 : decode J_MDotRows_init.2.1 5 = .ok (.bipush 64, 2) := by decide +kernel
theorem J_MDotRows_init_d7 : decode J_MDotRows_init.2.1 7 = .ok (.putfield 7, 3) := by decide +kernel
theorem J_MDotRows_init_d10 : decode J_MDotRows_init.2.1 10 = .ok (.aload_n 0, 1) := by decide +kernel
theorem J_MDotRows_init_d11 : decode J_MDotRows_init.2.1 11 = .ok (.bipush 64, 2) := by decide +kernel
theorem J_MDotRows_init_d13 : decode J_MDotRows_init.2.1 13 = .ok (.putfield 13, 3) := by decide +kernel
theorem J_MDotRows_init_d16 : decode J_MDotRows_init.2.1 16 = .ok (.aload_n 0, 1) := by decide +kernel
theorem J_MDotRows_init_d17 : decode J_MDotRows_init.2.1 17 = .ok (.ldc 16, 2) := by decide +kernel
theorem J_MDotRows_init_d19 : decode J_MDotRows_init.2.1 19 = .ok (.newarray .int, 2) := by decide +kernel
theorem J_MDotRows_init_d21 : decode J_MDotRows_init.2.1 21 = .ok (.putfield 17, 3) := by decide +kernel
theorem J_MDotRows_init_d24 : decode J_MDotRows_init.2.1 24 = .ok (.aload_n 0, 1) := by decide +kernel
theorem J_MDotRows_init_d25 : decode J_MDotRows_init.2.1 25 = .ok (.ldc 16, 2) := by decide +kernel
theorem J_MDotRows_init_d27 : decode J_MDotRows_init.2.1 27 = .ok (.newarray .int, 2) := by decide +kernel
theorem J_MDotRows_init_d29 : decode J_MDotRows_init.2.1 29 = .ok (.putfield 21, 3) := by decide +kernel
theorem J_MDotRows_init_d32 : decode J_MDotRows_init.2.1 32 = .ok (.aload_n 0, 1) := by decide +kernel
theorem J_MDotRows_init_d33 : decode J_MDotRows_init.2.1 33 = .ok (.sipush 4096, 3) := by decide +kernel
theorem J_MDotRows_init_d36 : decode J_MDotRows_init.2.1 36 = .ok (.newarray .int, 2) := by decide +kernel
theorem J_MDotRows_init_d38 : decode J_MDotRows_init.2.1 38 = .ok (.putfield 24, 3) := by decide +kernel
theorem J_MDotRows_init_d41 : decode J_MDotRows_init.2.1 41 = .ok (.aload_n 0, 1) := by decide +kernel
theorem J_MDotRows_init_d42 : decode J_MDotRows_init.2.1 42 = .ok (.bipush 12, 2) := by decide +kernel
theorem J_MDotRows_init_d44 : decode J_MDotRows_init.2.1 44 = .ok (.newarray .int, 2) := by decide +kernel
theorem J_MDotRows_init_d46 : decode J_MDotRows_init.2.1 46 = .ok (.dup, 1) := by decide +kernel
theorem J_MDotRows_init_d47 : decode J_MDotRows_init.2.1 47 = .ok (.iconst 0, 1) := by decide +kernel
theorem J_MDotRows_init_d48 : decode J_MDotRows_init.2.1 48 = .ok (.bipush 8, 2) := by decide +kernel
theorem J_MDotRows_init_d50 : decode J_MDotRows_init.2.1 50 = .ok (.iastore, 1) := by decide +kernel
theorem J_MDotRows_init_d51 : decode J_MDotRows_init.2.1 51 = .ok (.dup, 1) := by decide +kernel
theorem J_MDotRows_init_d52 : decode J_MDotRows_init.2.1 52 = .ok (.iconst 1, 1) := by decide +kernel
theorem J_MDotRows_init_d53 : decode J_MDotRows_init.2.1 53 = .ok (.bipush 8, 2) := by decide +kernel
theorem J_MDotRows_init_d55 : decode J_MDotRows_init.2.1 55 = .ok (.iastore, 1) := by decide +kernel
theorem J_MDotRows_init_d56 : decode J_MDotRows_init.2.1 56 = .ok (.dup, 1) := by decide +kernel
theorem J_MDotRows_init_d57 : decode J_MDotRows_init.2.1 57 = .ok (.iconst 2, 1) := by decide +kernel
theorem J_MDotRows_init_d58 : decode J_MDotRows_init.2.1 58 = .ok (.iconst 0, 1) := by decide +kernel
theorem J_MDotRows_init_d59 : decode J_MDotRows_init.2.1 59 = .ok (.iastore, 1) := by decide +kernel
theorem J_MDotRows_init_d60 : decode J_MDotRows_init.2.1 60 = .ok (.dup, 1) := by decide +kernel
theorem J_MDotRows_init_d61 : decode J_MDotRows_init.2.1 61 = .ok (.iconst 3, 1) := by decide +kernel
theorem J_MDotRows_init_d62 : decode J_MDotRows_init.2.1 62 = .ok (.bipush 8, 2) := by decide +kernel
theorem J_MDotRows_init_d64 : decode J_MDotRows_init.2.1 64 = .ok (.iastore, 1) := by decide +kernel
theorem J_MDotRows_init_d65 : decode J_MDotRows_init.2.1 65 = .ok (.dup, 1) := by decide +kernel
theorem J_MDotRows_init_d66 : decode J_MDotRows_init.2.1 66 = .ok (.iconst 4, 1) := by decide +kernel
theorem J_MDotRows_init_d67 : decode J_MDotRows_init.2.1 67 = .ok (.bipush 8, 2) := by decide +kernel
theorem J_MDotRows_init_d69 : decode J_MDotRows_init.2.1 69 = .ok (.iastore, 1) := by decide +kernel
theorem J_MDotRows_init_d70 : decode J_MDotRows_init.2.1 70 = .ok (.dup, 1) := by decide +kernel
theorem J_MDotRows_init_d71 : decode J_MDotRows_init.2.1 71 = .ok (.iconst 5, 1) := by decide +kernel
theorem J_MDotRows_init_d72 : decode J_MDotRows_init.2.1 72 = .ok (.iconst 0, 1) := by decide +kernel
theorem J_MDotRows_init_d73 : decode J_MDotRows_init.2.1 73 = .ok (.iastore, 1) := by decide +kernel
theorem J_MDotRows_init_d74 : decode J_MDotRows_init.2.1 74 = .ok (.dup, 1) := by decide +kernel
theorem J_MDotRows_init_d75 : decode J_MDotRows_init.2.1 75 = .ok (.bipush 6, 2) := by decide +kernel
theorem J_MDotRows_init_d77 : decode J_MDotRows_init.2.1 77 = .ok (.bipush 8, 2) := by decide +kernel
theorem J_MDotRows_init_d79 : decode J_MDotRows_init.2.1 79 = .ok (.iastore, 1) := by decide +kernel
theorem J_MDotRows_init_d80 : decode J_MDotRows_init.2.1 80 = .ok (.dup, 1) := by decide +kernel
theorem J_MDotRows_init_d81 : decode J_MDotRows_init.2.1 81 = .ok (.bipush 7, 2) := by decide +kernel
theorem J_MDotRows_init_d83 : decode J_MDotRows_init.2.1 83 = .ok (.bipush 8, 2) := by decide +kernel
theorem J_MDotRows_init_d85 : decode J_MDotRows_init.2.1 85 = .ok (.iastore, 1) := by decide +kernel
theorem J_MDotRows_init_d86 : decode J_MDotRows_init.2.1 86 = .ok (.dup, 1) := by decide +kernel
theorem J_MDotRows_init_d87 : decode J_MDotRows_init.2.1 87 = .ok (.bipush 8, 2) := by decide +kernel
theorem J_MDotRows_init_d89 : decode J_MDotRows_init.2.1 89 = .ok (.iconst 0, 1) := by decide +kernel
theorem J_MDotRows_init_d90 : decode J_MDotRows_init.2.1 90 = .ok (.iastore, 1) := by decide +kernel
theorem J_MDotRows_init_d91 : decode J_MDotRows_init.2.1 91 = .ok (.dup, 1) := by decide +kernel
theorem J_MDotRows_init_d92 : decode J_MDotRows_init.2.1 92 = .ok (.bipush 9, 2) := by decide +kernel
theorem J_MDotRows_init_d94 : decode J_MDotRows_init.2.1 94 = .ok (.bipush 8, 2) := by decide +kernel
theorem J_MDotRows_init_d96 : decode J_MDotRows_init.2.1 96 = .ok (.iastore, 1) := by decide +kernel
theorem J_MDotRows_init_d97 : decode J_MDotRows_init.2.1 97 = .ok (.dup, 1) := by decide +kernel
theorem J_MDotRows_init_d98 : decode J_MDotRows_init.2.1 98 = .ok (.bipush 10, 2) := by decide +kernel
theorem J_MDotRows_init_d100 : decode J_MDotRows_init.2.1 100 = .ok (.bipush 8, 2) := by decide +kernel
theorem J_MDotRows_init_d102 : decode J_MDotRows_init.2.1 102 = .ok (.iastore, 1) := by decide +kernel
theorem J_MDotRows_init_d103 : decode J_MDotRows_init.2.1 103 = .ok (.dup, 1) := by decide +kernel
theorem J_MDotRows_init_d104 : decode J_MDotRows_init.2.1 104 = .ok (.bipush 11, 2) := by decide +kernel
theorem J_MDotRows_init_d106 : decode J_MDotRows_init.2.1 106 = .ok (.iconst 0, 1) := by decide +kernel
theorem J_MDotRows_init_d107 : decode J_MDotRows_init.2.1 107 = .ok (.iastore, 1) := by decide +kernel
theorem J_MDotRows_init_d108 : decode J_MDotRows_init.2.1 108 = .ok (.putfield 27, 3) := by decide +kernel
theorem J_MDotRows_init_d111 : decode J_MDotRows_init.2.1 111 = .ok (.aload_n 0, 1) := by decide +kernel
theorem J_MDotRows_init_d112 : decode J_MDotRows_init.2.1 112 = .ok (.ldc 16, 2) := by decide +kernel
theorem J_MDotRows_init_d114 : decode J_MDotRows_init.2.1 114 = .ok (.newarray .int, 2) := by decide +kernel
theorem J_MDotRows_init_d116 : decode J_MDotRows_init.2.1 116 = .ok (.putfield 30, 3) := by decide +kernel
theorem J_MDotRows_init_d119 : decode J_MDotRows_init.2.1 119 = .ok (.aload_n 0, 1) := by decide +kernel
theorem J_MDotRows_init_d120 : decode J_MDotRows_init.2.1 120 = .ok (.sipush 5200, 3) := by decide +kernel
theorem J_MDotRows_init_d123 : decode J_MDotRows_init.2.1 123 = .ok (.newarray .boolean, 2) := by decide +kernel
theorem J_MDotRows_init_d125 : decode J_MDotRows_init.2.1 125 = .ok (.putfield 33, 3) := by decide +kernel
theorem J_MDotRows_init_d128 : decode J_MDotRows_init.2.1 128 = .ok (.return_, 1) := by decide +kernel
set_option maxRecDepth 20000 in
set_option maxHeartbeats 40000000 in
theorem cs_14 {L : Nat} {xs : Nat → Int32} {dep : Nat} : ia (tb_G L xs) dep J_MDotRows_init (fun v M1 => v = none ∧ M1 = mm_233) (0, lv_args 0 [.ref 89], [], mm_207) := by
  have hS : im_St (tb_G L xs) dep J_MDotRows_init (ia (tb_G L xs) dep J_MDotRows_init (fun v M1 => v = none ∧ M1 = mm_233)) := ia_St
  have h0 : im_lk (lv_args 0 [.ref 89]) 0 = some (.ref 89) := rfl
  refine iq_aload_n hS 1 J_MDotRows_init_d0 h0 rfl ?_
  refine iq_oinit hS 4 J_MDotRows_init_d1 (by decide +kernel) (Nat.le_of_ble_eq_true rfl) rfl ?_
  refine iq_aload_n hS 5 J_MDotRows_init_d4 h0 rfl ?_
  refine iq_bipush hS 7 J_MDotRows_init_d5 (v := 64) (by decide +kernel) rfl ?_
  refine iq_putI hS 10 J_MDotRows_init_d7 lf_12_7 (Or.inl rfl) rfl ⟨by decide, rfl⟩ rfl ?_
  change ia _ _ _ _ (_, _, _, mm_208)
  refine iq_aload_n hS 11 J_MDotRows_init_d10 h0 rfl ?_
  refine iq_bipush hS 13 J_MDotRows_init_d11 (v := 64) (by decide +kernel) rfl ?_
  refine iq_putI hS 16 J_MDotRows_init_d13 lf_12_13 (Or.inl rfl) rfl ⟨by decide, rfl⟩ rfl ?_
  change ia _ _ _ _ (_, _, _, mm_209)
  refine iq_aload_n hS 17 J_MDotRows_init_d16 h0 rfl ?_
  refine iq_ldc hS 19 J_MDotRows_init_d17 lk_12_16 rfl ?_
  refine iq_newa hS 21 J_MDotRows_init_d19 (N := 32768) rfl (by decide) (by decide) (by decide) (by decide) (by decide) rfl ?_
  change ia _ _ _ _ (_, _, .ref 90 :: _, mm_210)
  refine iq_putR hS 24 J_MDotRows_init_d21 lf_12_17 (Or.inr ⟨rfl, rfl⟩) (Or.inr ⟨_, rfl⟩) ⟨by decide, rfl⟩ rfl ?_
  change ia _ _ _ _ (_, _, _, mm_211)
  refine iq_aload_n hS 25 J_MDotRows_init_d24 h0 rfl ?_
  refine iq_ldc hS 27 J_MDotRows_init_d25 lk_12_16 rfl ?_
  refine iq_newa hS 29 J_MDotRows_init_d27 (N := 32768) rfl (by decide) (by decide) (by decide) (by decide) (by decide) rfl ?_
  change ia _ _ _ _ (_, _, .ref 91 :: _, mm_212)
  refine iq_putR hS 32 J_MDotRows_init_d29 lf_12_21 (Or.inr ⟨rfl, rfl⟩) (Or.inr ⟨_, rfl⟩) ⟨by decide, rfl⟩ rfl ?_
  change ia _ _ _ _ (_, _, _, mm_213)
  refine iq_aload_n hS 33 J_MDotRows_init_d32 h0 rfl ?_
  refine iq_sipush hS 36 J_MDotRows_init_d33 (v := 4096) (by decide +kernel) rfl ?_
  refine iq_newa hS 38 J_MDotRows_init_d36 (N := 4096) rfl (by decide) (by decide) (by decide) (by decide) (by decide) rfl ?_
  change ia _ _ _ _ (_, _, .ref 92 :: _, mm_214)
  refine iq_putR hS 41 J_MDotRows_init_d38 lf_12_24 (Or.inr ⟨rfl, rfl⟩) (Or.inr ⟨_, rfl⟩) ⟨by decide, rfl⟩ rfl ?_
  change ia _ _ _ _ (_, _, _, mm_215)
  refine iq_aload_n hS 42 J_MDotRows_init_d41 h0 rfl ?_
  refine iq_bipush hS 44 J_MDotRows_init_d42 (v := 12) (by decide +kernel) rfl ?_
  refine iq_newa hS 46 J_MDotRows_init_d44 (N := 12) rfl (by decide) (by decide) (by decide) (by decide) (by decide) rfl ?_
  change ia _ _ _ _ (_, _, .ref 93 :: _, mm_216)
  refine iq_dup hS 47 J_MDotRows_init_d46 rfl rfl ?_
  refine iq_iconst hS 48 J_MDotRows_init_d47 (v := 0) (by decide +kernel) rfl ?_
  refine iq_bipush hS 50 J_MDotRows_init_d48 (v := 8) (by decide +kernel) rfl ?_
  refine iq_iastore hS 51 J_MDotRows_init_d50 ⟨by decide, rfl, by decide +kernel, by decide +kernel⟩ rfl ?_
  change ia _ _ _ _ (_, _, _, mm_217)
  refine iq_dup hS 52 J_MDotRows_init_d51 rfl rfl ?_
  refine iq_iconst hS 53 J_MDotRows_init_d52 (v := 1) (by decide +kernel) rfl ?_
  refine iq_bipush hS 55 J_MDotRows_init_d53 (v := 8) (by decide +kernel) rfl ?_
  refine iq_iastore hS 56 J_MDotRows_init_d55 ⟨by decide, rfl, by decide +kernel, by decide +kernel⟩ rfl ?_
  change ia _ _ _ _ (_, _, _, mm_218)
  refine iq_dup hS 57 J_MDotRows_init_d56 rfl rfl ?_
  refine iq_iconst hS 58 J_MDotRows_init_d57 (v := 2) (by decide +kernel) rfl ?_
  refine iq_iconst hS 59 J_MDotRows_init_d58 (v := 0) (by decide +kernel) rfl ?_
  refine iq_iastore hS 60 J_MDotRows_init_d59 ⟨by decide, rfl, by decide +kernel, by decide +kernel⟩ rfl ?_
  change ia _ _ _ _ (_, _, _, mm_219)
  refine iq_dup hS 61 J_MDotRows_init_d60 rfl rfl ?_
  refine iq_iconst hS 62 J_MDotRows_init_d61 (v := 3) (by decide +kernel) rfl ?_
  refine iq_bipush hS 64 J_MDotRows_init_d62 (v := 8) (by decide +kernel) rfl ?_
  refine iq_iastore hS 65 J_MDotRows_init_d64 ⟨by decide, rfl, by decide +kernel, by decide +kernel⟩ rfl ?_
  change ia _ _ _ _ (_, _, _, mm_220)
  refine iq_dup hS 66 J_MDotRows_init_d65 rfl rfl ?_
  refine iq_iconst hS 67 J_MDotRows_init_d66 (v := 4) (by decide +kernel) rfl ?_
  refine iq_bipush hS 69 J_MDotRows_init_d67 (v := 8) (by decide +kernel) rfl ?_
  refine iq_iastore hS 70 J_MDotRows_init_d69 ⟨by decide, rfl, by decide +kernel, by decide +kernel⟩ rfl ?_
  change ia _ _ _ _ (_, _, _, mm_221)
  refine iq_dup hS 71 J_MDotRows_init_d70 rfl rfl ?_
  refine iq_iconst hS 72 J_MDotRows_init_d71 (v := 5) (by decide +kernel) rfl ?_
  refine iq_iconst hS 73 J_MDotRows_init_d72 (v := 0) (by decide +kernel) rfl ?_
  refine iq_iastore hS 74 J_MDotRows_init_d73 ⟨by decide, rfl, by decide +kernel, by decide +kernel⟩ rfl ?_
  change ia _ _ _ _ (_, _, _, mm_222)
  refine iq_dup hS 75 J_MDotRows_init_d74 rfl rfl ?_
  refine iq_bipush hS 77 J_MDotRows_init_d75 (v := 6) (by decide +kernel) rfl ?_
  refine iq_bipush hS 79 J_MDotRows_init_d77 (v := 8) (by decide +kernel) rfl ?_
  refine iq_iastore hS 80 J_MDotRows_init_d79 ⟨by decide, rfl, by decide +kernel, by decide +kernel⟩ rfl ?_
  change ia _ _ _ _ (_, _, _, mm_223)
  refine iq_dup hS 81 J_MDotRows_init_d80 rfl rfl ?_
  refine iq_bipush hS 83 J_MDotRows_init_d81 (v := 7) (by decide +kernel) rfl ?_
  refine iq_bipush hS 85 J_MDotRows_init_d83 (v := 8) (by decide +kernel) rfl ?_
  refine iq_iastore hS 86 J_MDotRows_init_d85 ⟨by decide, rfl, by decide +kernel, by decide +kernel⟩ rfl ?_
  change ia _ _ _ _ (_, _, _, mm_224)
  refine iq_dup hS 87 J_MDotRows_init_d86 rfl rfl ?_
  refine iq_bipush hS 89 J_MDotRows_init_d87 (v := 8) (by decide +kernel) rfl ?_
  refine iq_iconst hS 90 J_MDotRows_init_d89 (v := 0) (by decide +kernel) rfl ?_
  refine iq_iastore hS 91 J_MDotRows_init_d90 ⟨by decide, rfl, by decide +kernel, by decide +kernel⟩ rfl ?_
  change ia _ _ _ _ (_, _, _, mm_225)
  refine iq_dup hS 92 J_MDotRows_init_d91 rfl rfl ?_
  refine iq_bipush hS 94 J_MDotRows_init_d92 (v := 9) (by decide +kernel) rfl ?_
  refine iq_bipush hS 96 J_MDotRows_init_d94 (v := 8) (by decide +kernel) rfl ?_
  refine iq_iastore hS 97 J_MDotRows_init_d96 ⟨by decide, rfl, by decide +kernel, by decide +kernel⟩ rfl ?_
  change ia _ _ _ _ (_, _, _, mm_226)
  refine iq_dup hS 98 J_MDotRows_init_d97 rfl rfl ?_
  refine iq_bipush hS 100 J_MDotRows_init_d98 (v := 10) (by decide +kernel) rfl ?_
  refine iq_bipush hS 102 J_MDotRows_init_d100 (v := 8) (by decide +kernel) rfl ?_
  refine iq_iastore hS 103 J_MDotRows_init_d102 ⟨by decide, rfl, by decide +kernel, by decide +kernel⟩ rfl ?_
  change ia _ _ _ _ (_, _, _, mm_227)
  refine iq_dup hS 104 J_MDotRows_init_d103 rfl rfl ?_
  refine iq_bipush hS 106 J_MDotRows_init_d104 (v := 11) (by decide +kernel) rfl ?_
  refine iq_iconst hS 107 J_MDotRows_init_d106 (v := 0) (by decide +kernel) rfl ?_
  refine iq_iastore hS 108 J_MDotRows_init_d107 ⟨by decide, rfl, by decide +kernel, by decide +kernel⟩ rfl ?_
  change ia _ _ _ _ (_, _, _, mm_228)
  refine iq_putR hS 111 J_MDotRows_init_d108 lf_12_27 (Or.inr ⟨rfl, rfl⟩) (Or.inr ⟨_, rfl⟩) ⟨by decide, rfl⟩ rfl ?_
  change ia _ _ _ _ (_, _, _, mm_229)
  refine iq_aload_n hS 112 J_MDotRows_init_d111 h0 rfl ?_
  refine iq_ldc hS 114 J_MDotRows_init_d112 lk_12_16 rfl ?_
  refine iq_newa hS 116 J_MDotRows_init_d114 (N := 32768) rfl (by decide) (by decide) (by decide) (by decide) (by decide) rfl ?_
  change ia _ _ _ _ (_, _, .ref 94 :: _, mm_230)
  refine iq_putR hS 119 J_MDotRows_init_d116 lf_12_30 (Or.inr ⟨rfl, rfl⟩) (Or.inr ⟨_, rfl⟩) ⟨by decide, rfl⟩ rfl ?_
  change ia _ _ _ _ (_, _, _, mm_231)
  refine iq_aload_n hS 120 J_MDotRows_init_d119 h0 rfl ?_
  refine iq_sipush hS 123 J_MDotRows_init_d120 (v := 5200) (by decide +kernel) rfl ?_
  refine iq_newa hS 125 J_MDotRows_init_d123 (N := 5200) rfl (by decide) (by decide) (by decide) (by decide) (by decide) rfl ?_
  change ia _ _ _ _ (_, _, .ref 95 :: _, mm_232)
  refine iq_putR hS 128 J_MDotRows_init_d125 lf_12_33 (Or.inr ⟨rfl, rfl⟩) (Or.inr ⟨_, rfl⟩) ⟨by decide, rfl⟩ rfl ?_
  change ia _ _ _ _ (_, _, _, mm_233)
  exact iq_ret J_MDotRows_init_d128 rfl ⟨rfl, rfl⟩
theorem J_MLineRows_init_d0 : decode J_MLineRows_init.2.1 0 = .ok (.aload_n 0, 1) := by decide +kernel
theorem J_MLineRows_init_d1 : decode J_MLineRows_init.2.1 1 = .ok (.invokespecial 1, 3) := by decide +kernel
theorem J_MLineRows_init_d4 : decode J_MLineRows_init.2.1 4 = .ok (.aload_n 0, 1) := by decide +kernel
theorem J_MLineRows_init_d5 : decode J_MLineRows_init.2.1 5 = .ok (.bipush 106, 2) := by decide +kernel
theorem J_MLineRows_init_d7 : decode J_MLineRows_init.2.1 7 = .ok (.newarray .int, 2) := by decide +kernel
theorem J_MLineRows_init_d9 : decode J_MLineRows_init.2.1 9 = .ok (.dup, 1) := by decide +kernel
theorem J_MLineRows_init_d10 : decode J_MLineRows_init.2.1 10 = .ok (.iconst 0, 1) := by decide +kernel
theorem J_MLineRows_init_d11 : decode J_MLineRows_init.2.1 11 = .ok (.ldc 7, 2) := by decide +kernel
theorem J_MLineRows_init_d13 : decode J_MLineRows_init.2.1 13 = .ok (.iastore, 1) := by decide +kernel
theorem J_MLineRows_init_d14 : decode J_MLineRows_init.2.1 14 = .ok (.dup, 1) := by decide +kernel
theorem J_MLineRows_init_d15 : decode J_MLineRows_init.2.1 15 = .ok (.iconst 1, 1) := by decide +kernel
theorem J_MLineRows_init_d16 : decode J_MLineRows_init.2.1 16 = .ok (.ldc 8, 2) := by decide +kernel
theorem J_MLineRows_init_d18 : decode J_MLineRows_init.2.1 18 = .ok (.iastore, 1) := by decide +kernel
theorem J_MLineRows_init_d19 : decode J_MLineRows_init.2.1 19 = .ok (.dup, 1) := by decide +kernel
theorem J_MLineRows_init_d20 : decode J_MLineRows_init.2.1 20 = .ok (.iconst 2, 1) := by decide +kernel
theorem J_MLineRows_init_d21 : decode J_MLineRows_init.2.1 21 = .ok (.ldc 9, 2) := by decide +kernel
theorem J_MLineRows_init_d23 : decode J_MLineRows_init.2.1 23 = .ok (.iastore, 1) := by decide +kernel
theorem J_MLineRows_init_d24 : decode J_MLineRows_init.2.1 24 = .ok (.dup, 1) := by decide +kernel
theorem J_MLineRows_init_d25 : decode J_MLineRows_init.2.1 25 = .ok (.iconst 3, 1) := by decide +kernel
theorem J_MLineRows_init_d26 : decode J_MLineRows_init.2.1 26 = .ok (.ldc 10, 2) := by decide +kernel
theorem J_MLineRows_init_d28 : decode J_MLineRows_init.2.1 28 = .ok (.iastore, 1) := by decide +kernel
theorem J_MLineRows_init_d29 : decode J_MLineRows_init.2.1 29 = .ok (.dup, 1) := by decide +kernel
theorem J_MLineRows_init_d30 : decode J_MLineRows_init.2.1 30 = .ok (.iconst 4, 1) := by decide +kernel
theorem J_MLineRows_init_d31 : decode J_MLineRows_init.2.1 31 = .ok (.ldc 11, 2) := by decide +kernel
theorem J_MLineRows_init_d33 : decode J_MLineRows_init.2.1 33 = .ok (.iastore, 1) := by decide +kernel
theorem J_MLineRows_init_d34 : decode J_MLineRows_init.2.1 34 = .ok (.dup, 1) := by decide +kernel
theorem J_MLineRows_init_d35 : decode J_MLineRows_init.2.1 35 = .ok (.iconst 5, 1) := by decide +kernel
theorem J_MLineRows_init_d36 : decode J_MLineRows_init.2.1 36 = .ok (.ldc 12, 2) := by decide +kernel
theorem J_MLineRows_init_d38 : decode J_MLineRows_init.2.1 38 = .ok (.iastore, 1) := by decide +kernel
theorem J_MLineRows_init_d39 : decode J_MLineRows_init.2.1 39 = .ok (.dup, 1) := by decide +kernel
theorem J_MLineRows_init_d40 : decode J_MLineRows_init.2.1 40 = .ok (.bipush 6, 2) := by decide +kernel
theorem J_MLineRows_init_d42 : decode J_MLineRows_init.2.1 42 = .ok (.ldc 13, 2) := by decide +kernel
theorem J_MLineRows_init_d44 : decode J_MLineRows_init.2.1 44 = .ok (.iastore, 1) := by decide +kernel
theorem J_MLineRows_init_d45 : decode J_MLineRows_init.2.1 45 = .ok (.dup, 1) := by decide +kernel
theorem J_MLineRows_init_d46 : decode J_MLineRows_init.2.1 46 = .ok (.bipush 7, 2) := by decide +kernel
theorem J_MLineRows_init_d48 : decode J_MLineRows_init.2.1 48 = .ok (.ldc 14, 2) := by decide +kernel
theorem J_MLineRows_init_d50 : decode J_MLineRows_init.2.1 50 = .ok (.iastore, 1) := by decide +kernel
theorem J_MLineRows_init_d51 : decode J_MLineRows_init.2.1 51 = .ok (.dup, 1) := by decide +kernel
theorem J_MLineRows_init_d52 : decode J_MLineRows_init.2.1 52 = .ok (.bipush 8, 2) := by decide +kernel
theorem J_MLineRows_init_d54 : decode J_MLineRows_init.2.1 54 = .ok (.ldc 15, 2) := by decide +kernel
theorem J_MLineRows_init_d56 : decode J_MLineRows_init.2.1 56 = .ok (.iastore, 1) := by decide +kernel
theorem J_MLineRows_init_d57 : decode J_MLineRows_init.2.1 57 = .ok (.dup, 1) := by decide +kernel
theorem J_MLineRows_init_d58 : decode J_MLineRows_init.2.1 58 = .ok (.bipush 9, 2) := by decide +kernel
theorem J_MLineRows_init_d60 : decode J_MLineRows_init.2.1 60 = .ok (.ldc 16, 2) := by decide +kernel
theorem J_MLineRows_init_d62 : decode J_MLineRows_init.2.1 62 = .ok (.iastore, 1) := by decide +kernel
theorem J_MLineRows_init_d63 : decode J_MLineRows_init.2.1 63 = .ok (.dup, 1) := by decide +kernel
theorem J_MLineRows_init_d64 : decode J_MLineRows_init.2.1 64 = .ok (.bipush 10, 2) := by decide +kernel
theorem J_MLineRows_init_d66 : decode J_MLineRows_init.2.1 66 = .ok (.ldc 17, 2) := by decide +kernel
theorem J_MLineRows_init_d68 : decode J_MLineRows_init.2.1 68 = .ok (.iastore, 1) := by decide +kernel
theorem J_MLineRows_init_d69 : decode J_MLineRows_init.2.1 69 = .ok (.dup, 1) := by decide +kernel
theorem J_MLineRows_init_d70 : decode J_MLineRows_init.2.1 70 = .ok (.bipush 11, 2) := by decide +kernel
theorem J_MLineRows_init_d72 : decode J_MLineRows_init.2.1 72 = .ok (.ldc 18, 2) := by decide +kernel
theorem J_MLineRows_init_d74 : decode J_MLineRows_init.2.1 74 = .ok (.iastore, 1) := by decide +kernel
theorem J_MLineRows_init_d75 : decode J_MLineRows_init.2.1 75 = .ok (.dup, 1) := by decide +kernel
theorem J_MLineRows_init_d76 : decode J_MLineRows_init.2.1 76 = .ok (.bipush 12, 2) := by decide +kernel
theorem J_MLineRows_init_d78 : decode J_MLineRows_init.2.1 78 = .ok (.ldc 19, 2) := by decide +kernel
theorem J_MLineRows_init_d80 : decode J_MLineRows_init.2.1 80 = .ok (.iastore, 1) := by decide +kernel
theorem J_MLineRows_init_d81 : decode J_MLineRows_init.2.1 81 = .ok (.dup, 1) := by decide +kernel
theorem J_MLineRows_init_d82 : decode J_MLineRows_init.2.1 82 = .ok (.bipush 13, 2) := by decide +kernel
theorem J_MLineRows_init_d84 : decode J_MLineRows_init.2.1 84 = .ok (.ldc 20, 2) := by decide +kernel
theorem J_MLineRows_init_d86 : decode J_MLineRows_init.2.1 86 = .ok (.iastore, 1) := by decide +kernel
theorem J_MLineRows_init_d87 : decode J_MLineRows_init.2.1 87 = .ok (.dup, 1) := by decide +kernel
theorem J_MLineRows_init_d88 : decode J_MLineRows_init.2.1 88 = .ok (.bipush 14, 2) := by decide +kernel
theorem J_MLineRows_init_d90 : decode J_MLineRows_init.2.1 90 = .ok (.ldc 21, 2) := by decide +kernel
theorem J_MLineRows_init_d92 : decode J_MLineRows_init.2.1 92 = .ok (.iastore, 1) := by decide +kernel
theorem J_MLineRows_init_d93 : decode J_MLineRows_init.2.1 93 = .ok (.dup, 1) := by decide +kernel
theorem J_MLineRows_init_d94 : decode J_MLineRows_init.2.1 94 = .ok (.bipush 15, 2) := by decide +kernel
theorem J_MLineRows_init_d96 : decode J_MLineRows_init.2.1 96 = .ok (.ldc 22, 2) := by decide +kernel
theorem J_MLineRows_init_d98 : decode J_MLineRows_init.2.1 98 = .ok (.iastore, 1) := by decide +kernel
theorem J_MLineRows_init_d99 : decode J_MLineRows_init.2.1 99 = .ok (.dup, 1) := by decide +kernel
theorem J_MLineRows_init_d100 : decode J_MLineRows_init.2.1 100 = .ok (.bipush 16, 2) := by decide +kernel
theorem J_MLineRows_init_d102 : decode J_MLineRows_init.2.1 102 = .ok (.ldc 23, 2) := by decide +kernel
theorem J_MLineRows_init_d104 : decode J_MLineRows_init.2.1 104 = .ok (.iastore, 1) := by decide +kernel
theorem J_MLineRows_init_d105 : decode J_MLineRows_init.2.1 105 = .ok (.dup, 1) := by decide +kernel
theorem J_MLineRows_init_d106 : decode J_MLineRows_init.2.1 106 = .ok (.bipush 17, 2) := by decide +kernel
theorem J_MLineRows_init_d108 : decode J_MLineRows_init.2.1 108 = .ok (.ldc 24, 2) := by decide +kernel
theorem J_MLineRows_init_d110 : decode J_MLineRows_init.2.1 110 = .ok (.iastore, 1) := by decide +kernel
theorem J_MLineRows_init_d111 : decode J_MLineRows_init.2.1 111 = .ok (.dup, 1) := by decide +kernel
theorem J_MLineRows_init_d112 : decode J_MLineRows_init.2.1 112 = .ok (.bipush 18, 2) := by decide +kernel
theorem J_MLineRows_init_d114 : decode J_MLineRows_init.2.1 114 = .ok (.ldc 25, 2) := by decide +kernel
theorem J_MLineRows_init_d116 : decode J_MLineRows_init.2.1 116 = .ok (.iastore, 1) := by decide +kernel
theorem J_MLineRows_init_d117 : decode J_MLineRows_init.2.1 117 = .ok (.dup, 1) := by decide +kernel
theorem J_MLineRows_init_d118 : decode J_MLineRows_init.2.1 118 = .ok (.bipush 19, 2) := by decide +kernel
theorem J_MLineRows_init_d120 : decode J_MLineRows_init.2.1 120 = .ok (.ldc 26, 2) := by decide +kernel
theorem J_MLineRows_init_d122 : decode J_MLineRows_init.2.1 122 = .ok (.iastore, 1) := by decide +kernel
theorem J_MLineRows_init_d123 : decode J_MLineRows_init.2.1 123 = .ok (.dup, 1) := by decide +kernel
theorem J_MLineRows_init_d124 : decode J_MLineRows_init.2.1 124 = .ok (.bipush 20, 2) := by decide +kernel
theorem J_MLineRows_init_d126 : decode J_MLineRows_init.2.1 126 = .ok (.ldc 27, 2) := by decide +kernel
theorem J_MLineRows_init_d128 : decode J_MLineRows_init.2.1 128 = .ok (.iastore, 1) := by decide +kernel
theorem J_MLineRows_init_d129 : decode J_MLineRows_init.2.1 129 = .ok (.dup, 1) := by decide +kernel
theorem J_MLineRows_init_d130 : decode J_MLineRows_init.2.1 130 = .ok (.bipush 21, 2) := by decide +kernel
theorem J_MLineRows_init_d132 : decode J_MLineRows_init.2.1 132 = .ok (.ldc 28, 2) := by decide +kernel
theorem J_MLineRows_init_d134 : decode J_MLineRows_init.2.1 134 = .ok (.iastore, 1) := by decide +kernel
theorem J_MLineRows_init_d135 : decode J_MLineRows_init.2.1 135 = .ok (.dup, 1) := by decide +kernel
theorem J_MLineRows_init_d136 : decode J_MLineRows_init.2.1 136 = .ok (.bipush 22, 2) := by decide +kernel
theorem J_MLineRows_init_d138 : decode J_MLineRows_init.2.1 138 = .ok (.ldc 29, 2) := by decide +kernel
theorem J_MLineRows_init_d140 : decode J_MLineRows_init.2.1 140 = .ok (.iastore, 1) := by decide +kernel
theorem J_MLineRows_init_d141 : decode J_MLineRows_init.2.1 141 = .ok (.dup, 1) := by decide +kernel
theorem J_MLineRows_init_d142 : decode J_MLineRows_init.2.1 142 = .ok (.bipush 23, 2) := by decide +kernel
theorem J_MLineRows_init_d144 : decode J_MLineRows_init.2.1 144 = .ok (.ldc 30, 2) := by decide +kernel
theorem J_MLineRows_init_d146 : decode J_MLineRows_init.2.1 146 = .ok (.iastore, 1) := by decide +kernel
theorem J_MLineRows_init_d147 : decode J_MLineRows_init.2.1 147 = .ok (.dup, 1) := by decide +kernel
theorem J_MLineRows_init_d148 : decode J_MLineRows_init.2.1 148 = .ok (.bipush 24, 2) := by decide +kernel
theorem J_MLineRows_init_d150 : decode J_MLineRows_init.2.1 150 = .ok (.ldc 31, 2) := by decide +kernel
theorem J_MLineRows_init_d152 : decode J_MLineRows_init.2.1 152 = .ok (.iastore, 1) := by decide +kernel
theorem J_MLineRows_init_d153 : decode J_MLineRows_init.2.1 153 = .ok (.dup, 1) := by decide +kernel
theorem J_MLineRows_init_d154 : decode J_MLineRows_init.2.1 154 = .ok (.bipush 25, 2) := by decide +kernel
theorem J_MLineRows_init_d156 : decode J_MLineRows_init.2.1 156 = .ok (.ldc 32, 2) := by decide +kernel
theorem J_MLineRows_init_d158 : decode J_MLineRows_init.2.1 158 = .ok (.iastore, 1) := by decide +kernel
theorem J_MLineRows_init_d159 : decode J_MLineRows_init.2.1 159 = .ok (.dup, 1) := by decide +kernel
theorem J_MLineRows_init_d160 : decode J_MLineRows_init.2.1 160 = .ok (.bipush 26, 2) := by decide +kernel
theorem J_MLineRows_init_d162 : decode J_MLineRows_init.2.1 162 = .ok (.ldc 33, 2) := by decide +kernel
theorem J_MLineRows_init_d164 : decode J_MLineRows_init.2.1 164 = .ok (.iastore, 1) := by decide +kernel
theorem J_MLineRows_init_d165 : decode J_MLineRows_init.2.1 165 = .ok (.dup, 1) := by decide +kernel
theorem J_MLineRows_init_d166 : decode J_MLineRows_init.2.1 166 = .ok (.bipush 27, 2) := by decide +kernel
theorem J_MLineRows_init_d168 : decode J_MLineRows_init.2.1 168 = .ok (.ldc 34, 2) := by decide +kernel
theorem J_MLineRows_init_d170 : decode J_MLineRows_init.2.1 170 = .ok (.iastore, 1) := by decide +kernel
theorem J_MLineRows_init_d171 : decode J_MLineRows_init.2.1 171 = .ok (.dup, 1) := by decide +kernel
theorem J_MLineRows_init_d172 : decode J_MLineRows_init.2.1 172 = .ok (.bipush 28, 2) := by decide +kernel
theorem J_MLineRows_init_d174 : decode J_MLineRows_init.2.1 174 = .ok (.ldc 35, 2) := by decide +kernel
theorem J_MLineRows_init_d176 : decode J_MLineRows_init.2.1 176 = .ok (.iastore, 1) := by decide +kernel
theorem J_MLineRows_init_d177 : decode J_MLineRows_init.2.1 177 = .ok (.dup, 1) := by decide +kernel
theorem J_MLineRows_init_d178 : decode J_MLineRows_init.2.1 178 = .ok (.bipush 29, 2) := by decide +kernel
theorem J_MLineRows_init_d180 : decode J_MLineRows_init.2.1 180 = .ok (.ldc 36, 2) := by decide +kernel
theorem J_MLineRows_init_d182 : decode J_MLineRows_init.2.1 182 = .ok (.iastore, 1) := by decide +kernel
theorem J_MLineRows_init_d183 : decode J_MLineRows_init.2.1 183 = .ok (.dup, 1) := by decide +kernel
theorem J_MLineRows_init_d184 : decode J_MLineRows_init.2.1 184 = .ok (.bipush 30, 2) := by decide +kernel
theorem J_MLineRows_init_d186 : decode J_MLineRows_init.2.1 186 = .ok (.ldc 37, 2) := by decide +kernel
theorem J_MLineRows_init_d188 : decode J_MLineRows_init.2.1 188 = .ok (.iastore, 1) := by decide +kernel
theorem J_MLineRows_init_d189 : decode J_MLineRows_init.2.1 189 = .ok (.dup, 1) := by decide +kernel
theorem J_MLineRows_init_d190 : decode J_MLineRows_init.2.1 190 = .ok (.bipush 31, 2) := by decide +kernel
theorem J_MLineRows_init_d192 : decode J_MLineRows_init.2.1 192 = .ok (.ldc 38, 2) := by decide +kernel
theorem J_MLineRows_init_d194 : decode J_MLineRows_init.2.1 194 = .ok (.iastore, 1) := by decide +kernel
theorem J_MLineRows_init_d195 : decode J_MLineRows_init.2.1 195 = .ok (.dup, 1) := by decide +kernel
theorem J_MLineRows_init_d196 : decode J_MLineRows_init.2.1 196 = .ok (.bipush 32, 2) := by decide +kernel
theorem J_MLineRows_init_d198 : decode J_MLineRows_init.2.1 198 = .ok (.ldc 39, 2) := by decide +kernel
theorem J_MLineRows_init_d200 : decode J_MLineRows_init.2.1 200 = .ok (.iastore, 1) := by decide +kernel
theorem J_MLineRows_init_d201 : decode J_MLineRows_init.2.1 201 = .ok (.dup, 1) := by decide +kernel
theorem J_MLineRows_init_d202 : decode J_MLineRows_init.2.1 202 = .ok (.bipush 33, 2) := by decide +kernel
theorem J_MLineRows_init_d204 : decode J_MLineRows_init.2.1 204 = .ok (.ldc 40, 2) := by decide +kernel
theorem J_MLineRows_init_d206 : decode J_MLineRows_init.2.1 206 = .ok (.iastore, 1) := by decide +kernel
theorem J_MLineRows_init_d207 : decode J_MLineRows_init.2.1 207 = .ok (.dup, 1) := by decide +kernel
theorem J_MLineRows_init_d208 : decode J_MLineRows_init.2.1 208 = .ok (.bipush 34, 2) := by decide +kernel
theorem J_MLineRows_init_d210 : decode J_MLineRows_init.2.1 210 = .ok (.ldc 41, 2) := by decide +kernel
theorem J_MLineRows_init_d212 : decode J_MLineRows_init.2.1 212 = .ok (.iastore, 1) := by decide +kernel
theorem J_MLineRows_init_d213 : decode J_MLineRows_init.2.1 213 = .ok (.dup, 1) := by decide +kernel
theorem J_MLineRows_init_d214 : decode J_MLineRows_init.2.1 214 = .ok (.bipush 35, 2) := by decide +kernel
theorem J_MLineRows_init_d216 : decode J_MLineRows_init.2.1 216 = .ok (.ldc 42, 2) := by decide +kernel
theorem J_MLineRows_init_d218 : decode J_MLineRows_init.2.1 218 = .ok (.iastore, 1) := by decide +kernel
theorem J_MLineRows_init_d219 : decode J_MLineRows_init.2.1 219 = .ok (.dup, 1) := by decide +kernel
theorem J_MLineRows_init_d220 : decode J_MLineRows_init.2.1 220 = .ok (.bipush 36, 2) := by decide +kernel
theorem J_MLineRows_init_d222 : decode J_MLineRows_init.2.1 222 = .ok (.ldc 43, 2) := by decide +kernel
theorem J_MLineRows_init_d224 : decode J_MLineRows_init.2.1 224 = .ok (.iastore, 1) := by decide +kernel
theorem J_MLineRows_init_d225 : decode J_MLineRows_init.2.1 225 = .ok (.dup, 1) := by decide +kernel
theorem J_MLineRows_init_d226 : decode J_MLineRows_init.2.1 226 = .ok (.bipush 37, 2) := by decide +kernel
theorem J_MLineRows_init_d228 : decode J_MLineRows_init.2.1 228 = .ok (.ldc 44, 2) := by decide +kernel
theorem J_MLineRows_init_d230 : decode J_MLineRows_init.2.1 230 = .ok (.iastore, 1) := by decide +kernel
theorem J_MLineRows_init_d231 : decode J_MLineRows_init.2.1 231 = .ok (.dup, 1) := by decide +kernel
theorem J_MLineRows_init_d232 : decode J_MLineRows_init.2.1 232 = .ok (.bipush 38, 2) := by decide +kernel
theorem J_MLineRows_init_d234 : decode J_MLineRows_init.2.1 234 = .ok (.ldc 45, 2) := by decide +kernel
theorem J_MLineRows_init_d236 : decode J_MLineRows_init.2.1 236 = .ok (.iastore, 1) := by decide +kernel
theorem J_MLineRows_init_d237 : decode J_MLineRows_init.2.1 237 = .ok (.dup, 1) := by decide +kernel
theorem J_MLineRows_init_d238 : decode J_MLineRows_init.2.1 238 = .ok (.bipush 39, 2) := by decide +kernel
theorem J_MLineRows_init_d240 : decode J_MLineRows_init.2.1 240 = .ok (.ldc 46, 2) := by decide +kernel
theorem J_MLineRows_init_d242 : decode J_MLineRows_init.2.1 242 = .ok (.iastore, 1) := by decide +kernel
theorem J_MLineRows_init_d243 : decode J_MLineRows_init.2.1 243 = .ok (.dup, 1) := by decide +kernel
theorem J_MLineRows_init_d244 : decode J_MLineRows_init.2.1 244 = .ok (.bipush 40, 2) := by decide +kernel
theorem J_MLineRows_init_d246 : decode J_MLineRows_init.2.1 246 = .ok (.ldc 47, 2) := by decide +kernel
theorem J_MLineRows_init_d248 : decode J_MLineRows_init.2.1 248 = .ok (.iastore, 1) := by decide +kernel
theorem J_MLineRows_init_d249 : decode J_MLineRows_init.2.1 249 = .ok (.dup, 1) := by decide +kernel
theorem J_MLineRows_init_d250 : decode J_MLineRows_init.2.1 250 = .ok (.bipush 41, 2) := by decide +kernel
theorem J_MLineRows_init_d252 : decode J_MLineRows_init.2.1 252 = .ok (.ldc 48, 2) := by decide +kernel
theorem J_MLineRows_init_d254 : decode J_MLineRows_init.2.1 254 = .ok (.iastore, 1) := by decide +kernel
theorem J_MLineRows_init_d255 : decode J_MLineRows_init.2.1 255 = .ok (.dup, 1) := by decide +kernel
theorem J_MLineRows_init_d256 : decode J_MLineRows_init.2.1 256 = .ok (.bipush 42, 2) := by decide +kernel
theorem J_MLineRows_init_d258 : decode J_MLineRows_init.2.1 258 = .ok (.ldc 49, 2) := by decide +kernel
theorem J_MLineRows_init_d260 : decode J_MLineRows_init.2.1 260 = .ok (.iastore, 1) := by decide +kernel
theorem J_MLineRows_init_d261 : decode J_MLineRows_init.2.1 261 = .ok (.dup, 1) := by decide +kernel
theorem J_MLineRows_init_d262 : decode J_MLineRows_init.2.1 262 = .ok (.bipush 43, 2) := by decide +kernel
theorem J_MLineRows_init_d264 : decode J_MLineRows_init.2.1 264 = .ok (.ldc 50, 2) := by decide +kernel
theorem J_MLineRows_init_d266 : decode J_MLineRows_init.2.1 266 = .ok (.iastore, 1) := by decide +kernel
theorem J_MLineRows_init_d267 : decode J_MLineRows_init.2.1 267 = .ok (.dup, 1) := by decide +kernel
theorem J_MLineRows_init_d268 : decode J_MLineRows_init.2.1 268 = .ok (.bipush 44, 2) := by decide +kernel
theorem J_MLineRows_init_d270 : decode J_MLineRows_init.2.1 270 = .ok (.ldc 51, 2) := by decide +kernel
theorem J_MLineRows_init_d272 : decode J_MLineRows_init.2.1 272 = .ok (.iastore, 1) := by decide +kernel
theorem J_MLineRows_init_d273 : decode J_MLineRows_init.2.1 273 = .ok (.dup, 1) := by decide +kernel
theorem J_MLineRows_init_d274 : decode J_MLineRows_init.2.1 274 = .ok (.bipush 45, 2) := by decide +kernel
theorem J_MLineRows_init_d276 : decode J_MLineRows_init.2.1 276 = .ok (.ldc 52, 2) := by decide +kernel
theorem J_MLineRows_init_d278 : decode J_MLineRows_init.2.1 278 = .ok (.iastore, 1) := by decide +kernel
theorem J_MLineRows_init_d279 : decode J_MLineRows_init.2.1 279 = .ok (.dup, 1) := by decide +kernel
theorem J_MLineRows_init_d280 : decode J_MLineRows_init.2.1 280 = .ok (.bipush 46, 2) := by decide +kernel
theorem J_MLineRows_init_d282 : decode J_MLineRows_init.2.1 282 = .ok (.ldc 53, 2) := by decide +kernel
theorem J_MLineRows_init_d284 : decode J_MLineRows_init.2.1 284 = .ok (.iastore, 1) := by decide +kernel
theorem J_MLineRows_init_d285 : decode J_MLineRows_init.2.1 285 = .ok (.dup, 1) := by decide +kernel
theorem J_MLineRows_init_d286 : decode J_MLineRows_init.2.1 286 = .ok (.bipush 47, 2) := by decide +kernel
theorem J_MLineRows_init_d288 : decode J_MLineRows_init.2.1 288 = .ok (.ldc 54, 2) := by decide +kernel
theorem J_MLineRows_init_d290 : decode J_MLineRows_init.2.1 290 = .ok (.iastore, 1) := by decide +kernel
theorem J_MLineRows_init_d291 : decode J_MLineRows_init.2.1 291 = .ok (.dup, 1) := by decide +kernel
theorem J_MLineRows_init_d292 : decode J_MLineRows_init.2.1 292 = .ok (.bipush 48, 2) := by decide +kernel
theorem J_MLineRows_init_d294 : decode J_MLineRows_init.2.1 294 = .ok (.ldc 55, 2) := by decide +kernel
theorem J_MLineRows_init_d296 : decode J_MLineRows_init.2.1 296 = .ok (.iastore, 1) := by decide +kernel
theorem J_MLineRows_init_d297 : decode J_MLineRows_init.2.1 297 = .ok (.dup, 1) := by decide +kernel
theorem J_MLineRows_init_d298 : decode J_MLineRows_init.2.1 298 = .ok (.bipush 49, 2) := by decide +kernel
theorem J_MLineRows_init_d300 : decode J_MLineRows_init.2.1 300 = .ok (.ldc 56, 2) := by decide +kernel
theorem J_MLineRows_init_d302 : decode J_MLineRows_init.2.1 302 = .ok (.iastore, 1) := by decide +kernel
theorem J_MLineRows_init_d303 : decode J_MLineRows_init.2.1 303 = .ok (.dup, 1) := by decide +kernel
theorem J_MLineRows_init_d304 : decode J_MLineRows_init.2.1 304 = .ok (.bipush 50, 2) := by decide +kernel
theorem J_MLineRows_init_d306 : decode J_MLineRows_init.2.1 306 = .ok (.ldc 57, 2) := by decide +kernel
theorem J_MLineRows_init_d308 : decode J_MLineRows_init.2.1 308 = .ok (.iastore, 1) := by decide +kernel
theorem J_MLineRows_init_d309 : decode J_MLineRows_init.2.1 309 = .ok (.dup, 1) := by decide +kernel
theorem J_MLineRows_init_d310 : decode J_MLineRows_init.2.1 310 = .ok (.bipush 51, 2) := by decide +kernel
theorem J_MLineRows_init_d312 : decode J_MLineRows_init.2.1 312 = .ok (.ldc 58, 2) := by decide +kernel
theorem J_MLineRows_init_d314 : decode J_MLineRows_init.2.1 314 = .ok (.iastore, 1) := by decide +kernel
theorem J_MLineRows_init_d315 : decode J_MLineRows_init.2.1 315 = .ok (.dup, 1) := by decide +kernel
theorem J_MLineRows_init_d316 : decode J_MLineRows_init.2.1 316 = .ok (.bipush 52, 2) := by decide +kernel
theorem J_MLineRows_init_d318 : decode J_MLineRows_init.2.1 318 = .ok (.ldc 59, 2) := by decide +kernel
theorem J_MLineRows_init_d320 : decode J_MLineRows_init.2.1 320 = .ok (.iastore, 1) := by decide +kernel
theorem J_MLineRows_init_d321 : decode J_MLineRows_init.2.1 321 = .ok (.dup, 1) := by decide +kernel
theorem J_MLineRows_init_d322 : decode J_MLineRows_init.2.1 322 = .ok (.bipush 53, 2) := by decide +kernel
theorem J_MLineRows_init_d324 : decode J_MLineRows_init.2.1 324 = .ok (.ldc 60, 2) := by decide +kernel
theorem J_MLineRows_init_d326 : decode J_MLineRows_init.2.1 326 = .ok (.iastore, 1) := by decide +kernel
theorem J_MLineRows_init_d327 : decode J_MLineRows_init.2.1 327 = .ok (.dup, 1) := by decide +kernel
theorem J_MLineRows_init_d328 : decode J_MLineRows_init.2.1 328 = .ok (.bipush 54, 2) := by decide +kernel
theorem J_MLineRows_init_d330 : decode J_MLineRows_init.2.1 330 = .ok (.ldc 61, 2) := by decide +kernel
theorem J_MLineRows_init_d332 : decode J_MLineRows_init.2.1 332 = .ok (.iastore, 1) := by decide +kernel
theorem J_MLineRows_init_d333 : decode J_MLineRows_init.2.1 333 = .ok (.dup, 1) := by decide +kernel
theorem J_MLineRows_init_d334 : decode J_MLineRows_init.2.1 334 = .ok (.bipush 55, 2) := by decide +kernel
theorem J_MLineRows_init_d336 : decode J_MLineRows_init.2.1 336 = .ok (.ldc 62, 2) := by decide +kernel
theorem J_MLineRows_init_d338 : decode J_MLineRows_init.2.1 338 = .ok (.iastore, 1) := by decide +kernel
theorem J_MLineRows_init_d339 : decode J_MLineRows_init.2.1 339 = .ok (.dup, 1) := by decide +kernel
theorem J_MLineRows_init_d340 : decode J_MLineRows_init.2.1 340 = .ok (.bipush 56, 2) := by decide +kernel
theorem J_MLineRows_init_d342 : decode J_MLineRows_init.2.1 342 = .ok (.ldc 63, 2) := by decide +kernel
theorem J_MLineRows_init_d344 : decode J_MLineRows_init.2.1 344 = .ok (.iastore, 1) := by decide +kernel
theorem J_MLineRows_init_d345 : decode J_MLineRows_init.2.1 345 = .ok (.dup, 1) := by decide +kernel
theorem J_MLineRows_init_d346 : decode J_MLineRows_init.2.1 346 = .ok (.bipush 57, 2) := by decide +kernel
theorem J_MLineRows_init_d348 : decode J_MLineRows_init.2.1 348 = .ok (.ldc 64, 2) := by decide +kernel
theorem J_MLineRows_init_d350 : decode J_MLineRows_init.2.1 350 = .ok (.iastore, 1) := by decide +kernel
theorem J_MLineRows_init_d351 : decode J_MLineRows_init.2.1 351 = .ok (.dup, 1) := by decide +kernel
theorem J_MLineRows_init_d352 : decode J_MLineRows_init.2.1 352 = .ok (.bipush 58, 2) := by decide +kernel
theorem J_MLineRows_init_d354 : decode J_MLineRows_init.2.1 354 = .ok (.ldc 65, 2) := by decide +kernel
theorem J_MLineRows_init_d356 : decode J_MLineRows_init.2.1 356 = .ok (.iastore, 1) := by decide +kernel
theorem J_MLineRows_init_d357 : decode J_MLineRows_init.2.1 357 = .ok (.dup, 1) := by decide +kernel
theorem J_MLineRows_init_d358 : decode J_MLineRows_init.2.1 358 = .ok (.bipush 59, 2) := by decide +kernel
theorem J_MLineRows_init_d360 : decode J_MLineRows_init.2.1 360 = .ok (.ldc 66, 2) := by decide +kernel
theorem J_MLineRows_init_d362 : decode J_MLineRows_init.2.1 362 = .ok (.iastore, 1) := by decide +kernel
theorem J_MLineRows_init_d363 : decode J_MLineRows_init.2.1 363 = .ok (.dup, 1) := by decide +kernel
theorem J_MLineRows_init_d364 : decode J_MLineRows_init.2.1 364 = .ok (.bipush 60, 2) := by decide +kernel
theorem J_MLineRows_init_d366 : decode J_MLineRows_init.2.1 366 = .ok (.ldc 67, 2) := by decide +kernel
theorem J_MLineRows_init_d368 : decode J_MLineRows_init.2.1 368 = .ok (.iastore, 1) := by decide +kernel
theorem J_MLineRows_init_d369 : decode J_MLineRows_init.2.1 369 = .ok (.dup, 1) := by decide +kernel
theorem J_MLineRows_init_d370 : decode J_MLineRows_init.2.1 370 = .ok (.bipush 61, 2) := by decide +kernel
theorem J_MLineRows_init_d372 : decode J_MLineRows_init.2.1 372 = .ok (.ldc 68, 2) := by decide +kernel
theorem J_MLineRows_init_d374 : decode J_MLineRows_init.2.1 374 = .ok (.iastore, 1) := by decide +kernel
theorem J_MLineRows_init_d375 : decode J_MLineRows_init.2.1 375 = .ok (.dup, 1) := by decide +kernel
theorem J_MLineRows_init_d376 : decode J_MLineRows_init.2.1 376 = .ok (.bipush 62, 2) := by decide +kernel
theorem J_MLineRows_init_d378 : decode J_MLineRows_init.2.1 378 = .ok (.ldc 69, 2) := by decide +kernel
theorem J_MLineRows_init_d380 : decode J_MLineRows_init.2.1 380 = .ok (.iastore, 1) := by decide +kernel
theorem J_MLineRows_init_d381 : decode J_MLineRows_init.2.1 381 = .ok (.dup, 1) := by decide +kernel
theorem J_MLineRows_init_d382 : decode J_MLineRows_init.2.1 382 = .ok (.bipush 63, 2) := by decide +kernel
theorem J_MLineRows_init_d384 : decode J_MLineRows_init.2.1 384 = .ok (.ldc 70, 2) := by decide +kernel
theorem J_MLineRows_init_d386 : decode J_MLineRows_init.2.1 386 = .ok (.iastore, 1) := by decide +kernel
theorem J_MLineRows_init_d387 : decode J_MLineRows_init.2.1 387 = .ok (.dup, 1) := by decide +kernel
theorem J_MLineRows_init_d388 : decode J_MLineRows_init.2.1 388 = .ok (.bipush 64, 2) := by decide +kernel
theorem J_MLineRows_init_d390 : decode J_MLineRows_init.2.1 390 = .ok (.ldc 71, 2) := by decide +kernel
theorem J_MLineRows_init_d392 : decode J_MLineRows_init.2.1 392 = .ok (.iastore, 1) := by decide +kernel
theorem J_MLineRows_init_d393 : decode J_MLineRows_init.2.1 393 = .ok (.dup, 1) := by decide +kernel
theorem J_MLineRows_init_d394 : decode J_MLineRows_init.2.1 394 = .ok (.bipush 65, 2) := by decide +kernel
theorem J_MLineRows_init_d396 : decode J_MLineRows_init.2.1 396 = .ok (.ldc 72, 2) := by decide +kernel
theorem J_MLineRows_init_d398 : decode J_MLineRows_init.2.1 398 = .ok (.iastore, 1) := by decide +kernel
theorem J_MLineRows_init_d399 : decode J_MLineRows_init.2.1 399 = .ok (.dup, 1) := by decide +kernel
theorem J_MLineRows_init_d400 : decode J_MLineRows_init.2.1 400 = .ok (.bipush 66, 2) := by decide +kernel
theorem J_MLineRows_init_d402 : decode J_MLineRows_init.2.1 402 = .ok (.ldc 73, 2) := by decide +kernel
theorem J_MLineRows_init_d404 : decode J_MLineRows_init.2.1 404 = .ok (.iastore, 1) := by decide +kernel
theorem J_MLineRows_init_d405 : decode J_MLineRows_init.2.1 405 = .ok (.dup, 1) := by decide +kernel
theorem J_MLineRows_init_d406 : decode J_MLineRows_init.2.1 406 = .ok (.bipush 67, 2) := by decide +kernel
theorem J_MLineRows_init_d408 : decode J_MLineRows_init.2.1 408 = .ok (.ldc 74, 2) := by decide +kernel
theorem J_MLineRows_init_d410 : decode J_MLineRows_init.2.1 410 = .ok (.iastore, 1) := by decide +kernel
theorem J_MLineRows_init_d411 : decode J_MLineRows_init.2.1 411 = .ok (.dup, 1) := by decide +kernel
theorem J_MLineRows_init_d412 : decode J_MLineRows_init.2.1 412 = .ok (.bipush 68, 2) := by decide +kernel
theorem J_MLineRows_init_d414 : decode J_MLineRows_init.2.1 414 = .ok (.ldc 75, 2) := by decide +kernel
theorem J_MLineRows_init_d416 : decode J_MLineRows_init.2.1 416 = .ok (.iastore, 1) := by decide +kernel
theorem J_MLineRows_init_d417 : decode J_MLineRows_init.2.1 417 = .ok (.dup, 1) := by decide +kernel
theorem J_MLineRows_init_d418 : decode J_MLineRows_init.2.1 418 = .ok (.bipush 69, 2) := by decide +kernel
theorem J_MLineRows_init_d420 : decode J_MLineRows_init.2.1 420 = .ok (.ldc 76, 2) := by decide +kernel
theorem J_MLineRows_init_d422 : decode J_MLineRows_init.2.1 422 = .ok (.iastore, 1) := by decide +kernel
theorem J_MLineRows_init_d423 : decode J_MLineRows_init.2.1 423 = .ok (.dup, 1) := by decide +kernel
theorem J_MLineRows_init_d424 : decode J_MLineRows_init.2.1 424 = .ok (.bipush 70, 2) := by decide +kernel
theorem J_MLineRows_init_d426 : decode J_MLineRows_init.2.1 426 = .ok (.ldc 77, 2) := by decide +kernel
theorem J_MLineRows_init_d428 : decode J_MLineRows_init.2.1 428 = .ok (.iastore, 1) := by decide +kernel
theorem J_MLineRows_init_d429 : decode J_MLineRows_init.2.1 429 = .ok (.dup, 1) := by decide +kernel
theorem J_MLineRows_init_d430 : decode J_MLineRows_init.2.1 430 = .ok (.bipush 71, 2) := by decide +kernel
theorem J_MLineRows_init_d432 : decode J_MLineRows_init.2.1 432 = .ok (.ldc 78, 2) := by decide +kernel
theorem J_MLineRows_init_d434 : decode J_MLineRows_init.2.1 434 = .ok (.iastore, 1) := by decide +kernel
theorem J_MLineRows_init_d435 : decode J_MLineRows_init.2.1 435 = .ok (.dup, 1) := by decide +kernel
theorem J_MLineRows_init_d436 : decode J_MLineRows_init.2.1 436 = .ok (.bipush 72, 2) := by decide +kernel
theorem J_MLineRows_init_d438 : decode J_MLineRows_init.2.1 438 = .ok (.ldc 79, 2) := by decide +kernel
theorem J_MLineRows_init_d440 : decode J_MLineRows_init.2.1 440 = .ok (.iastore, 1) := by decide +kernel
theorem J_MLineRows_init_d441 : decode J_MLineRows_init.2.1 441 = .ok (.dup, 1) := by decide +kernel
theorem J_MLineRows_init_d442 : decode J_MLineRows_init.2.1 442 = .ok (.bipush 73, 2) := by decide +kernel
theorem J_MLineRows_init_d444 : decode J_MLineRows_init.2.1 444 = .ok (.ldc 80, 2) := by decide +kernel
theorem J_MLineRows_init_d446 : decode J_MLineRows_init.2.1 446 = .ok (.iastore, 1) := by decide +kernel
theorem J_MLineRows_init_d447 : decode J_MLineRows_init.2.1 447 = .ok (.dup, 1) := by decide +kernel
theorem J_MLineRows_init_d448 : decode J_MLineRows_init.2.1 448 = .ok (.bipush 74, 2) := by decide +kernel
theorem J_MLineRows_init_d450 : decode J_MLineRows_init.2.1 450 = .ok (.ldc 81, 2) := by decide +kernel
theorem J_MLineRows_init_d452 : decode J_MLineRows_init.2.1 452 = .ok (.iastore, 1) := by decide +kernel
theorem J_MLineRows_init_d453 : decode J_MLineRows_init.2.1 453 = .ok (.dup, 1) := by decide +kernel
theorem J_MLineRows_init_d454 : decode J_MLineRows_init.2.1 454 = .ok (.bipush 75, 2) := by decide +kernel
theorem J_MLineRows_init_d456 : decode J_MLineRows_init.2.1 456 = .ok (.ldc 82, 2) := by decide +kernel
theorem J_MLineRows_init_d458 : decode J_MLineRows_init.2.1 458 = .ok (.iastore, 1) := by decide +kernel
theorem J_MLineRows_init_d459 : decode J_MLineRows_init.2.1 459 = .ok (.dup, 1) := by decide +kernel
theorem J_MLineRows_init_d460 : decode J_MLineRows_init.2.1 460 = .ok (.bipush 76, 2) := by decide +kernel
theorem J_MLineRows_init_d462 : decode J_MLineRows_init.2.1 462 = .ok (.ldc 83, 2) := by decide +kernel
theorem J_MLineRows_init_d464 : decode J_MLineRows_init.2.1 464 = .ok (.iastore, 1) := by decide +kernel
theorem J_MLineRows_init_d465 : decode J_MLineRows_init.2.1 465 = .ok (.dup, 1) := by decide +kernel
theorem J_MLineRows_init_d466 : decode J_MLineRows_init.2.1 466 = .ok (.bipush 77, 2) := by decide +kernel
theorem J_MLineRows_init_d468 : decode J_MLineRows_init.2.1 468 = .ok (.ldc 84, 2) := by decide +kernel
theorem J_MLineRows_init_d470 : decode J_MLineRows_init.2.1 470 = .ok (.iastore, 1) := by decide +kernel
theorem J_MLineRows_init_d471 : decode J_MLineRows_init.2.1 471 = .ok (.dup, 1) := by decide +kernel
theorem J_MLineRows_init_d472 : decode J_MLineRows_init.2.1 472 = .ok (.bipush 78, 2) := by decide +kernel
theorem J_MLineRows_init_d474 : decode J_MLineRows_init.2.1 474 = .ok (.ldc 85, 2) := by decide +kernel
theorem J_MLineRows_init_d476 : decode J_MLineRows_init.2.1 476 = .ok (.iastore, 1) := by decide +kernel
theorem J_MLineRows_init_d477 : decode J_MLineRows_init.2.1 477 = .ok (.dup, 1) := by decide +kernel
theorem J_MLineRows_init_d478 : decode J_MLineRows_init.2.1 478 = .ok (.bipush 79, 2) := by decide +kernel
theorem J_MLineRows_init_d480 : decode J_MLineRows_init.2.1 480 = .ok (.ldc 86, 2) := by decide +kernel
theorem J_MLineRows_init_d482 : decode J_MLineRows_init.2.1 482 = .ok (.iastore, 1) := by decide +kernel
theorem J_MLineRows_init_d483 : decode J_MLineRows_init.2.1 483 = .ok (.dup, 1) := by decide +kernel
theorem J_MLineRows_init_d484 : decode J_MLineRows_init.2.1 484 = .ok (.bipush 80, 2) := by decide +kernel
theorem J_MLineRows_init_d486 : decode J_MLineRows_init.2.1 486 = .ok (.ldc 87, 2) := by decide +kernel
theorem J_MLineRows_init_d488 : decode J_MLineRows_init.2.1 488 = .ok (.iastore, 1) := by decide +kernel
theorem J_MLineRows_init_d489 : decode J_MLineRows_init.2.1 489 = .ok (.dup, 1) := by decide +kernel
theorem J_MLineRows_init_d490 : decode J_MLineRows_init.2.1 490 = .ok (.bipush 81, 2) := by decide +kernel
theorem J_MLineRows_init_d492 : decode J_MLineRows_init.2.1 492 = .ok (.ldc 88, 2) := by decide +kernel
theorem J_MLineRows_init_d494 : decode J_MLineRows_init.2.1 494 = .ok (.iastore, 1) := by decide +kernel
theorem J_MLineRows_init_d495 : decode J_MLineRows_init.2.1 495 = .ok (.dup, 1) := by decide +kernel
theorem J_MLineRows_init_d496 : decode J_MLineRows_init.2.1 496 = .ok (.bipush 82, 2) := by decide +kernel
theorem J_MLineRows_init_d498 : decode J_MLineRows_init.2.1 498 = .ok (.ldc 89, 2) := by decide +kernel
theorem J_MLineRows_init_d500 : decode J_MLineRows_init.2.1 500 = .ok (.iastore, 1) := by decide +kernel
theorem J_MLineRows_init_d501 : decode J_MLineRows_init.2.1 501 = .ok (.dup, 1) := by decide +kernel
theorem J_MLineRows_init_d502 : decode J_MLineRows_init.2.1 502 = .ok (.bipush 83, 2) := by decide +kernel
theorem J_MLineRows_init_d504 : decode J_MLineRows_init.2.1 504 = .ok (.ldc 90, 2) := by decide +kernel
theorem J_MLineRows_init_d506 : decode J_MLineRows_init.2.1 506 = .ok (.iastore, 1) := by decide +kernel
theorem J_MLineRows_init_d507 : decode J_MLineRows_init.2.1 507 = .ok (.dup, 1) := by decide +kernel
theorem J_MLineRows_init_d508 : decode J_MLineRows_init.2.1 508 = .ok (.bipush 84, 2) := by decide +kernel
theorem J_MLineRows_init_d510 : decode J_MLineRows_init.2.1 510 = .ok (.ldc 91, 2) := by decide +kernel
theorem J_MLineRows_init_d512 : decode J_MLineRows_init.2.1 512 = .ok (.iastore, 1) := by decide +kernel
theorem J_MLineRows_init_d513 : decode J_MLineRows_init.2.1 513 = .ok (.dup, 1) := by decide +kernel
theorem J_MLineRows_init_d514 : decode J_MLineRows_init.2.1 514 = .ok (.bipush 85, 2) := by decide +kernel
theorem J_MLineRows_init_d516 : decode J_MLineRows_init.2.1 516 = .ok (.ldc 92, 2) := by decide +kernel
theorem J_MLineRows_init_d518 : decode J_MLineRows_init.2.1 518 = .ok (.iastore, 1) := by decide +kernel
theorem J_MLineRows_init_d519 : decode J_MLineRows_init.2.1 519 = .ok (.dup, 1) := by decide +kernel
theorem J_MLineRows_init_d520 : decode J_MLineRows_init.2.1 520 = .ok (.bipush 86, 2) := by decide +kernel
theorem J_MLineRows_init_d522 : decode J_MLineRows_init.2.1 522 = .ok (.ldc 93, 2) := by decide +kernel
theorem J_MLineRows_init_d524 : decode J_MLineRows_init.2.1 524 = .ok (.iastore, 1) := by decide +kernel
theorem J_MLineRows_init_d525 : decode J_MLineRows_init.2.1 525 = .ok (.dup, 1) := by decide +kernel
theorem J_MLineRows_init_d526 : decode J_MLineRows_init.2.1 526 = .ok (.bipush 87, 2) := by decide +kernel
theorem J_MLineRows_init_d528 : decode J_MLineRows_init.2.1 528 = .ok (.ldc 94, 2) := by decide +kernel
theorem J_MLineRows_init_d530 : decode J_MLineRows_init.2.1 530 = .ok (.iastore, 1) := by decide +kernel
theorem J_MLineRows_init_d531 : decode J_MLineRows_init.2.1 531 = .ok (.dup, 1) := by decide +kernel
theorem J_MLineRows_init_d532 : decode J_MLineRows_init.2.1 532 = .ok (.bipush 88, 2) := by decide +kernel
theorem J_MLineRows_init_d534 : decode J_MLineRows_init.2.1 534 = .ok (.ldc 95, 2) := by decide +kernel
theorem J_MLineRows_init_d536 : decode J_MLineRows_init.2.1 536 = .ok (.iastore, 1) := by decide +kernel
theorem J_MLineRows_init_d537 : decode J_MLineRows_init.2.1 537 = .ok (.dup, 1) := by decide +kernel
theorem J_MLineRows_init_d538 : decode J_MLineRows_init.2.1 538 = .ok (.bipush 89, 2) := by decide +kernel
theorem J_MLineRows_init_d540 : decode J_MLineRows_init.2.1 540 = .ok (.ldc 96, 2) := by decide +kernel
theorem J_MLineRows_init_d542 : decode J_MLineRows_init.2.1 542 = .ok (.iastore, 1) := by decide +kernel
theorem J_MLineRows_init_d543 : decode J_MLineRows_init.2.1 543 = .ok (.dup, 1) := by decide +kernel
theorem J_MLineRows_init_d544 : decode J_MLineRows_init.2.1 544 = .ok (.bipush 90, 2) := by decide +kernel
theorem J_MLineRows_init_d546 : decode J_MLineRows_init.2.1 546 = .ok (.ldc 97, 2) := by decide +kernel
theorem J_MLineRows_init_d548 : decode J_MLineRows_init.2.1 548 = .ok (.iastore, 1) := by decide +kernel
theorem J_MLineRows_init_d549 : decode J_MLineRows_init.2.1 549 = .ok (.dup, 1) := by decide +kernel
theorem J_MLineRows_init_d550 : decode J_MLineRows_init.2.1 550 = .ok (.bipush 91, 2) := by decide +kernel
theorem J_MLineRows_init_d552 : decode J_MLineRows_init.2.1 552 = .ok (.ldc 98, 2) := by decide +kernel
theorem J_MLineRows_init_d554 : decode J_MLineRows_init.2.1 554 = .ok (.iastore, 1) := by decide +kernel
theorem J_MLineRows_init_d555 : decode J_MLineRows_init.2.1 555 = .ok (.dup, 1) := by decide +kernel
theorem J_MLineRows_init_d556 : decode J_MLineRows_init.2.1 556 = .ok (.bipush 92, 2) := by decide +kernel
theorem J_MLineRows_init_d558 : decode J_MLineRows_init.2.1 558 = .ok (.ldc 99, 2) := by decide +kernel
theorem J_MLineRows_init_d560 : decode J_MLineRows_init.2.1 560 = .ok (.iastore, 1) := by decide +kernel
theorem J_MLineRows_init_d561 : decode J_MLineRows_init.2.1 561 = .ok (.dup, 1) := by decide +kernel
theorem J_MLineRows_init_d562 : decode J_MLineRows_init.2.1 562 = .ok (.bipush 93, 2) := by decide +kernel
theorem J_MLineRows_init_d564 : decode J_MLineRows_init.2.1 564 = .ok (.ldc 100, 2) := by decide +kernel
theorem J_MLineRows_init_d566 : decode J_MLineRows_init.2.1 566 = .ok (.iastore, 1) := by decide +kernel
theorem J_MLineRows_init_d567 : decode J_MLineRows_init.2.1 567 = .ok (.dup, 1) := by decide +kernel
theorem J_MLineRows_init_d568 : decode J_MLineRows_init.2.1 568 = .ok (.bipush 94, 2) := by decide +kernel
theorem J_MLineRows_init_d570 : decode J_MLineRows_init.2.1 570 = .ok (.ldc 101, 2) := by decide +kernel
theorem J_MLineRows_init_d572 : decode J_MLineRows_init.2.1 572 = .ok (.iastore, 1) := by decide +kernel
theorem J_MLineRows_init_d573 : decode J_MLineRows_init.2.1 573 = .ok (.dup, 1) := by decide +kernel
theorem J_MLineRows_init_d574 : decode J_MLineRows_init.2.1 574 = .ok (.bipush 95, 2) := by decide +kernel
theorem J_MLineRows_init_d576 : decode J_MLineRows_init.2.1 576 = .ok (.ldc 102, 2) := by decide +kernel
theorem J_MLineRows_init_d578 : decode J_MLineRows_init.2.1 578 = .ok (.iastore, 1) := by decide +kernel
theorem J_MLineRows_init_d579 : decode J_MLineRows_init.2.1 579 = .ok (.dup, 1) := by decide +kernel
theorem J_MLineRows_init_d580 : decode J_MLineRows_init.2.1 580 = .ok (.bipush 96, 2) := by decide +kernel
theorem J_MLineRows_init_d582 : decode J_MLineRows_init.2.1 582 = .ok (.ldc 103, 2) := by decide +kernel
theorem J_MLineRows_init_d584 : decode J_MLineRows_init.2.1 584 = .ok (.iastore, 1) := by decide +kernel
theorem J_MLineRows_init_d585 : decode J_MLineRows_init.2.1 585 = .ok (.dup, 1) := by decide +kernel
theorem J_MLineRows_init_d586 : decode J_MLineRows_init.2.1 586 = .ok (.bipush 97, 2) := by decide +kernel
theorem J_MLineRows_init_d588 : decode J_MLineRows_init.2.1 588 = .ok (.ldc 104, 2) := by decide +kernel
theorem J_MLineRows_init_d590 : decode J_MLineRows_init.2.1 590 = .ok (.iastore, 1) := by decide +kernel
theorem J_MLineRows_init_d591 : decode J_MLineRows_init.2.1 591 = .ok (.dup, 1) := by decide +kernel
theorem J_MLineRows_init_d592 : decode J_MLineRows_init.2.1 592 = .ok (.bipush 98, 2) := by decide +kernel
theorem J_MLineRows_init_d594 : decode J_MLineRows_init.2.1 594 = .ok (.ldc 105, 2) := by decide +kernel
theorem J_MLineRows_init_d596 : decode J_MLineRows_init.2.1 596 = .ok (.iastore, 1) := by decide +kernel
theorem J_MLineRows_init_d597 : decode J_MLineRows_init.2.1 597 = .ok (.dup, 1) := by decide +kernel
theorem J_MLineRows_init_d598 : decode J_MLineRows_init.2.1 598 = .ok (.bipush 99, 2) := by decide +kernel
theorem J_MLineRows_init_d600 : decode J_MLineRows_init.2.1 600 = .ok (.ldc 106, 2) := by decide +kernel
theorem J_MLineRows_init_d602 : decode J_MLineRows_init.2.1 602 = .ok (.iastore, 1) := by decide +kernel
theorem J_MLineRows_init_d603 : decode J_MLineRows_init.2.1 603 = .ok (.dup, 1) := by decide +kernel
theorem J_MLineRows_init_d604 : decode J_MLineRows_init.2.1 604 = .ok (.bipush 100, 2) := by decide +kernel
theorem J_MLineRows_init_d606 : decode J_MLineRows_init.2.1 606 = .ok (.ldc 107, 2) := by decide +kernel
theorem J_MLineRows_init_d608 : decode J_MLineRows_init.2.1 608 = .ok (.iastore, 1) := by decide +kernel
theorem J_MLineRows_init_d609 : decode J_MLineRows_init.2.1 609 = .ok (.dup, 1) := by decide +kernel
theorem J_MLineRows_init_d610 : decode J_MLineRows_init.2.1 610 = .ok (.bipush 101, 2) := by decide +kernel
theorem J_MLineRows_init_d612 : decode J_MLineRows_init.2.1 612 = .ok (.ldc 108, 2) := by decide +kernel
theorem J_MLineRows_init_d614 : decode J_MLineRows_init.2.1 614 = .ok (.iastore, 1) := by decide +kernel
theorem J_MLineRows_init_d615 : decode J_MLineRows_init.2.1 615 = .ok (.dup, 1) := by decide +kernel
theorem J_MLineRows_init_d616 : decode J_MLineRows_init.2.1 616 = .ok (.bipush 102, 2) := by decide +kernel
theorem J_MLineRows_init_d618 : decode J_MLineRows_init.2.1 618 = .ok (.ldc 109, 2) := by decide +kernel
theorem J_MLineRows_init_d620 : decode J_MLineRows_init.2.1 620 = .ok (.iastore, 1) := by decide +kernel
theorem J_MLineRows_init_d621 : decode J_MLineRows_init.2.1 621 = .ok (.dup, 1) := by decide +kernel
theorem J_MLineRows_init_d622 : decode J_MLineRows_init.2.1 622 = .ok (.bipush 103, 2) := by decide +kernel
theorem J_MLineRows_init_d624 : decode J_MLineRows_init.2.1 624 = .ok (.ldc 110, 2) := by decide +kernel
theorem J_MLineRows_init_d626 : decode J_MLineRows_init.2.1 626 = .ok (.iastore, 1) := by decide +kernel
theorem J_MLineRows_init_d627 : decode J_MLineRows_init.2.1 627 = .ok (.dup, 1) := by decide +kernel
theorem J_MLineRows_init_d628 : decode J_MLineRows_init.2.1 628 = .ok (.bipush 104, 2) := by decide +kernel
theorem J_MLineRows_init_d630 : decode J_MLineRows_init.2.1 630 = .ok (.ldc 111, 2) := by decide +kernel
theorem J_MLineRows_init_d632 : decode J_MLineRows_init.2.1 632 = .ok (.iastore, 1) := by decide +kernel
theorem J_MLineRows_init_d633 : decode J_MLineRows_init.2.1 633 = .ok (.dup, 1) := by decide +kernel
theorem J_MLineRows_init_d634 : decode J_MLineRows_init.2.1 634 = .ok (.bipush 105, 2) := by decide +kernel
theorem J_MLineRows_init_d636 : decode J_MLineRows_init.2.1 636 = .ok (.ldc 112, 2) := by decide +kernel
theorem J_MLineRows_init_d638 : decode J_MLineRows_init.2.1 638 = .ok (.iastore, 1) := by decide +kernel
theorem J_MLineRows_init_d639 : decode J_MLineRows_init.2.1 639 = .ok (.putfield 113, 3) := by decide +kernel
theorem J_MLineRows_init_d642 : decode J_MLineRows_init.2.1 642 = .ok (.aload_n 0, 1) := by decide +kernel
theorem J_MLineRows_init_d643 : decode J_MLineRows_init.2.1 643 = .ok (.bipush 10, 2) := by decide +kernel
theorem J_MLineRows_init_d645 : decode J_MLineRows_init.2.1 645 = .ok (.newarray .int, 2) := by decide +kernel
theorem J_MLineRows_init_d647 : decode J_MLineRows_init.2.1 647 = .ok (.dup, 1) := by decide +kernel
theorem J_MLineRows_init_d648 : decode J_MLineRows_init.2.1 648 = .ok (.iconst 0, 1) := by decide +kernel
theorem J_MLineRows_init_d649 : decode J_MLineRows_init.2.1 649 = .ok (.sipush 3211, 3) := by decide +kernel
theorem J_MLineRows_init_d652 : decode J_MLineRows_init.2.1 652 = .ok (.iastore, 1) := by decide +kernel
theorem J_MLineRows_init_d653 : decode J_MLineRows_init.2.1 653 = .ok (.dup, 1) := by decide +kernel
theorem J_MLineRows_init_d654 : decode J_MLineRows_init.2.1 654 = .ok (.iconst 1, 1) := by decide +kernel
theorem J_MLineRows_init_d655 : decode J_MLineRows_init.2.1 655 = .ok (.sipush 2221, 3) := by decide +kernel
theorem J_MLineRows_init_d658 : decode J_MLineRows_init.2.1 658 = .ok (.iastore, 1) := by decide +kernel
theorem J_MLineRows_init_d659 : decode J_MLineRows_init.2.1 659 = .ok (.dup, 1) := by decide +kernel
theorem J_MLineRows_init_d660 : decode J_MLineRows_init.2.1 660 = .ok (.iconst 2, 1) := by decide +kernel
theorem J_MLineRows_init_d661 : decode J_MLineRows_init.2.1 661 = .ok (.sipush 2122, 3) := by decide +kernel
theorem J_MLineRows_init_d664 : decode J_MLineRows_init.2.1 664 = .ok (.iastore, 1) := by decide +kernel
theorem J_MLineRows_init_d665 : decode J_MLineRows_init.2.1 665 = .ok (.dup, 1) := by decide +kernel
theorem J_MLineRows_init_d666 : decode J_MLineRows_init.2.1 666 = .ok (.iconst 3, 1) := by decide +kernel
theorem J_MLineRows_init_d667 : decode J_MLineRows_init.2.1 667 = .ok (.sipush 1411, 3) := by decide +kernel
theorem J_MLineRows_init_d670 : decode J_MLineRows_init.2.1 670 = .ok (.iastore, 1) := by decide +kernel
theorem J_MLineRows_init_d671 : decode J_MLineRows_init.2.1 671 = .ok (.dup, 1) := by decide +kernel
theorem J_MLineRows_init_d672 : decode J_MLineRows_init.2.1 672 = .ok (.iconst 4, 1) := by decide +kernel
theorem J_MLineRows_init_d673 : decode J_MLineRows_init.2.1 673 = .ok (.sipush 1132, 3) := by decide +kernel
theorem J_MLineRows_init_d676 : decode J_MLineRows_init.2.1 676 = .ok (.iastore, 1) := by decide +kernel
theorem J_MLineRows_init_d677 : decode J_MLineRows_init.2.1 677 = .ok (.dup, 1) := by decide +kernel
theorem J_MLineRows_init_d678 : decode J_MLineRows_init.2.1 678 = .ok (.iconst 5, 1) := by decide +kernel
theorem J_MLineRows_init_d679 : decode J_MLineRows_init.2.1 679 = .ok (.sipush 1231, 3) := by decide +kernel
theorem J_MLineRows_init_d682 : decode J_MLineRows_init.2.1 682 = .ok (.iastore, 1) := by decide +kernel
theorem J_MLineRows_init_d683 : decode J_MLineRows_init.2.1 683 = .ok (.dup, 1) := by decide +kernel
theorem J_MLineRows_init_d684 : decode J_MLineRows_init.2.1 684 = .ok (.bipush 6, 2) := by decide +kernel
theorem J_MLineRows_init_d686 : decode J_MLineRows_init.2.1 686 = .ok (.sipush 1114, 3) := by decide +kernel
theorem J_MLineRows_init_d689 : decode J_MLineRows_init.2.1 689 = .ok (.iastore, 1) := by decide +kernel
theorem J_MLineRows_init_d690 : decode J_MLineRows_init.2.1 690 = .ok (.dup, 1) := by decide +kernel
theorem J_MLineRows_init_d691 : decode J_MLineRows_init.2.1 691 = .ok (.bipush 7, 2) := by decide +kernel
theorem J_MLineRows_init_d693 : decode J_MLineRows_init.2.1 693 = .ok (.sipush 1312, 3) := by decide +kernel
theorem J_MLineRows_init_d696 : decode J_MLineRows_init.2.1 696 = .ok (.iastore, 1) := by decide +kernel
theorem J_MLineRows_init_d697 : decode J_MLineRows_init.2.1 697 = .ok (.dup, 1) := by decide +kernel
theorem J_MLineRows_init_d698 : decode J_MLineRows_init.2.1 698 = .ok (.bipush 8, 2) := by decide +kernel
theorem J_MLineRows_init_d700 : decode J_MLineRows_init.2.1 700 = .ok (.sipush 1213, 3) := by decide +kernel
theorem J_MLineRows_init_d703 : decode J_MLineRows_init.2.1 703 = .ok (.iastore, 1) := by decide +kernel
theorem J_MLineRows_init_d704 : decode J_MLineRows_init.2.1 704 = .ok (.dup, 1) := by decide +kernel
theorem J_MLineRows_init_d705 : decode J_MLineRows_init.2.1 705 = .ok (.bipush 9, 2) := by decide +kernel
theorem J_MLineRows_init_d707 : decode J_MLineRows_init.2.1 707 = .ok (.sipush 3112, 3) := by decide +kernel
theorem J_MLineRows_init_d710 : decode J_MLineRows_init.2.1 710 = .ok (.iastore, 1) := by decide +kernel
theorem J_MLineRows_init_d711 : decode J_MLineRows_init.2.1 711 = .ok (.putfield 119, 3) := by decide +kernel
theorem J_MLineRows_init_d714 : decode J_MLineRows_init.2.1 714 = .ok (.aload_n 0, 1) := by decide +kernel
theorem J_MLineRows_init_d715 : decode J_MLineRows_init.2.1 715 = .ok (.bipush 10, 2) := by decide +kernel
theorem J_MLineRows_init_d717 : decode J_MLineRows_init.2.1 717 = .ok (.newarray .int, 2) := by decide +kernel
theorem J_MLineRows_init_d719 : decode J_MLineRows_init.2.1 719 = .ok (.dup, 1) := by decide +kernel
theorem J_MLineRows_init_d720 : decode J_MLineRows_init.2.1 720 = .ok (.iconst 0, 1) := by decide +kernel
theorem J_MLineRows_init_d721 : decode J_MLineRows_init.2.1 721 = .ok (.iconst 0, 1) := by decide +kernel
theorem J_MLineRows_init_d722 : decode J_MLineRows_init.2.1 722 = .ok (.iastore, 1) := by decide +kernel
theorem J_MLineRows_init_d723 : decode J_MLineRows_init.2.1 723 = .ok (.dup, 1) := by decide +kernel
theorem J_MLineRows_init_d724 : decode J_MLineRows_init.2.1 724 = .ok (.iconst 1, 1) := by decide +kernel
theorem J_MLineRows_init_d725 : decode J_MLineRows_init.2.1 725 = .ok (.bipush 11, 2) := by decide +kernel
theorem J_MLineRows_init_d727 : decode J_MLineRows_init.2.1 727 = .ok (.iastore, 1) := by decide +kernel
theorem J_MLineRows_init_d728 : decode J_MLineRows_init.2.1 728 = .ok (.dup, 1) := by decide +kernel
theorem J_MLineRows_init_d729 : decode J_MLineRows_init.2.1 729 = .ok (.iconst 2, 1) := by decide +kernel
theorem J_MLineRows_init_d730 : decode J_MLineRows_init.2.1 730 = .ok (.bipush 13, 2) := by decide +kernel
theorem J_MLineRows_init_d732 : decode J_MLineRows_init.2.1 732 = .ok (.iastore, 1) := by decide +kernel
theorem J_MLineRows_init_d733 : decode J_MLineRows_init.2.1 733 = .ok (.dup, 1) := by decide +kernel
theorem J_MLineRows_init_d734 : decode J_MLineRows_init.2.1 734 = .ok (.iconst 3, 1) := by decide +kernel
theorem J_MLineRows_init_d735 : decode J_MLineRows_init.2.1 735 = .ok (.bipush 14, 2) := by decide +kernel
theorem J_MLineRows_init_d737 : decode J_MLineRows_init.2.1 737 = .ok (.iastore, 1) := by decide +kernel
theorem J_MLineRows_init_d738 : decode J_MLineRows_init.2.1 738 = .ok (.dup, 1) := by decide +kernel
theorem J_MLineRows_init_d739 : decode J_MLineRows_init.2.1 739 = .ok (.iconst 4, 1) := by decide +kernel
theorem J_MLineRows_init_d740 : decode J_MLineRows_init.2.1 740 = .ok (.bipush 19, 2) := by decide +kernel
theorem J_MLineRows_init_d742 : decode J_MLineRows_init.2.1 742 = .ok (.iastore, 1) := by decide +kernel
theorem J_MLineRows_init_d743 : decode J_MLineRows_init.2.1 743 = .ok (.dup, 1) := by decide +kernel
theorem J_MLineRows_init_d744 : decode J_MLineRows_init.2.1 744 = .ok (.iconst 5, 1) := by decide +kernel
theorem J_MLineRows_init_d745 : decode J_MLineRows_init.2.1 745 = .ok (.bipush 25, 2) := by decide +kernel
theorem J_MLineRows_init_d747 : decode J_MLineRows_init.2.1 747 = .ok (.iastore, 1) := by decide +kernel
theorem J_MLineRows_init_d748 : decode J_MLineRows_init.2.1 748 = .ok (.dup, 1) := by decide +kernel
theorem J_MLineRows_init_d749 : decode J_MLineRows_init.2.1 749 = .ok (.bipush 6, 2) := by decide +kernel
theorem J_MLineRows_init_d751 : decode J_MLineRows_init.2.1 751 = .ok (.bipush 28, 2) := by decide +kernel
theorem J_MLineRows_init_d753 : decode J_MLineRows_init.2.1 753 = .ok (.iastore, 1) := by decide +kernel
theorem J_MLineRows_init_d754 : decode J_MLineRows_init.2.1 754 = .ok (.dup, 1) := by decide +kernel
theorem J_MLineRows_init_d755 : decode J_MLineRows_init.2.1 755 = .ok (.bipush 7, 2) := by decide +kernel
theorem J_MLineRows_init_d757 : decode J_MLineRows_init.2.1 757 = .ok (.bipush 21, 2) := by decide +kernel
theorem J_MLineRows_init_d759 : decode J_MLineRows_init.2.1 759 = .ok (.iastore, 1) := by decide +kernel
theorem J_MLineRows_init_d760 : decode J_MLineRows_init.2.1 760 = .ok (.dup, 1) := by decide +kernel
theorem J_MLineRows_init_d761 : decode J_MLineRows_init.2.1 761 = .ok (.bipush 8, 2) := by decide +kernel
theorem J_MLineRows_init_d763 : decode J_MLineRows_init.2.1 763 = .ok (.bipush 22, 2) := by decide +kernel
theorem J_MLineRows_init_d765 : decode J_MLineRows_init.2.1 765 = .ok (.iastore, 1) := by decide +kernel
theorem J_MLineRows_init_d766 : decode J_MLineRows_init.2.1 766 = .ok (.dup, 1) := by decide +kernel
theorem J_MLineRows_init_d767 : decode J_MLineRows_init.2.1 767 = .ok (.bipush 9, 2) := by decide +kernel
theorem J_MLineRows_init_d769 : decode J_MLineRows_init.2.1 769 = .ok (.bipush 26, 2) := by decide +kernel
theorem J_MLineRows_init_d771 : decode J_MLineRows_init.2.1 771 = .ok (.iastore, 1) := by decide +kernel
theorem J_MLineRows_init_d772 : decode J_MLineRows_init.2.1 772 = .ok (.putfield 122, 3) := by decide +kernel
theorem J_MLineRows_init_d775 : decode J_MLineRows_init.2.1 775 = .ok (.aload_n 0, 1) := by decide +kernel
theorem J_MLineRows_init_d776 : decode J_MLineRows_init.2.1 776 = .ok (.bipush 64, 2) := by decide +kernel
theorem J_MLineRows_init_d778 : decode J_MLineRows_init.2.1 778 = .ok (.newarray .int, 2) := by decide +kernel
theorem J_MLineRows_init_d780 : decode J_MLineRows_init.2.1 780 = .ok (.putfield 125, 3) := by decide +kernel
theorem J_MLineRows_init_d783 : decode J_MLineRows_init.2.1 783 = .ok (.aload_n 0, 1) := by decide +kernel
theorem J_MLineRows_init_d784 : decode J_MLineRows_init.2.1 784 = .ok (.sipush 198, 3) := by decide +kernel
theorem J_MLineRows_init_d787 : decode J_MLineRows_init.2.1 787 = .ok (.newarray .int, 2) := by decide +kernel
theorem J_MLineRows_init_d789 : decode J_MLineRows_init.2.1 789 = .ok (.putfield 128, 3) := by decide +kernel
theorem J_MLineRows_init_d792 : decode J_MLineRows_init.2.1 792 = .ok (.aload_n 0, 1) := by decide +kernel
theorem J_MLineRows_init_d793 : decode J_MLineRows_init.2.1 793 = .ok (.sipush 200, 3) := by decide +kernel
theorem J_MLineRows_init_d796 : decode J_MLineRows_init.2.1 796 = .ok (.newarray .int, 2) := by decide +kernel
theorem J_MLineRows_init_d798 : decode J_MLineRows_init.2.1 798 = .ok (.putfield 131, 3) := by decide +kernel
theorem J_MLineRows_init_d801 : decode J_MLineRows_init.2.1 801 = .ok (.aload_n 0, 1) := by decide +kernel
theorem J_MLineRows_init_d802 : decode J_MLineRows_init.2.1 802 = .ok (.sipush 800, 3) := by decide +kernel
theorem J_MLineRows_init_d805 : decode J_MLineRows_init.2.1 805 = .ok (.newarray .int, 2) := by decide +kernel
theorem J_MLineRows_init_d807 : decode J_MLineRows_init.2.1 807 = .ok (.putfield 134, 3) := by decide +kernel
theorem J_MLineRows_init_d810 : decode J_MLineRows_init.2.1 810 = .ok (.aload_n 0, 1) := by decide +kernel
theorem J_MLineRows_init_d811 : decode J_MLineRows_init.2.1 811 = .ok (.sipush 800, 3) := by decide +kernel
theorem J_MLineRows_init_d814 : decode J_MLineRows_init.2.1 814 = .ok (.newarray .int, 2) := by decide +kernel
theorem J_MLineRows_init_d816 : decode J_MLineRows_init.2.1 816 = .ok (.putfield 137, 3) := by decide +kernel
theorem J_MLineRows_init_d819 : decode J_MLineRows_init.2.1 819 = .ok (.aload_n 0, 1) := by decide +kernel
theorem J_MLineRows_init_d820 : decode J_MLineRows_init.2.1 820 = .ok (.sipush 140, 3) := by decide +kernel
theorem J_MLineRows_init_d823 : decode J_MLineRows_init.2.1 823 = .ok (.newarray .int, 2) := by decide +kernel
theorem J_MLineRows_init_d825 : decode J_MLineRows_init.2.1 825 = .ok (.putfield 140, 3) := by decide +kernel
theorem J_MLineRows_init_d828 : decode J_MLineRows_init.2.1 828 = .ok (.aload_n 0, 1) := by decide +kernel
theorem J_MLineRows_init_d829 : decode J_MLineRows_init.2.1 829 = .ok (.sipush 300, 3) := by decide +kernel
theorem J_MLineRows_init_d832 : decode J_MLineRows_init.2.1 832 = .ok (.newarray .int, 2) := by decide +kernel
theorem J_MLineRows_init_d834 : decode J_MLineRows_init.2.1 834 = .ok (.putfield 143, 3) := by decide +kernel
theorem J_MLineRows_init_d837 : decode J_MLineRows_init.2.1 837 = .ok (.aload_n 0, 1) := by decide +kernel
theorem J_MLineRows_init_d838 : decode J_MLineRows_init.2.1 838 = .ok (.sipush 300, 3) := by decide +kernel
theorem J_MLineRows_init_d841 : decode J_MLineRows_init.2.1 841 = .ok (.newarray .int, 2) := by decide +kernel
theorem J_MLineRows_init_d843 : decode J_MLineRows_init.2.1 843 = .ok (.putfield 146, 3) := by decide +kernel
theorem J_MLineRows_init_d846 : decode J_MLineRows_init.2.1 846 = .ok (.return_, 1) := by decide +kernel
set_option maxRecDepth 20000 in
set_option maxHeartbeats 40000000 in
theorem cs_15 {L : Nat} {xs : Nat → Int32} {dep : Nat} : ia (tb_G L xs) dep J_MLineRows_init (fun v M1 => v = none ∧ M1 = mm_383) (0, lv_args 0 [.ref 96], [], mm_235) := by
  have hS : im_St (tb_G L xs) dep J_MLineRows_init (ia (tb_G L xs) dep J_MLineRows_init (fun v M1 => v = none ∧ M1 = mm_383)) := ia_St
  have h0 : im_lk (lv_args 0 [.ref 96]) 0 = some (.ref 96) := rfl
  refine iq_aload_n hS 1 J_MLineRows_init_d0 h0 rfl ?_
  refine iq_oinit hS 4 J_MLineRows_init_d1 (by decide +kernel) (Nat.le_of_ble_eq_true rfl) rfl ?_
  refine iq_aload_n hS 5 J_MLineRows_init_d4 h0 rfl ?_
  refine iq_bipush hS 7 J_MLineRows_init_d5 (v := 106) (by decide +kernel) rfl ?_
  refine iq_newa hS 9 J_MLineRows_init_d7 (N := 106) rfl (by decide) (by decide) (by decide) (by decide) (by decide) rfl ?_
  change ia _ _ _ _ (_, _, .ref 97 :: _, mm_236)
  refine iq_dup hS 10 J_MLineRows_init_d9 rfl rfl ?_
  refine iq_iconst hS 11 J_MLineRows_init_d10 (v := 0) (by decide +kernel) rfl ?_
  refine iq_ldc hS 13 J_MLineRows_init_d11 lk_13_7 rfl ?_
  refine iq_iastore hS 14 J_MLineRows_init_d13 ⟨by decide, rfl, by decide +kernel, by decide +kernel⟩ rfl ?_
  change ia _ _ _ _ (_, _, _, mm_237)
  refine iq_dup hS 15 J_MLineRows_init_d14 rfl rfl ?_
  refine iq_iconst hS 16 J_MLineRows_init_d15 (v := 1) (by decide +kernel) rfl ?_
  refine iq_ldc hS 18 J_MLineRows_init_d16 lk_13_8 rfl ?_
  refine iq_iastore hS 19 J_MLineRows_init_d18 ⟨by decide, rfl, by decide +kernel, by decide +kernel⟩ rfl ?_
  change ia _ _ _ _ (_, _, _, mm_238)
  refine iq_dup hS 20 J_MLineRows_init_d19 rfl rfl ?_
  refine iq_iconst hS 21 J_MLineRows_init_d20 (v := 2) (by decide +kernel) rfl ?_
  refine iq_ldc hS 23 J_MLineRows_init_d21 lk_13_9 rfl ?_
  refine iq_iastore hS 24 J_MLineRows_init_d23 ⟨by decide, rfl, by decide +kernel, by decide +kernel⟩ rfl ?_
  change ia _ _ _ _ (_, _, _, mm_239)
  refine iq_dup hS 25 J_MLineRows_init_d24 rfl rfl ?_
  refine iq_iconst hS 26 J_MLineRows_init_d25 (v := 3) (by decide +kernel) rfl ?_
  refine iq_ldc hS 28 J_MLineRows_init_d26 lk_13_10 rfl ?_
  refine iq_iastore hS 29 J_MLineRows_init_d28 ⟨by decide, rfl, by decide +kernel, by decide +kernel⟩ rfl ?_
  change ia _ _ _ _ (_, _, _, mm_240)
  refine iq_dup hS 30 J_MLineRows_init_d29 rfl rfl ?_
  refine iq_iconst hS 31 J_MLineRows_init_d30 (v := 4) (by decide +kernel) rfl ?_
  refine iq_ldc hS 33 J_MLineRows_init_d31 lk_13_11 rfl ?_
  refine iq_iastore hS 34 J_MLineRows_init_d33 ⟨by decide, rfl, by decide +kernel, by decide +kernel⟩ rfl ?_
  change ia _ _ _ _ (_, _, _, mm_241)
  refine iq_dup hS 35 J_MLineRows_init_d34 rfl rfl ?_
  refine iq_iconst hS 36 J_MLineRows_init_d35 (v := 5) (by decide +kernel) rfl ?_
  refine iq_ldc hS 38 J_MLineRows_init_d36 lk_13_12 rfl ?_
  refine iq_iastore hS 39 J_MLineRows_init_d38 ⟨by decide, rfl, by decide +kernel, by decide +kernel⟩ rfl ?_
  change ia _ _ _ _ (_, _, _, mm_242)
  refine iq_dup hS 40 J_MLineRows_init_d39 rfl rfl ?_
  refine iq_bipush hS 42 J_MLineRows_init_d40 (v := 6) (by decide +kernel) rfl ?_
  refine iq_ldc hS 44 J_MLineRows_init_d42 lk_13_13 rfl ?_
  refine iq_iastore hS 45 J_MLineRows_init_d44 ⟨by decide, rfl, by decide +kernel, by decide +kernel⟩ rfl ?_
  change ia _ _ _ _ (_, _, _, mm_243)
  refine iq_dup hS 46 J_MLineRows_init_d45 rfl rfl ?_
  refine iq_bipush hS 48 J_MLineRows_init_d46 (v := 7) (by decide +kernel) rfl ?_
  refine iq_ldc hS 50 J_MLineRows_init_d48 lk_13_14 rfl ?_
  refine iq_iastore hS 51 J_MLineRows_init_d50 ⟨by decide, rfl, by decide +kernel, by decide +kernel⟩ rfl ?_
  change ia _ _ _ _ (_, _, _, mm_244)
  refine iq_dup hS 52 J_MLineRows_init_d51 rfl rfl ?_
  refine iq_bipush hS 54 J_MLineRows_init_d52 (v := 8) (by decide +kernel) rfl ?_
  refine iq_ldc hS 56 J_MLineRows_init_d54 lk_13_15 rfl ?_
  refine iq_iastore hS 57 J_MLineRows_init_d56 ⟨by decide, rfl, by decide +kernel, by decide +kernel⟩ rfl ?_
  change ia _ _ _ _ (_, _, _, mm_245)
  refine iq_dup hS 58 J_MLineRows_init_d57 rfl rfl ?_
  refine iq_bipush hS 60 J_MLineRows_init_d58 (v := 9) (by decide +kernel) rfl ?_
  refine iq_ldc hS 62 J_MLineRows_init_d60 lk_13_16 rfl ?_
  refine iq_iastore hS 63 J_MLineRows_init_d62 ⟨by decide, rfl, by decide +kernel, by decide +kernel⟩ rfl ?_
  change ia _ _ _ _ (_, _, _, mm_246)
  refine iq_dup hS 64 J_MLineRows_init_d63 rfl rfl ?_
  refine iq_bipush hS 66 J_MLineRows_init_d64 (v := 10) (by decide +kernel) rfl ?_
  refine iq_ldc hS 68 J_MLineRows_init_d66 lk_13_17 rfl ?_
  refine iq_iastore hS 69 J_MLineRows_init_d68 ⟨by decide, rfl, by decide +kernel, by decide +kernel⟩ rfl ?_
  change ia _ _ _ _ (_, _, _, mm_247)
  refine iq_dup hS 70 J_MLineRows_init_d69 rfl rfl ?_
  refine iq_bipush hS 72 J_MLineRows_init_d70 (v := 11) (by decide +kernel) rfl ?_
  refine iq_ldc hS 74 J_MLineRows_init_d72 lk_13_18 rfl ?_
  refine iq_iastore hS 75 J_MLineRows_init_d74 ⟨by decide, rfl, by decide +kernel, by decide +kernel⟩ rfl ?_
  change ia _ _ _ _ (_, _, _, mm_248)
  refine iq_dup hS 76 J_MLineRows_init_d75 rfl rfl ?_
  refine iq_bipush hS 78 J_MLineRows_init_d76 (v := 12) (by decide +kernel) rfl ?_
  refine iq_ldc hS 80 J_MLineRows_init_d78 lk_13_19 rfl ?_
  refine iq_iastore hS 81 J_MLineRows_init_d80 ⟨by decide, rfl, by decide +kernel, by decide +kernel⟩ rfl ?_
  change ia _ _ _ _ (_, _, _, mm_249)
  refine iq_dup hS 82 J_MLineRows_init_d81 rfl rfl ?_
  refine iq_bipush hS 84 J_MLineRows_init_d82 (v := 13) (by decide +kernel) rfl ?_
  refine iq_ldc hS 86 J_MLineRows_init_d84 lk_13_20 rfl ?_
  refine iq_iastore hS 87 J_MLineRows_init_d86 ⟨by decide, rfl, by decide +kernel, by decide +kernel⟩ rfl ?_
  change ia _ _ _ _ (_, _, _, mm_250)
  refine iq_dup hS 88 J_MLineRows_init_d87 rfl rfl ?_
  refine iq_bipush hS 90 J_MLineRows_init_d88 (v := 14) (by decide +kernel) rfl ?_
  refine iq_ldc hS 92 J_MLineRows_init_d90 lk_13_21 rfl ?_
  refine iq_iastore hS 93 J_MLineRows_init_d92 ⟨by decide, rfl, by decide +kernel, by decide +kernel⟩ rfl ?_
  change ia _ _ _ _ (_, _, _, mm_251)
  refine iq_dup hS 94 J_MLineRows_init_d93 rfl rfl ?_
  refine iq_bipush hS 96 J_MLineRows_init_d94 (v := 15) (by decide +kernel) rfl ?_
  refine iq_ldc hS 98 J_MLineRows_init_d96 lk_13_22 rfl ?_
  refine iq_iastore hS 99 J_MLineRows_init_d98 ⟨by decide, rfl, by decide +kernel, by decide +kernel⟩ rfl ?_
  change ia _ _ _ _ (_, _, _, mm_252)
  refine iq_dup hS 100 J_MLineRows_init_d99 rfl rfl ?_
  refine iq_bipush hS 102 J_MLineRows_init_d100 (v := 16) (by decide +kernel) rfl ?_
  refine iq_ldc hS 104 J_MLineRows_init_d102 lk_13_23 rfl ?_
  refine iq_iastore hS 105 J_MLineRows_init_d104 ⟨by decide, rfl, by decide +kernel, by decide +kernel⟩ rfl ?_
  change ia _ _ _ _ (_, _, _, mm_253)
  refine iq_dup hS 106 J_MLineRows_init_d105 rfl rfl ?_
  refine iq_bipush hS 108 J_MLineRows_init_d106 (v := 17) (by decide +kernel) rfl ?_
  refine iq_ldc hS 110 J_MLineRows_init_d108 lk_13_24 rfl ?_
  refine iq_iastore hS 111 J_MLineRows_init_d110 ⟨by decide, rfl, by decide +kernel, by decide +kernel⟩ rfl ?_
  change ia _ _ _ _ (_, _, _, mm_254)
  refine iq_dup hS 112 J_MLineRows_init_d111 rfl rfl ?_
  refine iq_bipush hS 114 J_MLineRows_init_d112 (v := 18) (by decide +kernel) rfl ?_
  refine iq_ldc hS 116 J_MLineRows_init_d114 lk_13_25 rfl ?_
  refine iq_iastore hS 117 J_MLineRows_init_d116 ⟨by decide, rfl, by decide +kernel, by decide +kernel⟩ rfl ?_
  change ia _ _ _ _ (_, _, _, mm_255)
  refine iq_dup hS 118 J_MLineRows_init_d117 rfl rfl ?_
  refine iq_bipush hS 120 J_MLineRows_init_d118 (v := 19) (by decide +kernel) rfl ?_
  refine iq_ldc hS 122 J_MLineRows_init_d120 lk_13_26 rfl ?_
  refine iq_iastore hS 123 J_MLineRows_init_d122 ⟨by decide, rfl, by decide +kernel, by decide +kernel⟩ rfl ?_
  change ia _ _ _ _ (_, _, _, mm_256)
  refine iq_dup hS 124 J_MLineRows_init_d123 rfl rfl ?_
  refine iq_bipush hS 126 J_MLineRows_init_d124 (v := 20) (by decide +kernel) rfl ?_
  refine iq_ldc hS 128 J_MLineRows_init_d126 lk_13_27 rfl ?_
  refine iq_iastore hS 129 J_MLineRows_init_d128 ⟨by decide, rfl, by decide +kernel, by decide +kernel⟩ rfl ?_
  change ia _ _ _ _ (_, _, _, mm_257)
  refine iq_dup hS 130 J_MLineRows_init_d129 rfl rfl ?_
  refine iq_bipush hS 132 J_MLineRows_init_d130 (v := 21) (by decide +kernel) rfl ?_
  refine iq_ldc hS 134 J_MLineRows_init_d132 lk_13_28 rfl ?_
  refine iq_iastore hS 135 J_MLineRows_init_d134 ⟨by decide, rfl, by decide +kernel, by decide +kernel⟩ rfl ?_
  change ia _ _ _ _ (_, _, _, mm_258)
  refine iq_dup hS 136 J_MLineRows_init_d135 rfl rfl ?_
  refine iq_bipush hS 138 J_MLineRows_init_d136 (v := 22) (by decide +kernel) rfl ?_
  refine iq_ldc hS 140 J_MLineRows_init_d138 lk_13_29 rfl ?_
  refine iq_iastore hS 141 J_MLineRows_init_d140 ⟨by decide, rfl, by decide +kernel, by decide +kernel⟩ rfl ?_
  change ia _ _ _ _ (_, _, _, mm_259)
  refine iq_dup hS 142 J_MLineRows_init_d141 rfl rfl ?_
  refine iq_bipush hS 144 J_MLineRows_init_d142 (v := 23) (by decide +kernel) rfl ?_
  refine iq_ldc hS 146 J_MLineRows_init_d144 lk_13_30 rfl ?_
  refine iq_iastore hS 147 J_MLineRows_init_d146 ⟨by decide, rfl, by decide +kernel, by decide +kernel⟩ rfl ?_
  change ia _ _ _ _ (_, _, _, mm_260)
  refine iq_dup hS 148 J_MLineRows_init_d147 rfl rfl ?_
  refine iq_bipush hS 150 J_MLineRows_init_d148 (v := 24) (by decide +kernel) rfl ?_
  refine iq_ldc hS 152 J_MLineRows_init_d150 lk_13_31 rfl ?_
  refine iq_iastore hS 153 J_MLineRows_init_d152 ⟨by decide, rfl, by decide +kernel, by decide +kernel⟩ rfl ?_
  change ia _ _ _ _ (_, _, _, mm_261)
  refine iq_dup hS 154 J_MLineRows_init_d153 rfl rfl ?_
  refine iq_bipush hS 156 J_MLineRows_init_d154 (v := 25) (by decide +kernel) rfl ?_
  refine iq_ldc hS 158 J_MLineRows_init_d156 lk_13_32 rfl ?_
  refine iq_iastore hS 159 J_MLineRows_init_d158 ⟨by decide, rfl, by decide +kernel, by decide +kernel⟩ rfl ?_
  change ia _ _ _ _ (_, _, _, mm_262)
  refine iq_dup hS 160 J_MLineRows_init_d159 rfl rfl ?_
  refine iq_bipush hS 162 J_MLineRows_init_d160 (v := 26) (by decide +kernel) rfl ?_
  refine iq_ldc hS 164 J_MLineRows_init_d162 lk_13_33 rfl ?_
  refine iq_iastore hS 165 J_MLineRows_init_d164 ⟨by decide, rfl, by decide +kernel, by decide +kernel⟩ rfl ?_
  change ia _ _ _ _ (_, _, _, mm_263)
  refine iq_dup hS 166 J_MLineRows_init_d165 rfl rfl ?_
  refine iq_bipush hS 168 J_MLineRows_init_d166 (v := 27) (by decide +kernel) rfl ?_
  refine iq_ldc hS 170 J_MLineRows_init_d168 lk_13_34 rfl ?_
  refine iq_iastore hS 171 J_MLineRows_init_d170 ⟨by decide, rfl, by decide +kernel, by decide +kernel⟩ rfl ?_
  change ia _ _ _ _ (_, _, _, mm_264)
  refine iq_dup hS 172 J_MLineRows_init_d171 rfl rfl ?_
  refine iq_bipush hS 174 J_MLineRows_init_d172 (v := 28) (by decide +kernel) rfl ?_
  refine iq_ldc hS 176 J_MLineRows_init_d174 lk_13_35 rfl ?_
  refine iq_iastore hS 177 J_MLineRows_init_d176 ⟨by decide, rfl, by decide +kernel, by decide +kernel⟩ rfl ?_
  change ia _ _ _ _ (_, _, _, mm_265)
  refine iq_dup hS 178 J_MLineRows_init_d177 rfl rfl ?_
  refine iq_bipush hS 180 J_MLineRows_init_d178 (v := 29) (by decide +kernel) rfl ?_
  refine iq_ldc hS 182 J_MLineRows_init_d180 lk_13_36 rfl ?_
  refine iq_iastore hS 183 J_MLineRows_init_d182 ⟨by decide, rfl, by decide +kernel, by decide +kernel⟩ rfl ?_
  change ia _ _ _ _ (_, _, _, mm_266)
  refine iq_dup hS 184 J_MLineRows_init_d183 rfl rfl ?_
  refine iq_bipush hS 186 J_MLineRows_init_d184 (v := 30) (by decide +kernel) rfl ?_
  refine iq_ldc hS 188 J_MLineRows_init_d186 lk_13_37 rfl ?_
  refine iq_iastore hS 189 J_MLineRows_init_d188 ⟨by decide, rfl, by decide +kernel, by decide +kernel⟩ rfl ?_
  change ia _ _ _ _ (_, _, _, mm_267)
  refine iq_dup hS 190 J_MLineRows_init_d189 rfl rfl ?_
  refine iq_bipush hS 192 J_MLineRows_init_d190 (v := 31) (by decide +kernel) rfl ?_
  refine iq_ldc hS 194 J_MLineRows_init_d192 lk_13_38 rfl ?_
  refine iq_iastore hS 195 J_MLineRows_init_d194 ⟨by decide, rfl, by decide +kernel, by decide +kernel⟩ rfl ?_
  change ia _ _ _ _ (_, _, _, mm_268)
  refine iq_dup hS 196 J_MLineRows_init_d195 rfl rfl ?_
  refine iq_bipush hS 198 J_MLineRows_init_d196 (v := 32) (by decide +kernel) rfl ?_
  refine iq_ldc hS 200 J_MLineRows_init_d198 lk_13_39 rfl ?_
  refine iq_iastore hS 201 J_MLineRows_init_d200 ⟨by decide, rfl, by decide +kernel, by decide +kernel⟩ rfl ?_
  change ia _ _ _ _ (_, _, _, mm_269)
  refine iq_dup hS 202 J_MLineRows_init_d201 rfl rfl ?_
  refine iq_bipush hS 204 J_MLineRows_init_d202 (v := 33) (by decide +kernel) rfl ?_
  refine iq_ldc hS 206 J_MLineRows_init_d204 lk_13_40 rfl ?_
  refine iq_iastore hS 207 J_MLineRows_init_d206 ⟨by decide, rfl, by decide +kernel, by decide +kernel⟩ rfl ?_
  change ia _ _ _ _ (_, _, _, mm_270)
  refine iq_dup hS 208 J_MLineRows_init_d207 rfl rfl ?_
  refine iq_bipush hS 210 J_MLineRows_init_d208 (v := 34) (by decide +kernel) rfl ?_
  refine iq_ldc hS 212 J_MLineRows_init_d210 lk_13_41 rfl ?_
  refine iq_iastore hS 213 J_MLineRows_init_d212 ⟨by decide, rfl, by decide +kernel, by decide +kernel⟩ rfl ?_
  change ia _ _ _ _ (_, _, _, mm_271)
  refine iq_dup hS 214 J_MLineRows_init_d213 rfl rfl ?_
  refine iq_bipush hS 216 J_MLineRows_init_d214 (v := 35) (by decide +kernel) rfl ?_
  refine iq_ldc hS 218 J_MLineRows_init_d216 lk_13_42 rfl ?_
  refine iq_iastore hS 219 J_MLineRows_init_d218 ⟨by decide, rfl, by decide +kernel, by decide +kernel⟩ rfl ?_
  change ia _ _ _ _ (_, _, _, mm_272)
  refine iq_dup hS 220 J_MLineRows_init_d219 rfl rfl ?_
  refine iq_bipush hS 222 J_MLineRows_init_d220 (v := 36) (by decide +kernel) rfl ?_
  refine iq_ldc hS 224 J_MLineRows_init_d222 lk_13_43 rfl ?_
  refine iq_iastore hS 225 J_MLineRows_init_d224 ⟨by decide, rfl, by decide +kernel, by decide +kernel⟩ rfl ?_
  change ia _ _ _ _ (_, _, _, mm_273)
  refine iq_dup hS 226 J_MLineRows_init_d225 rfl rfl ?_
  refine iq_bipush hS 228 J_MLineRows_init_d226 (v := 37) (by decide +kernel) rfl ?_
  refine iq_ldc hS 230 J_MLineRows_init_d228 lk_13_44 rfl ?_
  refine iq_iastore hS 231 J_MLineRows_init_d230 ⟨by decide, rfl, by decide +kernel, by decide +kernel⟩ rfl ?_
  change ia _ _ _ _ (_, _, _, mm_274)
  refine iq_dup hS 232 J_MLineRows_init_d231 rfl rfl ?_
  refine iq_bipush hS 234 J_MLineRows_init_d232 (v := 38) (by decide +kernel) rfl ?_
  refine iq_ldc hS 236 J_MLineRows_init_d234 lk_13_45 rfl ?_
  refine iq_iastore hS 237 J_MLineRows_init_d236 ⟨by decide, rfl, by decide +kernel, by decide +kernel⟩ rfl ?_
  change ia _ _ _ _ (_, _, _, mm_275)
  refine iq_dup hS 238 J_MLineRows_init_d237 rfl rfl ?_
  refine iq_bipush hS 240 J_MLineRows_init_d238 (v := 39) (by decide +kernel) rfl ?_
  refine iq_ldc hS 242 J_MLineRows_init_d240 lk_13_46 rfl ?_
  refine iq_iastore hS 243 J_MLineRows_init_d242 ⟨by decide, rfl, by decide +kernel, by decide +kernel⟩ rfl ?_
  change ia _ _ _ _ (_, _, _, mm_276)
  refine iq_dup hS 244 J_MLineRows_init_d243 rfl rfl ?_
  refine iq_bipush hS 246 J_MLineRows_init_d244 (v := 40) (by decide +kernel) rfl ?_
  refine iq_ldc hS 248 J_MLineRows_init_d246 lk_13_47 rfl ?_
  refine iq_iastore hS 249 J_MLineRows_init_d248 ⟨by decide, rfl, by decide +kernel, by decide +kernel⟩ rfl ?_
  change ia _ _ _ _ (_, _, _, mm_277)
  refine iq_dup hS 250 J_MLineRows_init_d249 rfl rfl ?_
  refine iq_bipush hS 252 J_MLineRows_init_d250 (v := 41) (by decide +kernel) rfl ?_
  refine iq_ldc hS 254 J_MLineRows_init_d252 lk_13_48 rfl ?_
  refine iq_iastore hS 255 J_MLineRows_init_d254 ⟨by decide, rfl, by decide +kernel, by decide +kernel⟩ rfl ?_
  change ia _ _ _ _ (_, _, _, mm_278)
  refine iq_dup hS 256 J_MLineRows_init_d255 rfl rfl ?_
  refine iq_bipush hS 258 J_MLineRows_init_d256 (v := 42) (by decide +kernel) rfl ?_
  refine iq_ldc hS 260 J_MLineRows_init_d258 lk_13_49 rfl ?_
  refine iq_iastore hS 261 J_MLineRows_init_d260 ⟨by decide, rfl, by decide +kernel, by decide +kernel⟩ rfl ?_
  change ia _ _ _ _ (_, _, _, mm_279)
  refine iq_dup hS 262 J_MLineRows_init_d261 rfl rfl ?_
  refine iq_bipush hS 264 J_MLineRows_init_d262 (v := 43) (by decide +kernel) rfl ?_
  refine iq_ldc hS 266 J_MLineRows_init_d264 lk_13_50 rfl ?_
  refine iq_iastore hS 267 J_MLineRows_init_d266 ⟨by decide, rfl, by decide +kernel, by decide +kernel⟩ rfl ?_
  change ia _ _ _ _ (_, _, _, mm_280)
  refine iq_dup hS 268 J_MLineRows_init_d267 rfl rfl ?_
  refine iq_bipush hS 270 J_MLineRows_init_d268 (v := 44) (by decide +kernel) rfl ?_
  refine iq_ldc hS 272 J_MLineRows_init_d270 lk_13_51 rfl ?_
  refine iq_iastore hS 273 J_MLineRows_init_d272 ⟨by decide, rfl, by decide +kernel, by decide +kernel⟩ rfl ?_
  change ia _ _ _ _ (_, _, _, mm_281)
  refine iq_dup hS 274 J_MLineRows_init_d273 rfl rfl ?_
  refine iq_bipush hS 276 J_MLineRows_init_d274 (v := 45) (by decide +kernel) rfl ?_
  refine iq_ldc hS 278 J_MLineRows_init_d276 lk_13_52 rfl ?_
  refine iq_iastore hS 279 J_MLineRows_init_d278 ⟨by decide, rfl, by decide +kernel, by decide +kernel⟩ rfl ?_
  change ia _ _ _ _ (_, _, _, mm_282)
  refine iq_dup hS 280 J_MLineRows_init_d279 rfl rfl ?_
  refine iq_bipush hS 282 J_MLineRows_init_d280 (v := 46) (by decide +kernel) rfl ?_
  refine iq_ldc hS 284 J_MLineRows_init_d282 lk_13_53 rfl ?_
  refine iq_iastore hS 285 J_MLineRows_init_d284 ⟨by decide, rfl, by decide +kernel, by decide +kernel⟩ rfl ?_
  change ia _ _ _ _ (_, _, _, mm_283)
  refine iq_dup hS 286 J_MLineRows_init_d285 rfl rfl ?_
  refine iq_bipush hS 288 J_MLineRows_init_d286 (v := 47) (by decide +kernel) rfl ?_
  refine iq_ldc hS 290 J_MLineRows_init_d288 lk_13_54 rfl ?_
  refine iq_iastore hS 291 J_MLineRows_init_d290 ⟨by decide, rfl, by decide +kernel, by decide +kernel⟩ rfl ?_
  change ia _ _ _ _ (_, _, _, mm_284)
  refine iq_dup hS 292 J_MLineRows_init_d291 rfl rfl ?_
  refine iq_bipush hS 294 J_MLineRows_init_d292 (v := 48) (by decide +kernel) rfl ?_
  refine iq_ldc hS 296 J_MLineRows_init_d294 lk_13_55 rfl ?_
  refine iq_iastore hS 297 J_MLineRows_init_d296 ⟨by decide, rfl, by decide +kernel, by decide +kernel⟩ rfl ?_
  change ia _ _ _ _ (_, _, _, mm_285)
  refine iq_dup hS 298 J_MLineRows_init_d297 rfl rfl ?_
  refine iq_bipush hS 300 J_MLineRows_init_d298 (v := 49) (by decide +kernel) rfl ?_
  refine iq_ldc hS 302 J_MLineRows_init_d300 lk_13_56 rfl ?_
  refine iq_iastore hS 303 J_MLineRows_init_d302 ⟨by decide, rfl, by decide +kernel, by decide +kernel⟩ rfl ?_
  change ia _ _ _ _ (_, _, _, mm_286)
  refine iq_dup hS 304 J_MLineRows_init_d303 rfl rfl ?_
  refine iq_bipush hS 306 J_MLineRows_init_d304 (v := 50) (by decide +kernel) rfl ?_
  refine iq_ldc hS 308 J_MLineRows_init_d306 lk_13_57 rfl ?_
  refine iq_iastore hS 309 J_MLineRows_init_d308 ⟨by decide, rfl, by decide +kernel, by decide +kernel⟩ rfl ?_
  change ia _ _ _ _ (_, _, _, mm_287)
  refine iq_dup hS 310 J_MLineRows_init_d309 rfl rfl ?_
  refine iq_bipush hS 312 J_MLineRows_init_d310 (v := 51) (by decide +kernel) rfl ?_
  refine iq_ldc hS 314 J_MLineRows_init_d312 lk_13_58 rfl ?_
  refine iq_iastore hS 315 J_MLineRows_init_d314 ⟨by decide, rfl, by decide +kernel, by decide +kernel⟩ rfl ?_
  change ia _ _ _ _ (_, _, _, mm_288)
  refine iq_dup hS 316 J_MLineRows_init_d315 rfl rfl ?_
  refine iq_bipush hS 318 J_MLineRows_init_d316 (v := 52) (by decide +kernel) rfl ?_
  refine iq_ldc hS 320 J_MLineRows_init_d318 lk_13_59 rfl ?_
  refine iq_iastore hS 321 J_MLineRows_init_d320 ⟨by decide, rfl, by decide +kernel, by decide +kernel⟩ rfl ?_
  change ia _ _ _ _ (_, _, _, mm_289)
  refine iq_dup hS 322 J_MLineRows_init_d321 rfl rfl ?_
  refine iq_bipush hS 324 J_MLineRows_init_d322 (v := 53) (by decide +kernel) rfl ?_
  refine iq_ldc hS 326 J_MLineRows_init_d324 lk_13_60 rfl ?_
  refine iq_iastore hS 327 J_MLineRows_init_d326 ⟨by decide, rfl, by decide +kernel, by decide +kernel⟩ rfl ?_
  change ia _ _ _ _ (_, _, _, mm_290)
  refine iq_dup hS 328 J_MLineRows_init_d327 rfl rfl ?_
  refine iq_bipush hS 330 J_MLineRows_init_d328 (v := 54) (by decide +kernel) rfl ?_
  refine iq_ldc hS 332 J_MLineRows_init_d330 lk_13_61 rfl ?_
  refine iq_iastore hS 333 J_MLineRows_init_d332 ⟨by decide, rfl, by decide +kernel, by decide +kernel⟩ rfl ?_
  change ia _ _ _ _ (_, _, _, mm_291)
  refine iq_dup hS 334 J_MLineRows_init_d333 rfl rfl ?_
  refine iq_bipush hS 336 J_MLineRows_init_d334 (v := 55) (by decide +kernel) rfl ?_
  refine iq_ldc hS 338 J_MLineRows_init_d336 lk_13_62 rfl ?_
  refine iq_iastore hS 339 J_MLineRows_init_d338 ⟨by decide, rfl, by decide +kernel, by decide +kernel⟩ rfl ?_
  change ia _ _ _ _ (_, _, _, mm_292)
  refine iq_dup hS 340 J_MLineRows_init_d339 rfl rfl ?_
  refine iq_bipush hS 342 J_MLineRows_init_d340 (v := 56) (by decide +kernel) rfl ?_
  refine iq_ldc hS 344 J_MLineRows_init_d342 lk_13_63 rfl ?_
  refine iq_iastore hS 345 J_MLineRows_init_d344 ⟨by decide, rfl, by decide +kernel, by decide +kernel⟩ rfl ?_
  change ia _ _ _ _ (_, _, _, mm_293)
  refine iq_dup hS 346 J_MLineRows_init_d345 rfl rfl ?_
  refine iq_bipush hS 348 J_MLineRows_init_d346 (v := 57) (by decide +kernel) rfl ?_
  refine iq_ldc hS 350 J_MLineRows_init_d348 lk_13_64 rfl ?_
  refine iq_iastore hS 351 J_MLineRows_init_d350 ⟨by decide, rfl, by decide +kernel, by decide +kernel⟩ rfl ?_
  change ia _ _ _ _ (_, _, _, mm_294)
  refine iq_dup hS 352 J_MLineRows_init_d351 rfl rfl ?_
  refine iq_bipush hS 354 J_MLineRows_init_d352 (v := 58) (by decide +kernel) rfl ?_
  refine iq_ldc hS 356 J_MLineRows_init_d354 lk_13_65 rfl ?_
  refine iq_iastore hS 357 J_MLineRows_init_d356 ⟨by decide, rfl, by decide +kernel, by decide +kernel⟩ rfl ?_
  change ia _ _ _ _ (_, _, _, mm_295)
  refine iq_dup hS 358 J_MLineRows_init_d357 rfl rfl ?_
  refine iq_bipush hS 360 J_MLineRows_init_d358 (v := 59) (by decide +kernel) rfl ?_
  refine iq_ldc hS 362 J_MLineRows_init_d360 lk_13_66 rfl ?_
  refine iq_iastore hS 363 J_MLineRows_init_d362 ⟨by decide, rfl, by decide +kernel, by decide +kernel⟩ rfl ?_
  change ia _ _ _ _ (_, _, _, mm_296)
  refine iq_dup hS 364 J_MLineRows_init_d363 rfl rfl ?_
  refine iq_bipush hS 366 J_MLineRows_init_d364 (v := 60) (by decide +kernel) rfl ?_
  refine iq_ldc hS 368 J_MLineRows_init_d366 lk_13_67 rfl ?_
  refine iq_iastore hS 369 J_MLineRows_init_d368 ⟨by decide, rfl, by decide +kernel, by decide +kernel⟩ rfl ?_
  change ia _ _ _ _ (_, _, _, mm_297)
  refine iq_dup hS 370 J_MLineRows_init_d369 rfl rfl ?_
  refine iq_bipush hS 372 J_MLineRows_init_d370 (v := 61) (by decide +kernel) rfl ?_
  refine iq_ldc hS 374 J_MLineRows_init_d372 lk_13_68 rfl ?_
  refine iq_iastore hS 375 J_MLineRows_init_d374 ⟨by decide, rfl, by decide +kernel, by decide +kernel⟩ rfl ?_
  change ia _ _ _ _ (_, _, _, mm_298)
  refine iq_dup hS 376 J_MLineRows_init_d375 rfl rfl ?_
  refine iq_bipush hS 378 J_MLineRows_init_d376 (v := 62) (by decide +kernel) rfl ?_
  refine iq_ldc hS 380 J_MLineRows_init_d378 lk_13_69 rfl ?_
  refine iq_iastore hS 381 J_MLineRows_init_d380 ⟨by decide, rfl, by decide +kernel, by decide +kernel⟩ rfl ?_
  change ia _ _ _ _ (_, _, _, mm_299)
  refine iq_dup hS 382 J_MLineRows_init_d381 rfl rfl ?_
  refine iq_bipush hS 384 J_MLineRows_init_d382 (v := 63) (by decide +kernel) rfl ?_
  refine iq_ldc hS 386 J_MLineRows_init_d384 lk_13_70 rfl ?_
  refine iq_iastore hS 387 J_MLineRows_init_d386 ⟨by decide, rfl, by decide +kernel, by decide +kernel⟩ rfl ?_
  change ia _ _ _ _ (_, _, _, mm_300)
  refine iq_dup hS 388 J_MLineRows_init_d387 rfl rfl ?_
  refine iq_bipush hS 390 J_MLineRows_init_d388 (v := 64) (by decide +kernel) rfl ?_
  refine iq_ldc hS 392 J_MLineRows_init_d390 lk_13_71 rfl ?_
  refine iq_iastore hS 393 J_MLineRows_init_d392 ⟨by decide, rfl, by decide +kernel, by decide +kernel⟩ rfl ?_
  change ia _ _ _ _ (_, _, _, mm_301)
  refine iq_dup hS 394 J_MLineRows_init_d393 rfl rfl ?_
  refine iq_bipush hS 396 J_MLineRows_init_d394 (v := 65) (by decide +kernel) rfl ?_
  refine iq_ldc hS 398 J_MLineRows_init_d396 lk_13_72 rfl ?_
  refine iq_iastore hS 399 J_MLineRows_init_d398 ⟨by decide, rfl, by decide +kernel, by decide +kernel⟩ rfl ?_
  change ia _ _ _ _ (_, _, _, mm_302)
  refine iq_dup hS 400 J_MLineRows_init_d399 rfl rfl ?_
  refine iq_bipush hS 402 J_MLineRows_init_d400 (v := 66) (by decide +kernel) rfl ?_
  refine iq_ldc hS 404 J_MLineRows_init_d402 lk_13_73 rfl ?_
  refine iq_iastore hS 405 J_MLineRows_init_d404 ⟨by decide, rfl, by decide +kernel, by decide +kernel⟩ rfl ?_
  change ia _ _ _ _ (_, _, _, mm_303)
  refine iq_dup hS 406 J_MLineRows_init_d405 rfl rfl ?_
  refine iq_bipush hS 408 J_MLineRows_init_d406 (v := 67) (by decide +kernel) rfl ?_
  refine iq_ldc hS 410 J_MLineRows_init_d408 lk_13_74 rfl ?_
  refine iq_iastore hS 411 J_MLineRows_init_d410 ⟨by decide, rfl, by decide +kernel, by decide +kernel⟩ rfl ?_
  change ia _ _ _ _ (_, _, _, mm_304)
  refine iq_dup hS 412 J_MLineRows_init_d411 rfl rfl ?_
  refine iq_bipush hS 414 J_MLineRows_init_d412 (v := 68) (by decide +kernel) rfl ?_
  refine iq_ldc hS 416 J_MLineRows_init_d414 lk_13_75 rfl ?_
  refine iq_iastore hS 417 J_MLineRows_init_d416 ⟨by decide, rfl, by decide +kernel, by decide +kernel⟩ rfl ?_
  change ia _ _ _ _ (_, _, _, mm_305)
  refine iq_dup hS 418 J_MLineRows_init_d417 rfl rfl ?_
  refine iq_bipush hS 420 J_MLineRows_init_d418 (v := 69) (by decide +kernel) rfl ?_
  refine iq_ldc hS 422 J_MLineRows_init_d420 lk_13_76 rfl ?_
  refine iq_iastore hS 423 J_MLineRows_init_d422 ⟨by decide, rfl, by decide +kernel, by decide +kernel⟩ rfl ?_
  change ia _ _ _ _ (_, _, _, mm_306)
  refine iq_dup hS 424 J_MLineRows_init_d423 rfl rfl ?_
  refine iq_bipush hS 426 J_MLineRows_init_d424 (v := 70) (by decide +kernel) rfl ?_
  refine iq_ldc hS 428 J_MLineRows_init_d426 lk_13_77 rfl ?_
  refine iq_iastore hS 429 J_MLineRows_init_d428 ⟨by decide, rfl, by decide +kernel, by decide +kernel⟩ rfl ?_
  change ia _ _ _ _ (_, _, _, mm_307)
  refine iq_dup hS 430 J_MLineRows_init_d429 rfl rfl ?_
  refine iq_bipush hS 432 J_MLineRows_init_d430 (v := 71) (by decide +kernel) rfl ?_
  refine iq_ldc hS 434 J_MLineRows_init_d432 lk_13_78 rfl ?_
  refine iq_iastore hS 435 J_MLineRows_init_d434 ⟨by decide, rfl, by decide +kernel, by decide +kernel⟩ rfl ?_
  change ia _ _ _ _ (_, _, _, mm_308)
  refine iq_dup hS 436 J_MLineRows_init_d435 rfl rfl ?_
  refine iq_bipush hS 438 J_MLineRows_init_d436 (v := 72) (by decide +kernel) rfl ?_
  refine iq_ldc hS 440 J_MLineRows_init_d438 lk_13_79 rfl ?_
  refine iq_iastore hS 441 J_MLineRows_init_d440 ⟨by decide, rfl, by decide +kernel, by decide +kernel⟩ rfl ?_
  change ia _ _ _ _ (_, _, _, mm_309)
  refine iq_dup hS 442 J_MLineRows_init_d441 rfl rfl ?_
  refine iq_bipush hS 444 J_MLineRows_init_d442 (v := 73) (by decide +kernel) rfl ?_
  refine iq_ldc hS 446 J_MLineRows_init_d444 lk_13_80 rfl ?_
  refine iq_iastore hS 447 J_MLineRows_init_d446 ⟨by decide, rfl, by decide +kernel, by decide +kernel⟩ rfl ?_
  change ia _ _ _ _ (_, _, _, mm_310)
  refine iq_dup hS 448 J_MLineRows_init_d447 rfl rfl ?_
  refine iq_bipush hS 450 J_MLineRows_init_d448 (v := 74) (by decide +kernel) rfl ?_
  refine iq_ldc hS 452 J_MLineRows_init_d450 lk_13_81 rfl ?_
  refine iq_iastore hS 453 J_MLineRows_init_d452 ⟨by decide, rfl, by decide +kernel, by decide +kernel⟩ rfl ?_
  change ia _ _ _ _ (_, _, _, mm_311)
  refine iq_dup hS 454 J_MLineRows_init_d453 rfl rfl ?_
  refine iq_bipush hS 456 J_MLineRows_init_d454 (v := 75) (by decide +kernel) rfl ?_
  refine iq_ldc hS 458 J_MLineRows_init_d456 lk_13_82 rfl ?_
  refine iq_iastore hS 459 J_MLineRows_init_d458 ⟨by decide, rfl, by decide +kernel, by decide +kernel⟩ rfl ?_
  change ia _ _ _ _ (_, _, _, mm_312)
  refine iq_dup hS 460 J_MLineRows_init_d459 rfl rfl ?_
  refine iq_bipush hS 462 J_MLineRows_init_d460 (v := 76) (by decide +kernel) rfl ?_
  refine iq_ldc hS 464 J_MLineRows_init_d462 lk_13_83 rfl ?_
  refine iq_iastore hS 465 J_MLineRows_init_d464 ⟨by decide, rfl, by decide +kernel, by decide +kernel⟩ rfl ?_
  change ia _ _ _ _ (_, _, _, mm_313)
  refine iq_dup hS 466 J_MLineRows_init_d465 rfl rfl ?_
  refine iq_bipush hS 468 J_MLineRows_init_d466 (v := 77) (by decide +kernel) rfl ?_
  refine iq_ldc hS 470 J_MLineRows_init_d468 lk_13_84 rfl ?_
  refine iq_iastore hS 471 J_MLineRows_init_d470 ⟨by decide, rfl, by decide +kernel, by decide +kernel⟩ rfl ?_
  change ia _ _ _ _ (_, _, _, mm_314)
  refine iq_dup hS 472 J_MLineRows_init_d471 rfl rfl ?_
  refine iq_bipush hS 474 J_MLineRows_init_d472 (v := 78) (by decide +kernel) rfl ?_
  refine iq_ldc hS 476 J_MLineRows_init_d474 lk_13_85 rfl ?_
  refine iq_iastore hS 477 J_MLineRows_init_d476 ⟨by decide, rfl, by decide +kernel, by decide +kernel⟩ rfl ?_
  change ia _ _ _ _ (_, _, _, mm_315)
  refine iq_dup hS 478 J_MLineRows_init_d477 rfl rfl ?_
  refine iq_bipush hS 480 J_MLineRows_init_d478 (v := 79) (by decide +kernel) rfl ?_
  refine iq_ldc hS 482 J_MLineRows_init_d480 lk_13_86 rfl ?_
  refine iq_iastore hS 483 J_MLineRows_init_d482 ⟨by decide, rfl, by decide +kernel, by decide +kernel⟩ rfl ?_
  change ia _ _ _ _ (_, _, _, mm_316)
  refine iq_dup hS 484 J_MLineRows_init_d483 rfl rfl ?_
  refine iq_bipush hS 486 J_MLineRows_init_d484 (v := 80) (by decide +kernel) rfl ?_
  refine iq_ldc hS 488 J_MLineRows_init_d486 lk_13_87 rfl ?_
  refine iq_iastore hS 489 J_MLineRows_init_d488 ⟨by decide, rfl, by decide +kernel, by decide +kernel⟩ rfl ?_
  change ia _ _ _ _ (_, _, _, mm_317)
  refine iq_dup hS 490 J_MLineRows_init_d489 rfl rfl ?_
  refine iq_bipush hS 492 J_MLineRows_init_d490 (v := 81) (by decide +kernel) rfl ?_
  refine iq_ldc hS 494 J_MLineRows_init_d492 lk_13_88 rfl ?_
  refine iq_iastore hS 495 J_MLineRows_init_d494 ⟨by decide, rfl, by decide +kernel, by decide +kernel⟩ rfl ?_
  change ia _ _ _ _ (_, _, _, mm_318)
  refine iq_dup hS 496 J_MLineRows_init_d495 rfl rfl ?_
  refine iq_bipush hS 498 J_MLineRows_init_d496 (v := 82) (by decide +kernel) rfl ?_
  refine iq_ldc hS 500 J_MLineRows_init_d498 lk_13_89 rfl ?_
  refine iq_iastore hS 501 J_MLineRows_init_d500 ⟨by decide, rfl, by decide +kernel, by decide +kernel⟩ rfl ?_
  change ia _ _ _ _ (_, _, _, mm_319)
  refine iq_dup hS 502 J_MLineRows_init_d501 rfl rfl ?_
  refine iq_bipush hS 504 J_MLineRows_init_d502 (v := 83) (by decide +kernel) rfl ?_
  refine iq_ldc hS 506 J_MLineRows_init_d504 lk_13_90 rfl ?_
  refine iq_iastore hS 507 J_MLineRows_init_d506 ⟨by decide, rfl, by decide +kernel, by decide +kernel⟩ rfl ?_
  change ia _ _ _ _ (_, _, _, mm_320)
  refine iq_dup hS 508 J_MLineRows_init_d507 rfl rfl ?_
  refine iq_bipush hS 510 J_MLineRows_init_d508 (v := 84) (by decide +kernel) rfl ?_
  refine iq_ldc hS 512 J_MLineRows_init_d510 lk_13_91 rfl ?_
  refine iq_iastore hS 513 J_MLineRows_init_d512 ⟨by decide, rfl, by decide +kernel, by decide +kernel⟩ rfl ?_
  change ia _ _ _ _ (_, _, _, mm_321)
  refine iq_dup hS 514 J_MLineRows_init_d513 rfl rfl ?_
  refine iq_bipush hS 516 J_MLineRows_init_d514 (v := 85) (by decide +kernel) rfl ?_
  refine iq_ldc hS 518 J_MLineRows_init_d516 lk_13_92 rfl ?_
  refine iq_iastore hS 519 J_MLineRows_init_d518 ⟨by decide, rfl, by decide +kernel, by decide +kernel⟩ rfl ?_
  change ia _ _ _ _ (_, _, _, mm_322)
  refine iq_dup hS 520 J_MLineRows_init_d519 rfl rfl ?_
  refine iq_bipush hS 522 J_MLineRows_init_d520 (v := 86) (by decide +kernel) rfl ?_
  refine iq_ldc hS 524 J_MLineRows_init_d522 lk_13_93 rfl ?_
  refine iq_iastore hS 525 J_MLineRows_init_d524 ⟨by decide, rfl, by decide +kernel, by decide +kernel⟩ rfl ?_
  change ia _ _ _ _ (_, _, _, mm_323)
  refine iq_dup hS 526 J_MLineRows_init_d525 rfl rfl ?_
  refine iq_bipush hS 528 J_MLineRows_init_d526 (v := 87) (by decide +kernel) rfl ?_
  refine iq_ldc hS 530 J_MLineRows_init_d528 lk_13_94 rfl ?_
  refine iq_iastore hS 531 J_MLineRows_init_d530 ⟨by decide, rfl, by decide +kernel, by decide +kernel⟩ rfl ?_
  change ia _ _ _ _ (_, _, _, mm_324)
  refine iq_dup hS 532 J_MLineRows_init_d531 rfl rfl ?_
  refine iq_bipush hS 534 J_MLineRows_init_d532 (v := 88) (by decide +kernel) rfl ?_
  refine iq_ldc hS 536 J_MLineRows_init_d534 lk_13_95 rfl ?_
  refine iq_iastore hS 537 J_MLineRows_init_d536 ⟨by decide, rfl, by decide +kernel, by decide +kernel⟩ rfl ?_
  change ia _ _ _ _ (_, _, _, mm_325)
  refine iq_dup hS 538 J_MLineRows_init_d537 rfl rfl ?_
  refine iq_bipush hS 540 J_MLineRows_init_d538 (v := 89) (by decide +kernel) rfl ?_
  refine iq_ldc hS 542 J_MLineRows_init_d540 lk_13_96 rfl ?_
  refine iq_iastore hS 543 J_MLineRows_init_d542 ⟨by decide, rfl, by decide +kernel, by decide +kernel⟩ rfl ?_
  change ia _ _ _ _ (_, _, _, mm_326)
  refine iq_dup hS 544 J_MLineRows_init_d543 rfl rfl ?_
  refine iq_bipush hS 546 J_MLineRows_init_d544 (v := 90) (by decide +kernel) rfl ?_
  refine iq_ldc hS 548 J_MLineRows_init_d546 lk_13_97 rfl ?_
  refine iq_iastore hS 549 J_MLineRows_init_d548 ⟨by decide, rfl, by decide +kernel, by decide +kernel⟩ rfl ?_
  change ia _ _ _ _ (_, _, _, mm_327)
  refine iq_dup hS 550 J_MLineRows_init_d549 rfl rfl ?_
  refine iq_bipush hS 552 J_MLineRows_init_d550 (v := 91) (by decide +kernel) rfl ?_
  refine iq_ldc hS 554 J_MLineRows_init_d552 lk_13_98 rfl ?_
  refine iq_iastore hS 555 J_MLineRows_init_d554 ⟨by decide, rfl, by decide +kernel, by decide +kernel⟩ rfl ?_
  change ia _ _ _ _ (_, _, _, mm_328)
  refine iq_dup hS 556 J_MLineRows_init_d555 rfl rfl ?_
  refine iq_bipush hS 558 J_MLineRows_init_d556 (v := 92) (by decide +kernel) rfl ?_
  refine iq_ldc hS 560 J_MLineRows_init_d558 lk_13_99 rfl ?_
  refine iq_iastore hS 561 J_MLineRows_init_d560 ⟨by decide, rfl, by decide +kernel, by decide +kernel⟩ rfl ?_
  change ia _ _ _ _ (_, _, _, mm_329)
  refine iq_dup hS 562 J_MLineRows_init_d561 rfl rfl ?_
  refine iq_bipush hS 564 J_MLineRows_init_d562 (v := 93) (by decide +kernel) rfl ?_
  refine iq_ldc hS 566 J_MLineRows_init_d564 lk_13_100 rfl ?_
  refine iq_iastore hS 567 J_MLineRows_init_d566 ⟨by decide, rfl, by decide +kernel, by decide +kernel⟩ rfl ?_
  change ia _ _ _ _ (_, _, _, mm_330)
  refine iq_dup hS 568 J_MLineRows_init_d567 rfl rfl ?_
  refine iq_bipush hS 570 J_MLineRows_init_d568 (v := 94) (by decide +kernel) rfl ?_
  refine iq_ldc hS 572 J_MLineRows_init_d570 lk_13_101 rfl ?_
  refine iq_iastore hS 573 J_MLineRows_init_d572 ⟨by decide, rfl, by decide +kernel, by decide +kernel⟩ rfl ?_
  change ia _ _ _ _ (_, _, _, mm_331)
  refine iq_dup hS 574 J_MLineRows_init_d573 rfl rfl ?_
  refine iq_bipush hS 576 J_MLineRows_init_d574 (v := 95) (by decide +kernel) rfl ?_
  refine iq_ldc hS 578 J_MLineRows_init_d576 lk_13_102 rfl ?_
  refine iq_iastore hS 579 J_MLineRows_init_d578 ⟨by decide, rfl, by decide +kernel, by decide +kernel⟩ rfl ?_
  change ia _ _ _ _ (_, _, _, mm_332)
  refine iq_dup hS 580 J_MLineRows_init_d579 rfl rfl ?_
  refine iq_bipush hS 582 J_MLineRows_init_d580 (v := 96) (by decide +kernel) rfl ?_
  refine iq_ldc hS 584 J_MLineRows_init_d582 lk_13_103 rfl ?_
  refine iq_iastore hS 585 J_MLineRows_init_d584 ⟨by decide, rfl, by decide +kernel, by decide +kernel⟩ rfl ?_
  change ia _ _ _ _ (_, _, _, mm_333)
  refine iq_dup hS 586 J_MLineRows_init_d585 rfl rfl ?_
  refine iq_bipush hS 588 J_MLineRows_init_d586 (v := 97) (by decide +kernel) rfl ?_
  refine iq_ldc hS 590 J_MLineRows_init_d588 lk_13_104 rfl ?_
  refine iq_iastore hS 591 J_MLineRows_init_d590 ⟨by decide, rfl, by decide +kernel, by decide +kernel⟩ rfl ?_
  change ia _ _ _ _ (_, _, _, mm_334)
  refine iq_dup hS 592 J_MLineRows_init_d591 rfl rfl ?_
  refine iq_bipush hS 594 J_MLineRows_init_d592 (v := 98) (by decide +kernel) rfl ?_
  refine iq_ldc hS 596 J_MLineRows_init_d594 lk_13_105 rfl ?_
  refine iq_iastore hS 597 J_MLineRows_init_d596 ⟨by decide, rfl, by decide +kernel, by decide +kernel⟩ rfl ?_
  change ia _ _ _ _ (_, _, _, mm_335)
  refine iq_dup hS 598 J_MLineRows_init_d597 rfl rfl ?_
  refine iq_bipush hS 600 J_MLineRows_init_d598 (v := 99) (by decide +kernel) rfl ?_
  refine iq_ldc hS 602 J_MLineRows_init_d600 lk_13_106 rfl ?_
  refine iq_iastore hS 603 J_MLineRows_init_d602 ⟨by decide, rfl, by decide +kernel, by decide +kernel⟩ rfl ?_
  change ia _ _ _ _ (_, _, _, mm_336)
  refine iq_dup hS 604 J_MLineRows_init_d603 rfl rfl ?_
  refine iq_bipush hS 606 J_MLineRows_init_d604 (v := 100) (by decide +kernel) rfl ?_
  refine iq_ldc hS 608 J_MLineRows_init_d606 lk_13_107 rfl ?_
  refine iq_iastore hS 609 J_MLineRows_init_d608 ⟨by decide, rfl, by decide +kernel, by decide +kernel⟩ rfl ?_
  change ia _ _ _ _ (_, _, _, mm_337)
  refine iq_dup hS 610 J_MLineRows_init_d609 rfl rfl ?_
  refine iq_bipush hS 612 J_MLineRows_init_d610 (v := 101) (by decide +kernel) rfl ?_
  refine iq_ldc hS 614 J_MLineRows_init_d612 lk_13_108 rfl ?_
  refine iq_iastore hS 615 J_MLineRows_init_d614 ⟨by decide, rfl, by decide +kernel, by decide +kernel⟩ rfl ?_
  change ia _ _ _ _ (_, _, _, mm_338)
  refine iq_dup hS 616 J_MLineRows_init_d615 rfl rfl ?_
  refine iq_bipush hS 618 J_MLineRows_init_d616 (v := 102) (by decide +kernel) rfl ?_
  refine iq_ldc hS 620 J_MLineRows_init_d618 lk_13_109 rfl ?_
  refine iq_iastore hS 621 J_MLineRows_init_d620 ⟨by decide, rfl, by decide +kernel, by decide +kernel⟩ rfl ?_
  change ia _ _ _ _ (_, _, _, mm_339)
  refine iq_dup hS 622 J_MLineRows_init_d621 rfl rfl ?_
  refine iq_bipush hS 624 J_MLineRows_init_d622 (v := 103) (by decide +kernel) rfl ?_
  refine iq_ldc hS 626 J_MLineRows_init_d624 lk_13_110 rfl ?_
  refine iq_iastore hS 627 J_MLineRows_init_d626 ⟨by decide, rfl, by decide +kernel, by decide +kernel⟩ rfl ?_
  change ia _ _ _ _ (_, _, _, mm_340)
  refine iq_dup hS 628 J_MLineRows_init_d627 rfl rfl ?_
  refine iq_bipush hS 630 J_MLineRows_init_d628 (v := 104) (by decide +kernel) rfl ?_
  refine iq_ldc hS 632 J_MLineRows_init_d630 lk_13_111 rfl ?_
  refine iq_iastore hS 633 J_MLineRows_init_d632 ⟨by decide, rfl, by decide +kernel, by decide +kernel⟩ rfl ?_
  change ia _ _ _ _ (_, _, _, mm_341)
  refine iq_dup hS 634 J_MLineRows_init_d633 rfl rfl ?_
  refine iq_bipush hS 636 J_MLineRows_init_d634 (v := 105) (by decide +kernel) rfl ?_
  refine iq_ldc hS 638 J_MLineRows_init_d636 lk_13_112 rfl ?_
  refine iq_iastore hS 639 J_MLineRows_init_d638 ⟨by decide, rfl, by decide +kernel, by decide +kernel⟩ rfl ?_
  change ia _ _ _ _ (_, _, _, mm_342)
  refine iq_putR hS 642 J_MLineRows_init_d639 lf_13_113 (Or.inr ⟨rfl, rfl⟩) (Or.inr ⟨_, rfl⟩) ⟨by decide, rfl⟩ rfl ?_
  change ia _ _ _ _ (_, _, _, mm_343)
  refine iq_aload_n hS 643 J_MLineRows_init_d642 h0 rfl ?_
  refine iq_bipush hS 645 J_MLineRows_init_d643 (v := 10) (by decide +kernel) rfl ?_
  refine iq_newa hS 647 J_MLineRows_init_d645 (N := 10) rfl (by decide) (by decide) (by decide) (by decide) (by decide) rfl ?_
  change ia _ _ _ _ (_, _, .ref 98 :: _, mm_344)
  refine iq_dup hS 648 J_MLineRows_init_d647 rfl rfl ?_
  refine iq_iconst hS 649 J_MLineRows_init_d648 (v := 0) (by decide +kernel) rfl ?_
  refine iq_sipush hS 652 J_MLineRows_init_d649 (v := 3211) (by decide +kernel) rfl ?_
  refine iq_iastore hS 653 J_MLineRows_init_d652 ⟨by decide, rfl, by decide +kernel, by decide +kernel⟩ rfl ?_
  change ia _ _ _ _ (_, _, _, mm_345)
  refine iq_dup hS 654 J_MLineRows_init_d653 rfl rfl ?_
  refine iq_iconst hS 655 J_MLineRows_init_d654 (v := 1) (by decide +kernel) rfl ?_
  refine iq_sipush hS 658 J_MLineRows_init_d655 (v := 2221) (by decide +kernel) rfl ?_
  refine iq_iastore hS 659 J_MLineRows_init_d658 ⟨by decide, rfl, by decide +kernel, by decide +kernel⟩ rfl ?_
  change ia _ _ _ _ (_, _, _, mm_346)
  refine iq_dup hS 660 J_MLineRows_init_d659 rfl rfl ?_
  refine iq_iconst hS 661 J_MLineRows_init_d660 (v := 2) (by decide +kernel) rfl ?_
  refine iq_sipush hS 664 J_MLineRows_init_d661 (v := 2122) (by decide +kernel) rfl ?_
  refine iq_iastore hS 665 J_MLineRows_init_d664 ⟨by decide, rfl, by decide +kernel, by decide +kernel⟩ rfl ?_
  change ia _ _ _ _ (_, _, _, mm_347)
  refine iq_dup hS 666 J_MLineRows_init_d665 rfl rfl ?_
  refine iq_iconst hS 667 J_MLineRows_init_d666 (v := 3) (by decide +kernel) rfl ?_
  refine iq_sipush hS 670 J_MLineRows_init_d667 (v := 1411) (by decide +kernel) rfl ?_
  refine iq_iastore hS 671 J_MLineRows_init_d670 ⟨by decide, rfl, by decide +kernel, by decide +kernel⟩ rfl ?_
  change ia _ _ _ _ (_, _, _, mm_348)
  refine iq_dup hS 672 J_MLineRows_init_d671 rfl rfl ?_
  refine iq_iconst hS 673 J_MLineRows_init_d672 (v := 4) (by decide +kernel) rfl ?_
  refine iq_sipush hS 676 J_MLineRows_init_d673 (v := 1132) (by decide +kernel) rfl ?_
  refine iq_iastore hS 677 J_MLineRows_init_d676 ⟨by decide, rfl, by decide +kernel, by decide +kernel⟩ rfl ?_
  change ia _ _ _ _ (_, _, _, mm_349)
  refine iq_dup hS 678 J_MLineRows_init_d677 rfl rfl ?_
  refine iq_iconst hS 679 J_MLineRows_init_d678 (v := 5) (by decide +kernel) rfl ?_
  refine iq_sipush hS 682 J_MLineRows_init_d679 (v := 1231) (by decide +kernel) rfl ?_
  refine iq_iastore hS 683 J_MLineRows_init_d682 ⟨by decide, rfl, by decide +kernel, by decide +kernel⟩ rfl ?_
  change ia _ _ _ _ (_, _, _, mm_350)
  refine iq_dup hS 684 J_MLineRows_init_d683 rfl rfl ?_
  refine iq_bipush hS 686 J_MLineRows_init_d684 (v := 6) (by decide +kernel) rfl ?_
  refine iq_sipush hS 689 J_MLineRows_init_d686 (v := 1114) (by decide +kernel) rfl ?_
  refine iq_iastore hS 690 J_MLineRows_init_d689 ⟨by decide, rfl, by decide +kernel, by decide +kernel⟩ rfl ?_
  change ia _ _ _ _ (_, _, _, mm_351)
  refine iq_dup hS 691 J_MLineRows_init_d690 rfl rfl ?_
  refine iq_bipush hS 693 J_MLineRows_init_d691 (v := 7) (by decide +kernel) rfl ?_
  refine iq_sipush hS 696 J_MLineRows_init_d693 (v := 1312) (by decide +kernel) rfl ?_
  refine iq_iastore hS 697 J_MLineRows_init_d696 ⟨by decide, rfl, by decide +kernel, by decide +kernel⟩ rfl ?_
  change ia _ _ _ _ (_, _, _, mm_352)
  refine iq_dup hS 698 J_MLineRows_init_d697 rfl rfl ?_
  refine iq_bipush hS 700 J_MLineRows_init_d698 (v := 8) (by decide +kernel) rfl ?_
  refine iq_sipush hS 703 J_MLineRows_init_d700 (v := 1213) (by decide +kernel) rfl ?_
  refine iq_iastore hS 704 J_MLineRows_init_d703 ⟨by decide, rfl, by decide +kernel, by decide +kernel⟩ rfl ?_
  change ia _ _ _ _ (_, _, _, mm_353)
  refine iq_dup hS 705 J_MLineRows_init_d704 rfl rfl ?_
  refine iq_bipush hS 707 J_MLineRows_init_d705 (v := 9) (by decide +kernel) rfl ?_
  refine iq_sipush hS 710 J_MLineRows_init_d707 (v := 3112) (by decide +kernel) rfl ?_
  refine iq_iastore hS 711 J_MLineRows_init_d710 ⟨by decide, rfl, by decide +kernel, by decide +kernel⟩ rfl ?_
  change ia _ _ _ _ (_, _, _, mm_354)
  refine iq_putR hS 714 J_MLineRows_init_d711 lf_13_119 (Or.inr ⟨rfl, rfl⟩) (Or.inr ⟨_, rfl⟩) ⟨by decide, rfl⟩ rfl ?_
  change ia _ _ _ _ (_, _, _, mm_355)
  refine iq_aload_n hS 715 J_MLineRows_init_d714 h0 rfl ?_
  refine iq_bipush hS 717 J_MLineRows_init_d715 (v := 10) (by decide +kernel) rfl ?_
  refine iq_newa hS 719 J_MLineRows_init_d717 (N := 10) rfl (by decide) (by decide) (by decide) (by decide) (by decide) rfl ?_
  change ia _ _ _ _ (_, _, .ref 99 :: _, mm_356)
  refine iq_dup hS 720 J_MLineRows_init_d719 rfl rfl ?_
  refine iq_iconst hS 721 J_MLineRows_init_d720 (v := 0) (by decide +kernel) rfl ?_
  refine iq_iconst hS 722 J_MLineRows_init_d721 (v := 0) (by decide +kernel) rfl ?_
  refine iq_iastore hS 723 J_MLineRows_init_d722 ⟨by decide, rfl, by decide +kernel, by decide +kernel⟩ rfl ?_
  change ia _ _ _ _ (_, _, _, mm_357)
  refine iq_dup hS 724 J_MLineRows_init_d723 rfl rfl ?_
  refine iq_iconst hS 725 J_MLineRows_init_d724 (v := 1) (by decide +kernel) rfl ?_
  refine iq_bipush hS 727 J_MLineRows_init_d725 (v := 11) (by decide +kernel) rfl ?_
  refine iq_iastore hS 728 J_MLineRows_init_d727 ⟨by decide, rfl, by decide +kernel, by decide +kernel⟩ rfl ?_
  change ia _ _ _ _ (_, _, _, mm_358)
  refine iq_dup hS 729 J_MLineRows_init_d728 rfl rfl ?_
  refine iq_iconst hS 730 J_MLineRows_init_d729 (v := 2) (by decide +kernel) rfl ?_
  refine iq_bipush hS 732 J_MLineRows_init_d730 (v := 13) (by decide +kernel) rfl ?_
  refine iq_iastore hS 733 J_MLineRows_init_d732 ⟨by decide, rfl, by decide +kernel, by decide +kernel⟩ rfl ?_
  change ia _ _ _ _ (_, _, _, mm_359)
  refine iq_dup hS 734 J_MLineRows_init_d733 rfl rfl ?_
  refine iq_iconst hS 735 J_MLineRows_init_d734 (v := 3) (by decide +kernel) rfl ?_
  refine iq_bipush hS 737 J_MLineRows_init_d735 (v := 14) (by decide +kernel) rfl ?_
  refine iq_iastore hS 738 J_MLineRows_init_d737 ⟨by decide, rfl, by decide +kernel, by decide +kernel⟩ rfl ?_
  change ia _ _ _ _ (_, _, _, mm_360)
  refine iq_dup hS 739 J_MLineRows_init_d738 rfl rfl ?_
  refine iq_iconst hS 740 J_MLineRows_init_d739 (v := 4) (by decide +kernel) rfl ?_
  refine iq_bipush hS 742 J_MLineRows_init_d740 (v := 19) (by decide +kernel) rfl ?_
  refine iq_iastore hS 743 J_MLineRows_init_d742 ⟨by decide, rfl, by decide +kernel, by decide +kernel⟩ rfl ?_
  change ia _ _ _ _ (_, _, _, mm_361)
  refine iq_dup hS 744 J_MLineRows_init_d743 rfl rfl ?_
  refine iq_iconst hS 745 J_MLineRows_init_d744 (v := 5) (by decide +kernel) rfl ?_
  refine iq_bipush hS 747 J_MLineRows_init_d745 (v := 25) (by decide +kernel) rfl ?_
  refine iq_iastore hS 748 J_MLineRows_init_d747 ⟨by decide, rfl, by decide +kernel, by decide +kernel⟩ rfl ?_
  change ia _ _ _ _ (_, _, _, mm_362)
  refine iq_dup hS 749 J_MLineRows_init_d748 rfl rfl ?_
  refine iq_bipush hS 751 J_MLineRows_init_d749 (v := 6) (by decide +kernel) rfl ?_
  refine iq_bipush hS 753 J_MLineRows_init_d751 (v := 28) (by decide +kernel) rfl ?_
  refine iq_iastore hS 754 J_MLineRows_init_d753 ⟨by decide, rfl, by decide +kernel, by decide +kernel⟩ rfl ?_
  change ia _ _ _ _ (_, _, _, mm_363)
  refine iq_dup hS 755 J_MLineRows_init_d754 rfl rfl ?_
  refine iq_bipush hS 757 J_MLineRows_init_d755 (v := 7) (by decide +kernel) rfl ?_
  refine iq_bipush hS 759 J_MLineRows_init_d757 (v := 21) (by decide +kernel) rfl ?_
  refine iq_iastore hS 760 J_MLineRows_init_d759 ⟨by decide, rfl, by decide +kernel, by decide +kernel⟩ rfl ?_
  change ia _ _ _ _ (_, _, _, mm_364)
  refine iq_dup hS 761 J_MLineRows_init_d760 rfl rfl ?_
  refine iq_bipush hS 763 J_MLineRows_init_d761 (v := 8) (by decide +kernel) rfl ?_
  refine iq_bipush hS 765 J_MLineRows_init_d763 (v := 22) (by decide +kernel) rfl ?_
  refine iq_iastore hS 766 J_MLineRows_init_d765 ⟨by decide, rfl, by decide +kernel, by decide +kernel⟩ rfl ?_
  change ia _ _ _ _ (_, _, _, mm_365)
  refine iq_dup hS 767 J_MLineRows_init_d766 rfl rfl ?_
  refine iq_bipush hS 769 J_MLineRows_init_d767 (v := 9) (by decide +kernel) rfl ?_
  refine iq_bipush hS 771 J_MLineRows_init_d769 (v := 26) (by decide +kernel) rfl ?_
  refine iq_iastore hS 772 J_MLineRows_init_d771 ⟨by decide, rfl, by decide +kernel, by decide +kernel⟩ rfl ?_
  change ia _ _ _ _ (_, _, _, mm_366)
  refine iq_putR hS 775 J_MLineRows_init_d772 lf_13_122 (Or.inr ⟨rfl, rfl⟩) (Or.inr ⟨_, rfl⟩) ⟨by decide, rfl⟩ rfl ?_
  change ia _ _ _ _ (_, _, _, mm_367)
  refine iq_aload_n hS 776 J_MLineRows_init_d775 h0 rfl ?_
  refine iq_bipush hS 778 J_MLineRows_init_d776 (v := 64) (by decide +kernel) rfl ?_
  refine iq_newa hS 780 J_MLineRows_init_d778 (N := 64) rfl (by decide) (by decide) (by decide) (by decide) (by decide) rfl ?_
  change ia _ _ _ _ (_, _, .ref 100 :: _, mm_368)
  refine iq_putR hS 783 J_MLineRows_init_d780 lf_13_125 (Or.inr ⟨rfl, rfl⟩) (Or.inr ⟨_, rfl⟩) ⟨by decide, rfl⟩ rfl ?_
  change ia _ _ _ _ (_, _, _, mm_369)
  refine iq_aload_n hS 784 J_MLineRows_init_d783 h0 rfl ?_
  refine iq_sipush hS 787 J_MLineRows_init_d784 (v := 198) (by decide +kernel) rfl ?_
  refine iq_newa hS 789 J_MLineRows_init_d787 (N := 198) rfl (by decide) (by decide) (by decide) (by decide) (by decide) rfl ?_
  change ia _ _ _ _ (_, _, .ref 101 :: _, mm_370)
  refine iq_putR hS 792 J_MLineRows_init_d789 lf_13_128 (Or.inr ⟨rfl, rfl⟩) (Or.inr ⟨_, rfl⟩) ⟨by decide, rfl⟩ rfl ?_
  change ia _ _ _ _ (_, _, _, mm_371)
  refine iq_aload_n hS 793 J_MLineRows_init_d792 h0 rfl ?_
  refine iq_sipush hS 796 J_MLineRows_init_d793 (v := 200) (by decide +kernel) rfl ?_
  refine iq_newa hS 798 J_MLineRows_init_d796 (N := 200) rfl (by decide) (by decide) (by decide) (by decide) (by decide) rfl ?_
  change ia _ _ _ _ (_, _, .ref 102 :: _, mm_372)
  refine iq_putR hS 801 J_MLineRows_init_d798 lf_13_131 (Or.inr ⟨rfl, rfl⟩) (Or.inr ⟨_, rfl⟩) ⟨by decide, rfl⟩ rfl ?_
  change ia _ _ _ _ (_, _, _, mm_373)
  refine iq_aload_n hS 802 J_MLineRows_init_d801 h0 rfl ?_
  refine iq_sipush hS 805 J_MLineRows_init_d802 (v := 800) (by decide +kernel) rfl ?_
  refine iq_newa hS 807 J_MLineRows_init_d805 (N := 800) rfl (by decide) (by decide) (by decide) (by decide) (by decide) rfl ?_
  change ia _ _ _ _ (_, _, .ref 103 :: _, mm_374)
  refine iq_putR hS 810 J_MLineRows_init_d807 lf_13_134 (Or.inr ⟨rfl, rfl⟩) (Or.inr ⟨_, rfl⟩) ⟨by decide, rfl⟩ rfl ?_
  change ia _ _ _ _ (_, _, _, mm_375)
  refine iq_aload_n hS 811 J_MLineRows_init_d810 h0 rfl ?_
  refine iq_sipush hS 814 J_MLineRows_init_d811 (v := 800) (by decide +kernel) rfl ?_
  refine iq_newa hS 816 J_MLineRows_init_d814 (N := 800) rfl (by decide) (by decide) (by decide) (by decide) (by decide) rfl ?_
  change ia _ _ _ _ (_, _, .ref 104 :: _, mm_376)
  refine iq_putR hS 819 J_MLineRows_init_d816 lf_13_137 (Or.inr ⟨rfl, rfl⟩) (Or.inr ⟨_, rfl⟩) ⟨by decide, rfl⟩ rfl ?_
  change ia _ _ _ _ (_, _, _, mm_377)
  refine iq_aload_n hS 820 J_MLineRows_init_d819 h0 rfl ?_
  refine iq_sipush hS 823 J_MLineRows_init_d820 (v := 140) (by decide +kernel) rfl ?_
  refine iq_newa hS 825 J_MLineRows_init_d823 (N := 140) rfl (by decide) (by decide) (by decide) (by decide) (by decide) rfl ?_
  change ia _ _ _ _ (_, _, .ref 105 :: _, mm_378)
  refine iq_putR hS 828 J_MLineRows_init_d825 lf_13_140 (Or.inr ⟨rfl, rfl⟩) (Or.inr ⟨_, rfl⟩) ⟨by decide, rfl⟩ rfl ?_
  change ia _ _ _ _ (_, _, _, mm_379)
  refine iq_aload_n hS 829 J_MLineRows_init_d828 h0 rfl ?_
  refine iq_sipush hS 832 J_MLineRows_init_d829 (v := 300) (by decide +kernel) rfl ?_
  refine iq_newa hS 834 J_MLineRows_init_d832 (N := 300) rfl (by decide) (by decide) (by decide) (by decide) (by decide) rfl ?_
  change ia _ _ _ _ (_, _, .ref 106 :: _, mm_380)
  refine iq_putR hS 837 J_MLineRows_init_d834 lf_13_143 (Or.inr ⟨rfl, rfl⟩) (Or.inr ⟨_, rfl⟩) ⟨by decide, rfl⟩ rfl ?_
  change ia _ _ _ _ (_, _, _, mm_381)
  refine iq_aload_n hS 838 J_MLineRows_init_d837 h0 rfl ?_
  refine iq_sipush hS 841 J_MLineRows_init_d838 (v := 300) (by decide +kernel) rfl ?_
  refine iq_newa hS 843 J_MLineRows_init_d841 (N := 300) rfl (by decide) (by decide) (by decide) (by decide) (by decide) rfl ?_
  change ia _ _ _ _ (_, _, .ref 107 :: _, mm_382)
  refine iq_putR hS 846 J_MLineRows_init_d843 lf_13_146 (Or.inr ⟨rfl, rfl⟩) (Or.inr ⟨_, rfl⟩) ⟨by decide, rfl⟩ rfl ?_
  change ia _ _ _ _ (_, _, _, mm_383)
  exact iq_ret J_MLineRows_init_d846 rfl ⟨rfl, rfl⟩
theorem J_MSquareRows_init_d0 : decode J_MSquareRows_init.2.1 0 = .ok (.aload_n 0, 1) := by decide +kernel
theorem J_MSquareRows_init_d1 : decode J_MSquareRows_init.2.1 1 = .ok (.invokespecial 1, 3) := by decide +kernel
theorem J_MSquareRows_init_d4 : decode J_MSquareRows_init.2.1 4 = .ok (.aload_n 0, 1) := by decide +kernel
theorem J_MSquareRows_init_d5 : decode J_MSquareRows_init.2.1 5 = .ok (.sipush 160, 3) := by decide +kernel
theorem J_MSquareRows_init_d8 : decode J_MSquareRows_init.2.1 8 = .ok (.newarray .int, 2) := by decide +kernel
theorem J_MSquareRows_init_d10 : decode J_MSquareRows_init.2.1 10 = .ok (.dup, 1) := by decide +kernel
theorem J_MSquareRows_init_d11 : decode J_MSquareRows_init.2.1 11 = .ok (.iconst 0, 1) := by decide +kernel
theorem J_MSquareRows_init_d12 : decode J_MSquareRows_init.2.1 12 = .ok (.bipush 7, 2) := by decide +kernel
theorem J_MSquareRows_init_d14 : decode J_MSquareRows_init.2.1 14 = .ok (.iastore, 1) := by decide +kernel
theorem J_MSquareRows_init_d15 : decode J_MSquareRows_init.2.1 15 = .ok (.dup, 1) := by decide +kernel
theorem J_MSquareRows_init_d16 : decode J_MSquareRows_init.2.1 16 = .ok (.iconst 1, 1) := by decide +kernel
theorem J_MSquareRows_init_d17 : decode J_MSquareRows_init.2.1 17 = .ok (.bipush 10, 2) := by decide +kernel
theorem J_MSquareRows_init_d19 : decode J_MSquareRows_init.2.1 19 = .ok (.iastore, 1) := by decide +kernel
theorem J_MSquareRows_init_d20 : decode J_MSquareRows_init.2.1 20 = .ok (.dup, 1) := by decide +kernel
theorem J_MSquareRows_init_d21 : decode J_MSquareRows_init.2.1 21 = .ok (.iconst 2, 1) := by decide +kernel
theorem J_MSquareRows_init_d22 : decode J_MSquareRows_init.2.1 22 = .ok (.bipush 15, 2) := by decide +kernel
theorem J_MSquareRows_init_d24 : decode J_MSquareRows_init.2.1 24 = .ok (.iastore, 1) := by decide +kernel
theorem J_MSquareRows_init_d25 : decode J_MSquareRows_init.2.1 25 = .ok (.dup, 1) := by decide +kernel
theorem J_MSquareRows_init_d26 : decode J_MSquareRows_init.2.1 26 = .ok (.iconst 3, 1) := by decide +kernel
theorem J_MSquareRows_init_d27 : decode J_MSquareRows_init.2.1 27 = .ok (.bipush 20, 2) := by decide +kernel
theorem J_MSquareRows_init_d29 : decode J_MSquareRows_init.2.1 29 = .ok (.iastore, 1) := by decide +kernel
theorem J_MSquareRows_init_d30 : decode J_MSquareRows_init.2.1 30 = .ok (.dup, 1) := by decide +kernel
theorem J_MSquareRows_init_d31 : decode J_MSquareRows_init.2.1 31 = .ok (.iconst 4, 1) := by decide +kernel
theorem J_MSquareRows_init_d32 : decode J_MSquareRows_init.2.1 32 = .ok (.bipush 26, 2) := by decide +kernel
theorem J_MSquareRows_init_d34 : decode J_MSquareRows_init.2.1 34 = .ok (.iastore, 1) := by decide +kernel
theorem J_MSquareRows_init_d35 : decode J_MSquareRows_init.2.1 35 = .ok (.dup, 1) := by decide +kernel
theorem J_MSquareRows_init_d36 : decode J_MSquareRows_init.2.1 36 = .ok (.iconst 5, 1) := by decide +kernel
theorem J_MSquareRows_init_d37 : decode J_MSquareRows_init.2.1 37 = .ok (.bipush 18, 2) := by decide +kernel
theorem J_MSquareRows_init_d39 : decode J_MSquareRows_init.2.1 39 = .ok (.iastore, 1) := by decide +kernel
theorem J_MSquareRows_init_d40 : decode J_MSquareRows_init.2.1 40 = .ok (.dup, 1) := by decide +kernel
theorem J_MSquareRows_init_d41 : decode J_MSquareRows_init.2.1 41 = .ok (.bipush 6, 2) := by decide +kernel
theorem J_MSquareRows_init_d43 : decode J_MSquareRows_init.2.1 43 = .ok (.bipush 20, 2) := by decide +kernel
theorem J_MSquareRows_init_d45 : decode J_MSquareRows_init.2.1 45 = .ok (.iastore, 1) := by decide +kernel
theorem J_MSquareRows_init_d46 : decode J_MSquareRows_init.2.1 46 = .ok (.dup, 1) := by decide +kernel
theorem J_MSquareRows_init_d47 : decode J_MSquareRows_init.2.1 47 = .ok (.bipush 7, 2) := by decide +kernel
theorem J_MSquareRows_init_d49 : decode J_MSquareRows_init.2.1 49 = .ok (.bipush 24, 2) := by decide +kernel
theorem J_MSquareRows_init_d51 : decode J_MSquareRows_init.2.1 51 = .ok (.iastore, 1) := by decide +kernel
theorem J_MSquareRows_init_d52 : decode J_MSquareRows_init.2.1 52 = .ok (.dup, 1) := by decide +kernel
theorem J_MSquareRows_init_d53 : decode J_MSquareRows_init.2.1 53 = .ok (.bipush 8, 2) := by decide +kernel
theorem J_MSquareRows_init_d55 : decode J_MSquareRows_init.2.1 55 = .ok (.bipush 30, 2) := by decide +kernel
theorem J_MSquareRows_init_d57 : decode J_MSquareRows_init.2.1 57 = .ok (.iastore, 1) := by decide +kernel
theorem J_MSquareRows_init_d58 : decode J_MSquareRows_init.2.1 58 = .ok (.dup, 1) := by decide +kernel
theorem J_MSquareRows_init_d59 : decode J_MSquareRows_init.2.1 59 = .ok (.bipush 9, 2) := by decide +kernel
theorem J_MSquareRows_init_d61 : decode J_MSquareRows_init.2.1 61 = .ok (.bipush 18, 2) := by decide +kernel
theorem J_MSquareRows_init_d63 : decode J_MSquareRows_init.2.1 63 = .ok (.iastore, 1) := by decide +kernel
theorem J_MSquareRows_init_d64 : decode J_MSquareRows_init.2.1 64 = .ok (.dup, 1) := by decide +kernel
theorem J_MSquareRows_init_d65 : decode J_MSquareRows_init.2.1 65 = .ok (.bipush 10, 2) := by decide +kernel
theorem J_MSquareRows_init_d67 : decode J_MSquareRows_init.2.1 67 = .ok (.bipush 20, 2) := by decide +kernel
theorem J_MSquareRows_init_d69 : decode J_MSquareRows_init.2.1 69 = .ok (.iastore, 1) := by decide +kernel
theorem J_MSquareRows_init_d70 : decode J_MSquareRows_init.2.1 70 = .ok (.dup, 1) := by decide +kernel
theorem J_MSquareRows_init_d71 : decode J_MSquareRows_init.2.1 71 = .ok (.bipush 11, 2) := by decide +kernel
theorem J_MSquareRows_init_d73 : decode J_MSquareRows_init.2.1 73 = .ok (.bipush 24, 2) := by decide +kernel
theorem J_MSquareRows_init_d75 : decode J_MSquareRows_init.2.1 75 = .ok (.iastore, 1) := by decide +kernel
theorem J_MSquareRows_init_d76 : decode J_MSquareRows_init.2.1 76 = .ok (.dup, 1) := by decide +kernel
theorem J_MSquareRows_init_d77 : decode J_MSquareRows_init.2.1 77 = .ok (.bipush 12, 2) := by decide +kernel
theorem J_MSquareRows_init_d79 : decode J_MSquareRows_init.2.1 79 = .ok (.bipush 26, 2) := by decide +kernel
theorem J_MSquareRows_init_d81 : decode J_MSquareRows_init.2.1 81 = .ok (.iastore, 1) := by decide +kernel
theorem J_MSquareRows_init_d82 : decode J_MSquareRows_init.2.1 82 = .ok (.dup, 1) := by decide +kernel
theorem J_MSquareRows_init_d83 : decode J_MSquareRows_init.2.1 83 = .ok (.bipush 13, 2) := by decide +kernel
theorem J_MSquareRows_init_d85 : decode J_MSquareRows_init.2.1 85 = .ok (.bipush 30, 2) := by decide +kernel
theorem J_MSquareRows_init_d87 : decode J_MSquareRows_init.2.1 87 = .ok (.iastore, 1) := by decide +kernel
theorem J_MSquareRows_init_d88 : decode J_MSquareRows_init.2.1 88 = .ok (.dup, 1) := by decide +kernel
theorem J_MSquareRows_init_d89 : decode J_MSquareRows_init.2.1 89 = .ok (.bipush 14, 2) := by decide +kernel
theorem J_MSquareRows_init_d91 : decode J_MSquareRows_init.2.1 91 = .ok (.bipush 22, 2) := by decide +kernel
theorem J_MSquareRows_init_d93 : decode J_MSquareRows_init.2.1 93 = .ok (.iastore, 1) := by decide +kernel
theorem J_MSquareRows_init_d94 : decode J_MSquareRows_init.2.1 94 = .ok (.dup, 1) := by decide +kernel
theorem J_MSquareRows_init_d95 : decode J_MSquareRows_init.2.1 95 = .ok (.bipush 15, 2) := by decide +kernel
theorem J_MSquareRows_init_d97 : decode J_MSquareRows_init.2.1 97 = .ok (.bipush 24, 2) := by decide +kernel
theorem J_MSquareRows_init_d99 : decode J_MSquareRows_init.2.1 99 = .ok (.iastore, 1) := by decide +kernel
theorem J_MSquareRows_init_d100 : decode J_MSquareRows_init.2.1 100 = .ok (.dup, 1) := by decide +kernel
theorem J_MSquareRows_init_d101 : decode J_MSquareRows_init.2.1 101 = .ok (.bipush 16, 2) := by decide +kernel
theorem J_MSquareRows_init_d103 : decode J_MSquareRows_init.2.1 103 = .ok (.bipush 28, 2) := by decide +kernel
theorem J_MSquareRows_init_d105 : decode J_MSquareRows_init.2.1 105 = .ok (.iastore, 1) := by decide +kernel
theorem J_MSquareRows_init_d106 : decode J_MSquareRows_init.2.1 106 = .ok (.dup, 1) := by decide +kernel
theorem J_MSquareRows_init_d107 : decode J_MSquareRows_init.2.1 107 = .ok (.bipush 17, 2) := by decide +kernel
theorem J_MSquareRows_init_d109 : decode J_MSquareRows_init.2.1 109 = .ok (.bipush 30, 2) := by decide +kernel
theorem J_MSquareRows_init_d111 : decode J_MSquareRows_init.2.1 111 = .ok (.iastore, 1) := by decide +kernel
theorem J_MSquareRows_init_d112 : decode J_MSquareRows_init.2.1 112 = .ok (.dup, 1) := by decide +kernel
theorem J_MSquareRows_init_d113 : decode J_MSquareRows_init.2.1 113 = .ok (.bipush 18, 2) := by decide +kernel
theorem J_MSquareRows_init_d115 : decode J_MSquareRows_init.2.1 115 = .ok (.bipush 28, 2) := by decide +kernel
theorem J_MSquareRows_init_d117 : decode J_MSquareRows_init.2.1 117 = .ok (.iastore, 1) := by decide +kernel
theorem J_MSquareRows_init_d118 : decode J_MSquareRows_init.2.1 118 = .ok (.dup, 1) := by decide +kernel
theorem J_MSquareRows_init_d119 : decode J_MSquareRows_init.2.1 119 = .ok (.bipush 19, 2) := by decide +kernel
theorem J_MSquareRows_init_d121 : decode J_MSquareRows_init.2.1 121 = .ok (.bipush 28, 2) := by decide +kernel
theorem J_MSquareRows_init_d123 : decode J_MSquareRows_init.2.1 123 = .ok (.iastore, 1) := by decide +kernel
theorem J_MSquareRows_init_d124 : decode J_MSquareRows_init.2.1 124 = .ok (.dup, 1) := by decide +kernel
theorem J_MSquareRows_init_d125 : decode J_MSquareRows_init.2.1 125 = .ok (.bipush 20, 2) := by decide +kernel
theorem J_MSquareRows_init_d127 : decode J_MSquareRows_init.2.1 127 = .ok (.bipush 28, 2) := by decide +kernel
theorem J_MSquareRows_init_d129 : decode J_MSquareRows_init.2.1 129 = .ok (.iastore, 1) := by decide +kernel
theorem J_MSquareRows_init_d130 : decode J_MSquareRows_init.2.1 130 = .ok (.dup, 1) := by decide +kernel
theorem J_MSquareRows_init_d131 : decode J_MSquareRows_init.2.1 131 = .ok (.bipush 21, 2) := by decide +kernel
theorem J_MSquareRows_init_d133 : decode J_MSquareRows_init.2.1 133 = .ok (.bipush 28, 2) := by decide +kernel
theorem J_MSquareRows_init_d135 : decode J_MSquareRows_init.2.1 135 = .ok (.iastore, 1) := by decide +kernel
theorem J_MSquareRows_init_d136 : decode J_MSquareRows_init.2.1 136 = .ok (.dup, 1) := by decide +kernel
theorem J_MSquareRows_init_d137 : decode J_MSquareRows_init.2.1 137 = .ok (.bipush 22, 2) := by decide +kernel
theorem J_MSquareRows_init_d139 : decode J_MSquareRows_init.2.1 139 = .ok (.bipush 30, 2) := by decide +kernel
theorem J_MSquareRows_init_d141 : decode J_MSquareRows_init.2.1 141 = .ok (.iastore, 1) := by decide +kernel
theorem J_MSquareRows_init_d142 : decode J_MSquareRows_init.2.1 142 = .ok (.dup, 1) := by decide +kernel
theorem J_MSquareRows_init_d143 : decode J_MSquareRows_init.2.1 143 = .ok (.bipush 23, 2) := by decide +kernel
theorem J_MSquareRows_init_d145 : decode J_MSquareRows_init.2.1 145 = .ok (.bipush 30, 2) := by decide +kernel
theorem J_MSquareRows_init_d147 : decode J_MSquareRows_init.2.1 147 = .ok (.iastore, 1) := by decide +kernel
theorem J_MSquareRows_init_d148 : decode J_MSquareRows_init.2.1 148 = .ok (.dup, 1) := by decide +kernel
theorem J_MSquareRows_init_d149 : decode J_MSquareRows_init.2.1 149 = .ok (.bipush 24, 2) := by decide +kernel
theorem J_MSquareRows_init_d151 : decode J_MSquareRows_init.2.1 151 = .ok (.bipush 26, 2) := by decide +kernel
theorem J_MSquareRows_init_d153 : decode J_MSquareRows_init.2.1 153 = .ok (.iastore, 1) := by decide +kernel
theorem J_MSquareRows_init_d154 : decode J_MSquareRows_init.2.1 154 = .ok (.dup, 1) := by decide +kernel
theorem J_MSquareRows_init_d155 : decode J_MSquareRows_init.2.1 155 = .ok (.bipush 25, 2) := by decide +kernel
theorem J_MSquareRows_init_d157 : decode J_MSquareRows_init.2.1 157 = .ok (.bipush 28, 2) := by decide +kernel
theorem J_MSquareRows_init_d159 : decode J_MSquareRows_init.2.1 159 = .ok (.iastore, 1) := by decide +kernel
theorem J_MSquareRows_init_d160 : decode J_MSquareRows_init.2.1 160 = .ok (.dup, 1) := by decide +kernel
theorem J_MSquareRows_init_d161 : decode J_MSquareRows_init.2.1 161 = .ok (.bipush 26, 2) := by decide +kernel
theorem J_MSquareRows_init_d163 : decode J_MSquareRows_init.2.1 163 = .ok (.bipush 30, 2) := by decide +kernel
theorem J_MSquareRows_init_d165 : decode J_MSquareRows_init.2.1 165 = .ok (.iastore, 1) := by decide +kernel
theorem J_MSquareRows_init_d166 : decode J_MSquareRows_init.2.1 166 = .ok (.dup, 1) := by decide +kernel
theorem J_MSquareRows_init_d167 : decode J_MSquareRows_init.2.1 167 = .ok (.bipush 27, 2) := by decide +kernel
theorem J_MSquareRows_init_d169 : decode J_MSquareRows_init.2.1 169 = .ok (.bipush 30, 2) := by decide +kernel
theorem J_MSquareRows_init_d171 : decode J_MSquareRows_init.2.1 171 = .ok (.iastore, 1) := by decide +kernel
theorem J_MSquareRows_init_d172 : decode J_MSquareRows_init.2.1 172 = .ok (.dup, 1) := by decide +kernel
theorem J_MSquareRows_init_d173 : decode J_MSquareRows_init.2.1 173 = .ok (.bipush 28, 2) := by decide +kernel
theorem J_MSquareRows_init_d175 : decode J_MSquareRows_init.2.1 175 = .ok (.bipush 30, 2) := by decide +kernel
theorem J_MSquareRows_init_d177 : decode J_MSquareRows_init.2.1 177 = .ok (.iastore, 1) := by decide +kernel
theorem J_MSquareRows_init_d178 : decode J_MSquareRows_init.2.1 178 = .ok (.dup, 1) := by decide +kernel
theorem J_MSquareRows_init_d179 : decode J_MSquareRows_init.2.1 179 = .ok (.bipush 29, 2) := by decide +kernel
theorem J_MSquareRows_init_d181 : decode J_MSquareRows_init.2.1 181 = .ok (.bipush 30, 2) := by decide +kernel
theorem J_MSquareRows_init_d183 : decode J_MSquareRows_init.2.1 183 = .ok (.iastore, 1) := by decide +kernel
theorem J_MSquareRows_init_d184 : decode J_MSquareRows_init.2.1 184 = .ok (.dup, 1) := by decide +kernel
theorem J_MSquareRows_init_d185 : decode J_MSquareRows_init.2.1 185 = .ok (.bipush 30, 2) := by decide +kernel
theorem J_MSquareRows_init_d187 : decode J_MSquareRows_init.2.1 187 = .ok (.bipush 30, 2) := by decide +kernel
theorem J_MSquareRows_init_d189 : decode J_MSquareRows_init.2.1 189 = .ok (.iastore, 1) := by decide +kernel
theorem J_MSquareRows_init_d190 : decode J_MSquareRows_init.2.1 190 = .ok (.dup, 1) := by decide +kernel
theorem J_MSquareRows_init_d191 : decode J_MSquareRows_init.2.1 191 = .ok (.bipush 31, 2) := by decide +kernel
theorem J_MSquareRows_init_d193 : decode J_MSquareRows_init.2.1 193 = .ok (.bipush 30, 2) := by decide +kernel
theorem J_MSquareRows_init_d195 : decode J_MSquareRows_init.2.1 195 = .ok (.iastore, 1) := by decide +kernel
theorem J_MSquareRows_init_d196 : decode J_MSquareRows_init.2.1 196 = .ok (.dup, 1) := by decide +kernel
theorem J_MSquareRows_init_d197 : decode J_MSquareRows_init.2.1 197 = .ok (.bipush 32, 2) := by decide +kernel
theorem J_MSquareRows_init_d199 : decode J_MSquareRows_init.2.1 199 = .ok (.bipush 30, 2) := by decide +kernel
theorem J_MSquareRows_init_d201 : decode J_MSquareRows_init.2.1 201 = .ok (.iastore, 1) := by decide +kernel
theorem J_MSquareRows_init_d202 : decode J_MSquareRows_init.2.1 202 = .ok (.dup, 1) := by decide +kernel
theorem J_MSquareRows_init_d203 : decode J_MSquareRows_init.2.1 203 = .ok (.bipush 33, 2) := by decide +kernel
theorem J_MSquareRows_init_d205 : decode J_MSquareRows_init.2.1 205 = .ok (.bipush 30, 2) := by decide +kernel
theorem J_MSquareRows_init_d207 : decode J_MSquareRows_init.2.1 207 = .ok (.iastore, 1) := by decide +kernel
theorem J_MSquareRows_init_d208 : decode J_MSquareRows_init.2.1 208 = .ok (.dup, 1) := by decide +kernel
theorem J_MSquareRows_init_d209 : decode J_MSquareRows_init.2.1 209 = .ok (.bipush 34, 2) := by decide +kernel
theorem J_MSquareRows_init_d211 : decode J_MSquareRows_init.2.1 211 = .ok (.bipush 30, 2) := by decide +kernel
theorem J_MSquareRows_init_d213 : decode J_MSquareRows_init.2.1 213 = .ok (.iastore, 1) := by decide +kernel
theorem J_MSquareRows_init_d214 : decode J_MSquareRows_init.2.1 214 = .ok (.dup, 1) := by decide +kernel
theorem J_MSquareRows_init_d215 : decode J_MSquareRows_init.2.1 215 = .ok (.bipush 35, 2) := by decide +kernel
theorem J_MSquareRows_init_d217 : decode J_MSquareRows_init.2.1 217 = .ok (.bipush 30, 2) := by decide +kernel
theorem J_MSquareRows_init_d219 : decode J_MSquareRows_init.2.1 219 = .ok (.iastore, 1) := by decide +kernel
theorem J_MSquareRows_init_d220 : decode J_MSquareRows_init.2.1 220 = .ok (.dup, 1) := by decide +kernel
theorem J_MSquareRows_init_d221 : decode J_MSquareRows_init.2.1 221 = .ok (.bipush 36, 2) := by decide +kernel
theorem J_MSquareRows_init_d223 : decode J_MSquareRows_init.2.1 223 = .ok (.bipush 30, 2) := by decide +kernel
theorem J_MSquareRows_init_d225 : decode J_MSquareRows_init.2.1 225 = .ok (.iastore, 1) := by decide +kernel
theorem J_MSquareRows_init_d226 : decode J_MSquareRows_init.2.1 226 = .ok (.dup, 1) := by decide +kernel
theorem J_MSquareRows_init_d227 : decode J_MSquareRows_init.2.1 227 = .ok (.bipush 37, 2) := by decide +kernel
theorem J_MSquareRows_init_d229 : decode J_MSquareRows_init.2.1 229 = .ok (.bipush 30, 2) := by decide +kernel
theorem J_MSquareRows_init_d231 : decode J_MSquareRows_init.2.1 231 = .ok (.iastore, 1) := by decide +kernel
theorem J_MSquareRows_init_d232 : decode J_MSquareRows_init.2.1 232 = .ok (.dup, 1) := by decide +kernel
theorem J_MSquareRows_init_d233 : decode J_MSquareRows_init.2.1 233 = .ok (.bipush 38, 2) := by decide +kernel
theorem J_MSquareRows_init_d235 : decode J_MSquareRows_init.2.1 235 = .ok (.bipush 30, 2) := by decide +kernel
theorem J_MSquareRows_init_d237 : decode J_MSquareRows_init.2.1 237 = .ok (.iastore, 1) := by decide +kernel
theorem J_MSquareRows_init_d238 : decode J_MSquareRows_init.2.1 238 = .ok (.dup, 1) := by decide +kernel
theorem J_MSquareRows_init_d239 : decode J_MSquareRows_init.2.1 239 = .ok (.bipush 39, 2) := by decide +kernel
theorem J_MSquareRows_init_d241 : decode J_MSquareRows_init.2.1 241 = .ok (.bipush 30, 2) := by decide +kernel
theorem J_MSquareRows_init_d243 : decode J_MSquareRows_init.2.1 243 = .ok (.iastore, 1) := by decide +kernel
theorem J_MSquareRows_init_d244 : decode J_MSquareRows_init.2.1 244 = .ok (.dup, 1) := by decide +kernel
theorem J_MSquareRows_init_d245 : decode J_MSquareRows_init.2.1 245 = .ok (.bipush 40, 2) := by decide +kernel
theorem J_MSquareRows_init_d247 : decode J_MSquareRows_init.2.1 247 = .ok (.bipush 10, 2) := by decide +kernel
theorem J_MSquareRows_init_d249 : decode J_MSquareRows_init.2.1 249 = .ok (.iastore, 1) := by decide +kernel
theorem J_MSquareRows_init_d250 : decode J_MSquareRows_init.2.1 250 = .ok (.dup, 1) := by decide +kernel
theorem J_MSquareRows_init_d251 : decode J_MSquareRows_init.2.1 251 = .ok (.bipush 41, 2) := by decide +kernel
theorem J_MSquareRows_init_d253 : decode J_MSquareRows_init.2.1 253 = .ok (.bipush 16, 2) := by decide +kernel
theorem J_MSquareRows_init_d255 : decode J_MSquareRows_init.2.1 255 = .ok (.iastore, 1) := by decide +kernel
theorem J_MSquareRows_init_d256 : decode J_MSquareRows_init.2.1 256 = .ok (.dup, 1) := by decide +kernel
theorem J_MSquareRows_init_d257 : decode J_MSquareRows_init.2.1 257 = .ok (.bipush 42, 2) := by decide +kernel
theorem J_MSquareRows_init_d259 : decode J_MSquareRows_init.2.1 259 = .ok (.bipush 26, 2) := by decide +kernel
theorem J_MSquareRows_init_d261 : decode J_MSquareRows_init.2.1 261 = .ok (.iastore, 1) := by decide +kernel
theorem J_MSquareRows_init_d262 : decode J_MSquareRows_init.2.1 262 = .ok (.dup, 1) := by decide +kernel
theorem J_MSquareRows_init_d263 : decode J_MSquareRows_init.2.1 263 = .ok (.bipush 43, 2) := by decide +kernel
theorem J_MSquareRows_init_d265 : decode J_MSquareRows_init.2.1 265 = .ok (.bipush 18, 2) := by decide +kernel
theorem J_MSquareRows_init_d267 : decode J_MSquareRows_init.2.1 267 = .ok (.iastore, 1) := by decide +kernel
theorem J_MSquareRows_init_d268 : decode J_MSquareRows_init.2.1 268 = .ok (.dup, 1) := by decide +kernel
theorem J_MSquareRows_init_d269 : decode J_MSquareRows_init.2.1 269 = .ok (.bipush 44, 2) := by decide +kernel
theorem J_MSquareRows_init_d271 : decode J_MSquareRows_init.2.1 271 = .ok (.bipush 24, 2) := by decide +kernel
theorem J_MSquareRows_init_d273 : decode J_MSquareRows_init.2.1 273 = .ok (.iastore, 1) := by decide +kernel
theorem J_MSquareRows_init_d274 : decode J_MSquareRows_init.2.1 274 = .ok (.dup, 1) := by decide +kernel
theorem J_MSquareRows_init_d275 : decode J_MSquareRows_init.2.1 275 = .ok (.bipush 45, 2) := by decide +kernel
theorem J_MSquareRows_init_d277 : decode J_MSquareRows_init.2.1 277 = .ok (.bipush 16, 2) := by decide +kernel
theorem J_MSquareRows_init_d279 : decode J_MSquareRows_init.2.1 279 = .ok (.iastore, 1) := by decide +kernel
theorem J_MSquareRows_init_d280 : decode J_MSquareRows_init.2.1 280 = .ok (.dup, 1) := by decide +kernel
theorem J_MSquareRows_init_d281 : decode J_MSquareRows_init.2.1 281 = .ok (.bipush 46, 2) := by decide +kernel
theorem J_MSquareRows_init_d283 : decode J_MSquareRows_init.2.1 283 = .ok (.bipush 18, 2) := by decide +kernel
theorem J_MSquareRows_init_d285 : decode J_MSquareRows_init.2.1 285 = .ok (.iastore, 1) := by decide +kernel
theorem J_MSquareRows_init_d286 : decode J_MSquareRows_init.2.1 286 = .ok (.dup, 1) := by decide +kernel
theorem J_MSquareRows_init_d287 : decode J_MSquareRows_init.2.1 287 = .ok (.bipush 47, 2) := by decide +kernel
theorem J_MSquareRows_init_d289 : decode J_MSquareRows_init.2.1 289 = .ok (.bipush 22, 2) := by decide +kernel
theorem J_MSquareRows_init_d291 : decode J_MSquareRows_init.2.1 291 = .ok (.iastore, 1) := by decide +kernel
theorem J_MSquareRows_init_d292 : decode J_MSquareRows_init.2.1 292 = .ok (.dup, 1) := by decide +kernel
theorem J_MSquareRows_init_d293 : decode J_MSquareRows_init.2.1 293 = .ok (.bipush 48, 2) := by decide +kernel
theorem J_MSquareRows_init_d295 : decode J_MSquareRows_init.2.1 295 = .ok (.bipush 22, 2) := by decide +kernel
theorem J_MSquareRows_init_d297 : decode J_MSquareRows_init.2.1 297 = .ok (.iastore, 1) := by decide +kernel
theorem J_MSquareRows_init_d298 : decode J_MSquareRows_init.2.1 298 = .ok (.dup, 1) := by decide +kernel
theorem J_MSquareRows_init_d299 : decode J_MSquareRows_init.2.1 299 = .ok (.bipush 49, 2) := by decide +kernel
theorem J_MSquareRows_init_d301 : decode J_MSquareRows_init.2.1 301 = .ok (.bipush 26, 2) := by decide +kernel
theorem J_MSquareRows_init_d303 : decode J_MSquareRows_init.2.1 303 = .ok (.iastore, 1) := by decide +kernel
theorem J_MSquareRows_init_d304 : decode J_MSquareRows_init.2.1 304 = .ok (.dup, 1) := by decide +kernel
theorem J_MSquareRows_init_d305 : decode J_MSquareRows_init.2.1 305 = .ok (.bipush 50, 2) := by decide +kernel
theorem J_MSquareRows_init_d307 : decode J_MSquareRows_init.2.1 307 = .ok (.bipush 30, 2) := by decide +kernel
theorem J_MSquareRows_init_d309 : decode J_MSquareRows_init.2.1 309 = .ok (.iastore, 1) := by decide +kernel
theorem J_MSquareRows_init_d310 : decode J_MSquareRows_init.2.1 310 = .ok (.dup, 1) := by decide +kernel
theorem J_MSquareRows_init_d311 : decode J_MSquareRows_init.2.1 311 = .ok (.bipush 51, 2) := by decide +kernel
theorem J_MSquareRows_init_d313 : decode J_MSquareRows_init.2.1 313 = .ok (.bipush 22, 2) := by decide +kernel
theorem J_MSquareRows_init_d315 : decode J_MSquareRows_init.2.1 315 = .ok (.iastore, 1) := by decide +kernel
theorem J_MSquareRows_init_d316 : decode J_MSquareRows_init.2.1 316 = .ok (.dup, 1) := by decide +kernel
theorem J_MSquareRows_init_d317 : decode J_MSquareRows_init.2.1 317 = .ok (.bipush 52, 2) := by decide +kernel
theorem J_MSquareRows_init_d319 : decode J_MSquareRows_init.2.1 319 = .ok (.bipush 22, 2) := by decide +kernel
theorem J_MSquareRows_init_d321 : decode J_MSquareRows_init.2.1 321 = .ok (.iastore, 1) := by decide +kernel
theorem J_MSquareRows_init_d322 : decode J_MSquareRows_init.2.1 322 = .ok (.dup, 1) := by decide +kernel
theorem J_MSquareRows_init_d323 : decode J_MSquareRows_init.2.1 323 = .ok (.bipush 53, 2) := by decide +kernel
theorem J_MSquareRows_init_d325 : decode J_MSquareRows_init.2.1 325 = .ok (.bipush 24, 2) := by decide +kernel
theorem J_MSquareRows_init_d327 : decode J_MSquareRows_init.2.1 327 = .ok (.iastore, 1) := by decide +kernel
theorem J_MSquareRows_init_d328 : decode J_MSquareRows_init.2.1 328 = .ok (.dup, 1) := by decide +kernel
theorem J_MSquareRows_init_d329 : decode J_MSquareRows_init.2.1 329 = .ok (.bipush 54, 2) := by decide +kernel
theorem J_MSquareRows_init_d331 : decode J_MSquareRows_init.2.1 331 = .ok (.bipush 24, 2) := by decide +kernel
theorem J_MSquareRows_init_d333 : decode J_MSquareRows_init.2.1 333 = .ok (.iastore, 1) := by decide +kernel
theorem J_MSquareRows_init_d334 : decode J_MSquareRows_init.2.1 334 = .ok (.dup, 1) := by decide +kernel
theorem J_MSquareRows_init_d335 : decode J_MSquareRows_init.2.1 335 = .ok (.bipush 55, 2) := by decide +kernel
theorem J_MSquareRows_init_d337 : decode J_MSquareRows_init.2.1 337 = .ok (.bipush 28, 2) := by decide +kernel
theorem J_MSquareRows_init_d339 : decode J_MSquareRows_init.2.1 339 = .ok (.iastore, 1) := by decide +kernel
theorem J_MSquareRows_init_d340 : decode J_MSquareRows_init.2.1 340 = .ok (.dup, 1) := by decide +kernel
theorem J_MSquareRows_init_d341 : decode J_MSquareRows_init.2.1 341 = .ok (.bipush 56, 2) := by decide +kernel
theorem J_MSquareRows_init_d343 : decode J_MSquareRows_init.2.1 343 = .ok (.bipush 28, 2) := by decide +kernel
theorem J_MSquareRows_init_d345 : decode J_MSquareRows_init.2.1 345 = .ok (.iastore, 1) := by decide +kernel
theorem J_MSquareRows_init_d346 : decode J_MSquareRows_init.2.1 346 = .ok (.dup, 1) := by decide +kernel
theorem J_MSquareRows_init_d347 : decode J_MSquareRows_init.2.1 347 = .ok (.bipush 57, 2) := by decide +kernel
theorem J_MSquareRows_init_d349 : decode J_MSquareRows_init.2.1 349 = .ok (.bipush 26, 2) := by decide +kernel
theorem J_MSquareRows_init_d351 : decode J_MSquareRows_init.2.1 351 = .ok (.iastore, 1) := by decide +kernel
theorem J_MSquareRows_init_d352 : decode J_MSquareRows_init.2.1 352 = .ok (.dup, 1) := by decide +kernel
theorem J_MSquareRows_init_d353 : decode J_MSquareRows_init.2.1 353 = .ok (.bipush 58, 2) := by decide +kernel
theorem J_MSquareRows_init_d355 : decode J_MSquareRows_init.2.1 355 = .ok (.bipush 26, 2) := by decide +kernel
theorem J_MSquareRows_init_d357 : decode J_MSquareRows_init.2.1 357 = .ok (.iastore, 1) := by decide +kernel
theorem J_MSquareRows_init_d358 : decode J_MSquareRows_init.2.1 358 = .ok (.dup, 1) := by decide +kernel
theorem J_MSquareRows_init_d359 : decode J_MSquareRows_init.2.1 359 = .ok (.bipush 59, 2) := by decide +kernel
theorem J_MSquareRows_init_d361 : decode J_MSquareRows_init.2.1 361 = .ok (.bipush 26, 2) := by decide +kernel
theorem J_MSquareRows_init_d363 : decode J_MSquareRows_init.2.1 363 = .ok (.iastore, 1) := by decide +kernel
theorem J_MSquareRows_init_d364 : decode J_MSquareRows_init.2.1 364 = .ok (.dup, 1) := by decide +kernel
theorem J_MSquareRows_init_d365 : decode J_MSquareRows_init.2.1 365 = .ok (.bipush 60, 2) := by decide +kernel
theorem J_MSquareRows_init_d367 : decode J_MSquareRows_init.2.1 367 = .ok (.bipush 26, 2) := by decide +kernel
theorem J_MSquareRows_init_d369 : decode J_MSquareRows_init.2.1 369 = .ok (.iastore, 1) := by decide +kernel
theorem J_MSquareRows_init_d370 : decode J_MSquareRows_init.2.1 370 = .ok (.dup, 1) := by decide +kernel
theorem J_MSquareRows_init_d371 : decode J_MSquareRows_init.2.1 371 = .ok (.bipush 61, 2) := by decide +kernel
theorem J_MSquareRows_init_d373 : decode J_MSquareRows_init.2.1 373 = .ok (.bipush 28, 2) := by decide +kernel
theorem J_MSquareRows_init_d375 : decode J_MSquareRows_init.2.1 375 = .ok (.iastore, 1) := by decide +kernel
theorem J_MSquareRows_init_d376 : decode J_MSquareRows_init.2.1 376 = .ok (.dup, 1) := by decide +kernel
theorem J_MSquareRows_init_d377 : decode J_MSquareRows_init.2.1 377 = .ok (.bipush 62, 2) := by decide +kernel
theorem J_MSquareRows_init_d379 : decode J_MSquareRows_init.2.1 379 = .ok (.bipush 28, 2) := by decide +kernel
theorem J_MSquareRows_init_d381 : decode J_MSquareRows_init.2.1 381 = .ok (.iastore, 1) := by decide +kernel
theorem J_MSquareRows_init_d382 : decode J_MSquareRows_init.2.1 382 = .ok (.dup, 1) := by decide +kernel
theorem J_MSquareRows_init_d383 : decode J_MSquareRows_init.2.1 383 = .ok (.bipush 63, 2) := by decide +kernel
theorem J_MSquareRows_init_d385 : decode J_MSquareRows_init.2.1 385 = .ok (.bipush 28, 2) := by decide +kernel
theorem J_MSquareRows_init_d387 : decode J_MSquareRows_init.2.1 387 = .ok (.iastore, 1) := by decide +kernel
theorem J_MSquareRows_init_d388 : decode J_MSquareRows_init.2.1 388 = .ok (.dup, 1) := by decide +kernel
theorem J_MSquareRows_init_d389 : decode J_MSquareRows_init.2.1 389 = .ok (.bipush 64, 2) := by decide +kernel
theorem J_MSquareRows_init_d391 : decode J_MSquareRows_init.2.1 391 = .ok (.bipush 28, 2) := by decide +kernel
theorem J_MSquareRows_init_d393 : decode J_MSquareRows_init.2.1 393 = .ok (.iastore, 1) := by decide +kernel
theorem J_MSquareRows_init_d394 : decode J_MSquareRows_init.2.1 394 = .ok (.dup, 1) := by decide +kernel
theorem J_MSquareRows_init_d395 : decode J_MSquareRows_init.2.1 395 = .ok (.bipush 65, 2) := by decide +kernel
theorem J_MSquareRows_init_d397 : decode J_MSquareRows_init.2.1 397 = .ok (.bipush 28, 2) := by decide +kernel
theorem J_MSquareRows_init_d399 : decode J_MSquareRows_init.2.1 399 = .ok (.iastore, 1) := by decide +kernel
theorem J_MSquareRows_init_d400 : decode J_MSquareRows_init.2.1 400 = .ok (.dup, 1) := by decide +kernel
theorem J_MSquareRows_init_d401 : decode J_MSquareRows_init.2.1 401 = .ok (.bipush 66, 2) := by decide +kernel
theorem J_MSquareRows_init_d403 : decode J_MSquareRows_init.2.1 403 = .ok (.bipush 28, 2) := by decide +kernel
theorem J_MSquareRows_init_d405 : decode J_MSquareRows_init.2.1 405 = .ok (.iastore, 1) := by decide +kernel
theorem J_MSquareRows_init_d406 : decode J_MSquareRows_init.2.1 406 = .ok (.dup, 1) := by decide +kernel
theorem J_MSquareRows_init_d407 : decode J_MSquareRows_init.2.1 407 = .ok (.bipush 67, 2) := by decide +kernel
theorem J_MSquareRows_init_d409 : decode J_MSquareRows_init.2.1 409 = .ok (.bipush 28, 2) := by decide +kernel
theorem J_MSquareRows_init_d411 : decode J_MSquareRows_init.2.1 411 = .ok (.iastore, 1) := by decide +kernel
theorem J_MSquareRows_init_d412 : decode J_MSquareRows_init.2.1 412 = .ok (.dup, 1) := by decide +kernel
theorem J_MSquareRows_init_d413 : decode J_MSquareRows_init.2.1 413 = .ok (.bipush 68, 2) := by decide +kernel
theorem J_MSquareRows_init_d415 : decode J_MSquareRows_init.2.1 415 = .ok (.bipush 28, 2) := by decide +kernel
theorem J_MSquareRows_init_d417 : decode J_MSquareRows_init.2.1 417 = .ok (.iastore, 1) := by decide +kernel
theorem J_MSquareRows_init_d418 : decode J_MSquareRows_init.2.1 418 = .ok (.dup, 1) := by decide +kernel
theorem J_MSquareRows_init_d419 : decode J_MSquareRows_init.2.1 419 = .ok (.bipush 69, 2) := by decide +kernel
theorem J_MSquareRows_init_d421 : decode J_MSquareRows_init.2.1 421 = .ok (.bipush 28, 2) := by decide +kernel
theorem J_MSquareRows_init_d423 : decode J_MSquareRows_init.2.1 423 = .ok (.iastore, 1) := by decide +kernel
theorem J_MSquareRows_init_d424 : decode J_MSquareRows_init.2.1 424 = .ok (.dup, 1) := by decide +kernel
theorem J_MSquareRows_init_d425 : decode J_MSquareRows_init.2.1 425 = .ok (.bipush 70, 2) := by decide +kernel
theorem J_MSquareRows_init_d427 : decode J_MSquareRows_init.2.1 427 = .ok (.bipush 28, 2) := by decide +kernel
theorem J_MSquareRows_init_d429 : decode J_MSquareRows_init.2.1 429 = .ok (.iastore, 1) := by decide +kernel
theorem J_MSquareRows_init_d430 : decode J_MSquareRows_init.2.1 430 = .ok (.dup, 1) := by decide +kernel
theorem J_MSquareRows_init_d431 : decode J_MSquareRows_init.2.1 431 = .ok (.bipush 71, 2) := by decide +kernel
theorem J_MSquareRows_init_d433 : decode J_MSquareRows_init.2.1 433 = .ok (.bipush 28, 2) := by decide +kernel
theorem J_MSquareRows_init_d435 : decode J_MSquareRows_init.2.1 435 = .ok (.iastore, 1) := by decide +kernel
theorem J_MSquareRows_init_d436 : decode J_MSquareRows_init.2.1 436 = .ok (.dup, 1) := by decide +kernel
theorem J_MSquareRows_init_d437 : decode J_MSquareRows_init.2.1 437 = .ok (.bipush 72, 2) := by decide +kernel
theorem J_MSquareRows_init_d439 : decode J_MSquareRows_init.2.1 439 = .ok (.bipush 28, 2) := by decide +kernel
theorem J_MSquareRows_init_d441 : decode J_MSquareRows_init.2.1 441 = .ok (.iastore, 1) := by decide +kernel
theorem J_MSquareRows_init_d442 : decode J_MSquareRows_init.2.1 442 = .ok (.dup, 1) := by decide +kernel
theorem J_MSquareRows_init_d443 : decode J_MSquareRows_init.2.1 443 = .ok (.bipush 73, 2) := by decide +kernel
theorem J_MSquareRows_init_d445 : decode J_MSquareRows_init.2.1 445 = .ok (.bipush 28, 2) := by decide +kernel
theorem J_MSquareRows_init_d447 : decode J_MSquareRows_init.2.1 447 = .ok (.iastore, 1) := by decide +kernel
theorem J_MSquareRows_init_d448 : decode J_MSquareRows_init.2.1 448 = .ok (.dup, 1) := by decide +kernel
theorem J_MSquareRows_init_d449 : decode J_MSquareRows_init.2.1 449 = .ok (.bipush 74, 2) := by decide +kernel
theorem J_MSquareRows_init_d451 : decode J_MSquareRows_init.2.1 451 = .ok (.bipush 28, 2) := by decide +kernel
theorem J_MSquareRows_init_d453 : decode J_MSquareRows_init.2.1 453 = .ok (.iastore, 1) := by decide +kernel
theorem J_MSquareRows_init_d454 : decode J_MSquareRows_init.2.1 454 = .ok (.dup, 1) := by decide +kernel
theorem J_MSquareRows_init_d455 : decode J_MSquareRows_init.2.1 455 = .ok (.bipush 75, 2) := by decide +kernel
theorem J_MSquareRows_init_d457 : decode J_MSquareRows_init.2.1 457 = .ok (.bipush 28, 2) := by decide +kernel
theorem J_MSquareRows_init_d459 : decode J_MSquareRows_init.2.1 459 = .ok (.iastore, 1) := by decide +kernel
theorem J_MSquareRows_init_d460 : decode J_MSquareRows_init.2.1 460 = .ok (.dup, 1) := by decide +kernel
theorem J_MSquareRows_init_d461 : decode J_MSquareRows_init.2.1 461 = .ok (.bipush 76, 2) := by decide +kernel
theorem J_MSquareRows_init_d463 : decode J_MSquareRows_init.2.1 463 = .ok (.bipush 28, 2) := by decide +kernel
theorem J_MSquareRows_init_d465 : decode J_MSquareRows_init.2.1 465 = .ok (.iastore, 1) := by decide +kernel
theorem J_MSquareRows_init_d466 : decode J_MSquareRows_init.2.1 466 = .ok (.dup, 1) := by decide +kernel
theorem J_MSquareRows_init_d467 : decode J_MSquareRows_init.2.1 467 = .ok (.bipush 77, 2) := by decide +kernel
theorem J_MSquareRows_init_d469 : decode J_MSquareRows_init.2.1 469 = .ok (.bipush 28, 2) := by decide +kernel
theorem J_MSquareRows_init_d471 : decode J_MSquareRows_init.2.1 471 = .ok (.iastore, 1) := by decide +kernel
theorem J_MSquareRows_init_d472 : decode J_MSquareRows_init.2.1 472 = .ok (.dup, 1) := by decide +kernel
theorem J_MSquareRows_init_d473 : decode J_MSquareRows_init.2.1 473 = .ok (.bipush 78, 2) := by decide +kernel
theorem J_MSquareRows_init_d475 : decode J_MSquareRows_init.2.1 475 = .ok (.bipush 28, 2) := by decide +kernel
theorem J_MSquareRows_init_d477 : decode J_MSquareRows_init.2.1 477 = .ok (.iastore, 1) := by decide +kernel
theorem J_MSquareRows_init_d478 : decode J_MSquareRows_init.2.1 478 = .ok (.dup, 1) := by decide +kernel
theorem J_MSquareRows_init_d479 : decode J_MSquareRows_init.2.1 479 = .ok (.bipush 79, 2) := by decide +kernel
theorem J_MSquareRows_init_d481 : decode J_MSquareRows_init.2.1 481 = .ok (.bipush 28, 2) := by decide +kernel
theorem J_MSquareRows_init_d483 : decode J_MSquareRows_init.2.1 483 = .ok (.iastore, 1) := by decide +kernel
theorem J_MSquareRows_init_d484 : decode J_MSquareRows_init.2.1 484 = .ok (.dup, 1) := by decide +kernel
theorem J_MSquareRows_init_d485 : decode J_MSquareRows_init.2.1 485 = .ok (.bipush 80, 2) := by decide +kernel
theorem J_MSquareRows_init_d487 : decode J_MSquareRows_init.2.1 487 = .ok (.bipush 13, 2) := by decide +kernel
theorem J_MSquareRows_init_d489 : decode J_MSquareRows_init.2.1 489 = .ok (.iastore, 1) := by decide +kernel
theorem J_MSquareRows_init_d490 : decode J_MSquareRows_init.2.1 490 = .ok (.dup, 1) := by decide +kernel
theorem J_MSquareRows_init_d491 : decode J_MSquareRows_init.2.1 491 = .ok (.bipush 81, 2) := by decide +kernel
theorem J_MSquareRows_init_d493 : decode J_MSquareRows_init.2.1 493 = .ok (.bipush 22, 2) := by decide +kernel
theorem J_MSquareRows_init_d495 : decode J_MSquareRows_init.2.1 495 = .ok (.iastore, 1) := by decide +kernel
theorem J_MSquareRows_init_d496 : decode J_MSquareRows_init.2.1 496 = .ok (.dup, 1) := by decide +kernel
theorem J_MSquareRows_init_d497 : decode J_MSquareRows_init.2.1 497 = .ok (.bipush 82, 2) := by decide +kernel
theorem J_MSquareRows_init_d499 : decode J_MSquareRows_init.2.1 499 = .ok (.bipush 18, 2) := by decide +kernel
theorem J_MSquareRows_init_d501 : decode J_MSquareRows_init.2.1 501 = .ok (.iastore, 1) := by decide +kernel
theorem J_MSquareRows_init_d502 : decode J_MSquareRows_init.2.1 502 = .ok (.dup, 1) := by decide +kernel
theorem J_MSquareRows_init_d503 : decode J_MSquareRows_init.2.1 503 = .ok (.bipush 83, 2) := by decide +kernel
theorem J_MSquareRows_init_d505 : decode J_MSquareRows_init.2.1 505 = .ok (.bipush 26, 2) := by decide +kernel
theorem J_MSquareRows_init_d507 : decode J_MSquareRows_init.2.1 507 = .ok (.iastore, 1) := by decide +kernel
theorem J_MSquareRows_init_d508 : decode J_MSquareRows_init.2.1 508 = .ok (.dup, 1) := by decide +kernel
theorem J_MSquareRows_init_d509 : decode J_MSquareRows_init.2.1 509 = .ok (.bipush 84, 2) := by decide +kernel
theorem J_MSquareRows_init_d511 : decode J_MSquareRows_init.2.1 511 = .ok (.bipush 18, 2) := by decide +kernel
theorem J_MSquareRows_init_d513 : decode J_MSquareRows_init.2.1 513 = .ok (.iastore, 1) := by decide +kernel
theorem J_MSquareRows_init_d514 : decode J_MSquareRows_init.2.1 514 = .ok (.dup, 1) := by decide +kernel
theorem J_MSquareRows_init_d515 : decode J_MSquareRows_init.2.1 515 = .ok (.bipush 85, 2) := by decide +kernel
theorem J_MSquareRows_init_d517 : decode J_MSquareRows_init.2.1 517 = .ok (.bipush 24, 2) := by decide +kernel
theorem J_MSquareRows_init_d519 : decode J_MSquareRows_init.2.1 519 = .ok (.iastore, 1) := by decide +kernel
theorem J_MSquareRows_init_d520 : decode J_MSquareRows_init.2.1 520 = .ok (.dup, 1) := by decide +kernel
theorem J_MSquareRows_init_d521 : decode J_MSquareRows_init.2.1 521 = .ok (.bipush 86, 2) := by decide +kernel
theorem J_MSquareRows_init_d523 : decode J_MSquareRows_init.2.1 523 = .ok (.bipush 18, 2) := by decide +kernel
theorem J_MSquareRows_init_d525 : decode J_MSquareRows_init.2.1 525 = .ok (.iastore, 1) := by decide +kernel
theorem J_MSquareRows_init_d526 : decode J_MSquareRows_init.2.1 526 = .ok (.dup, 1) := by decide +kernel
theorem J_MSquareRows_init_d527 : decode J_MSquareRows_init.2.1 527 = .ok (.bipush 87, 2) := by decide +kernel
theorem J_MSquareRows_init_d529 : decode J_MSquareRows_init.2.1 529 = .ok (.bipush 22, 2) := by decide +kernel
theorem J_MSquareRows_init_d531 : decode J_MSquareRows_init.2.1 531 = .ok (.iastore, 1) := by decide +kernel
theorem J_MSquareRows_init_d532 : decode J_MSquareRows_init.2.1 532 = .ok (.dup, 1) := by decide +kernel
theorem J_MSquareRows_init_d533 : decode J_MSquareRows_init.2.1 533 = .ok (.bipush 88, 2) := by decide +kernel
theorem J_MSquareRows_init_d535 : decode J_MSquareRows_init.2.1 535 = .ok (.bipush 20, 2) := by decide +kernel
theorem J_MSquareRows_init_d537 : decode J_MSquareRows_init.2.1 537 = .ok (.iastore, 1) := by decide +kernel
theorem J_MSquareRows_init_d538 : decode J_MSquareRows_init.2.1 538 = .ok (.dup, 1) := by decide +kernel
theorem J_MSquareRows_init_d539 : decode J_MSquareRows_init.2.1 539 = .ok (.bipush 89, 2) := by decide +kernel
theorem J_MSquareRows_init_d541 : decode J_MSquareRows_init.2.1 541 = .ok (.bipush 24, 2) := by decide +kernel
theorem J_MSquareRows_init_d543 : decode J_MSquareRows_init.2.1 543 = .ok (.iastore, 1) := by decide +kernel
theorem J_MSquareRows_init_d544 : decode J_MSquareRows_init.2.1 544 = .ok (.dup, 1) := by decide +kernel
theorem J_MSquareRows_init_d545 : decode J_MSquareRows_init.2.1 545 = .ok (.bipush 90, 2) := by decide +kernel
theorem J_MSquareRows_init_d547 : decode J_MSquareRows_init.2.1 547 = .ok (.bipush 28, 2) := by decide +kernel
theorem J_MSquareRows_init_d549 : decode J_MSquareRows_init.2.1 549 = .ok (.iastore, 1) := by decide +kernel
theorem J_MSquareRows_init_d550 : decode J_MSquareRows_init.2.1 550 = .ok (.dup, 1) := by decide +kernel
theorem J_MSquareRows_init_d551 : decode J_MSquareRows_init.2.1 551 = .ok (.bipush 91, 2) := by decide +kernel
theorem J_MSquareRows_init_d553 : decode J_MSquareRows_init.2.1 553 = .ok (.bipush 26, 2) := by decide +kernel
theorem J_MSquareRows_init_d555 : decode J_MSquareRows_init.2.1 555 = .ok (.iastore, 1) := by decide +kernel
theorem J_MSquareRows_init_d556 : decode J_MSquareRows_init.2.1 556 = .ok (.dup, 1) := by decide +kernel
theorem J_MSquareRows_init_d557 : decode J_MSquareRows_init.2.1 557 = .ok (.bipush 92, 2) := by decide +kernel
theorem J_MSquareRows_init_d559 : decode J_MSquareRows_init.2.1 559 = .ok (.bipush 24, 2) := by decide +kernel
theorem J_MSquareRows_init_d561 : decode J_MSquareRows_init.2.1 561 = .ok (.iastore, 1) := by decide +kernel
theorem J_MSquareRows_init_d562 : decode J_MSquareRows_init.2.1 562 = .ok (.dup, 1) := by decide +kernel
theorem J_MSquareRows_init_d563 : decode J_MSquareRows_init.2.1 563 = .ok (.bipush 93, 2) := by decide +kernel
theorem J_MSquareRows_init_d565 : decode J_MSquareRows_init.2.1 565 = .ok (.bipush 20, 2) := by decide +kernel
theorem J_MSquareRows_init_d567 : decode J_MSquareRows_init.2.1 567 = .ok (.iastore, 1) := by decide +kernel
theorem J_MSquareRows_init_d568 : decode J_MSquareRows_init.2.1 568 = .ok (.dup, 1) := by decide +kernel
theorem J_MSquareRows_init_d569 : decode J_MSquareRows_init.2.1 569 = .ok (.bipush 94, 2) := by decide +kernel
theorem J_MSquareRows_init_d571 : decode J_MSquareRows_init.2.1 571 = .ok (.bipush 30, 2) := by decide +kernel
theorem J_MSquareRows_init_d573 : decode J_MSquareRows_init.2.1 573 = .ok (.iastore, 1) := by decide +kernel
theorem J_MSquareRows_init_d574 : decode J_MSquareRows_init.2.1 574 = .ok (.dup, 1) := by decide +kernel
theorem J_MSquareRows_init_d575 : decode J_MSquareRows_init.2.1 575 = .ok (.bipush 95, 2) := by decide +kernel
theorem J_MSquareRows_init_d577 : decode J_MSquareRows_init.2.1 577 = .ok (.bipush 24, 2) := by decide +kernel
theorem J_MSquareRows_init_d579 : decode J_MSquareRows_init.2.1 579 = .ok (.iastore, 1) := by decide +kernel
theorem J_MSquareRows_init_d580 : decode J_MSquareRows_init.2.1 580 = .ok (.dup, 1) := by decide +kernel
theorem J_MSquareRows_init_d581 : decode J_MSquareRows_init.2.1 581 = .ok (.bipush 96, 2) := by decide +kernel
theorem J_MSquareRows_init_d583 : decode J_MSquareRows_init.2.1 583 = .ok (.bipush 28, 2) := by decide +kernel
theorem J_MSquareRows_init_d585 : decode J_MSquareRows_init.2.1 585 = .ok (.iastore, 1) := by decide +kernel
theorem J_MSquareRows_init_d586 : decode J_MSquareRows_init.2.1 586 = .ok (.dup, 1) := by decide +kernel
theorem J_MSquareRows_init_d587 : decode J_MSquareRows_init.2.1 587 = .ok (.bipush 97, 2) := by decide +kernel
theorem J_MSquareRows_init_d589 : decode J_MSquareRows_init.2.1 589 = .ok (.bipush 28, 2) := by decide +kernel
theorem J_MSquareRows_init_d591 : decode J_MSquareRows_init.2.1 591 = .ok (.iastore, 1) := by decide +kernel
theorem J_MSquareRows_init_d592 : decode J_MSquareRows_init.2.1 592 = .ok (.dup, 1) := by decide +kernel
theorem J_MSquareRows_init_d593 : decode J_MSquareRows_init.2.1 593 = .ok (.bipush 98, 2) := by decide +kernel
theorem J_MSquareRows_init_d595 : decode J_MSquareRows_init.2.1 595 = .ok (.bipush 26, 2) := by decide +kernel
theorem J_MSquareRows_init_d597 : decode J_MSquareRows_init.2.1 597 = .ok (.iastore, 1) := by decide +kernel
theorem J_MSquareRows_init_d598 : decode J_MSquareRows_init.2.1 598 = .ok (.dup, 1) := by decide +kernel
theorem J_MSquareRows_init_d599 : decode J_MSquareRows_init.2.1 599 = .ok (.bipush 99, 2) := by decide +kernel
theorem J_MSquareRows_init_d601 : decode J_MSquareRows_init.2.1 601 = .ok (.bipush 30, 2) := by decide +kernel
theorem J_MSquareRows_init_d603 : decode J_MSquareRows_init.2.1 603 = .ok (.iastore, 1) := by decide +kernel
theorem J_MSquareRows_init_d604 : decode J_MSquareRows_init.2.1 604 = .ok (.dup, 1) := by decide +kernel
theorem J_MSquareRows_init_d605 : decode J_MSquareRows_init.2.1 605 = .ok (.bipush 100, 2) := by decide +kernel
theorem J_MSquareRows_init_d607 : decode J_MSquareRows_init.2.1 607 = .ok (.bipush 28, 2) := by decide +kernel
theorem J_MSquareRows_init_d609 : decode J_MSquareRows_init.2.1 609 = .ok (.iastore, 1) := by decide +kernel
theorem J_MSquareRows_init_d610 : decode J_MSquareRows_init.2.1 610 = .ok (.dup, 1) := by decide +kernel
theorem J_MSquareRows_init_d611 : decode J_MSquareRows_init.2.1 611 = .ok (.bipush 101, 2) := by decide +kernel
theorem J_MSquareRows_init_d613 : decode J_MSquareRows_init.2.1 613 = .ok (.bipush 30, 2) := by decide +kernel
theorem J_MSquareRows_init_d615 : decode J_MSquareRows_init.2.1 615 = .ok (.iastore, 1) := by decide +kernel
theorem J_MSquareRows_init_d616 : decode J_MSquareRows_init.2.1 616 = .ok (.dup, 1) := by decide +kernel
theorem J_MSquareRows_init_d617 : decode J_MSquareRows_init.2.1 617 = .ok (.bipush 102, 2) := by decide +kernel
theorem J_MSquareRows_init_d619 : decode J_MSquareRows_init.2.1 619 = .ok (.bipush 30, 2) := by decide +kernel
theorem J_MSquareRows_init_d621 : decode J_MSquareRows_init.2.1 621 = .ok (.iastore, 1) := by decide +kernel
theorem J_MSquareRows_init_d622 : decode J_MSquareRows_init.2.1 622 = .ok (.dup, 1) := by decide +kernel
theorem J_MSquareRows_init_d623 : decode J_MSquareRows_init.2.1 623 = .ok (.bipush 103, 2) := by decide +kernel
theorem J_MSquareRows_init_d625 : decode J_MSquareRows_init.2.1 625 = .ok (.bipush 30, 2) := by decide +kernel
theorem J_MSquareRows_init_d627 : decode J_MSquareRows_init.2.1 627 = .ok (.iastore, 1) := by decide +kernel
theorem J_MSquareRows_init_d628 : decode J_MSquareRows_init.2.1 628 = .ok (.dup, 1) := by decide +kernel
theorem J_MSquareRows_init_d629 : decode J_MSquareRows_init.2.1 629 = .ok (.bipush 104, 2) := by decide +kernel
theorem J_MSquareRows_init_d631 : decode J_MSquareRows_init.2.1 631 = .ok (.bipush 30, 2) := by decide +kernel
theorem J_MSquareRows_init_d633 : decode J_MSquareRows_init.2.1 633 = .ok (.iastore, 1) := by decide +kernel
theorem J_MSquareRows_init_d634 : decode J_MSquareRows_init.2.1 634 = .ok (.dup, 1) := by decide +kernel
theorem J_MSquareRows_init_d635 : decode J_MSquareRows_init.2.1 635 = .ok (.bipush 105, 2) := by decide +kernel
theorem J_MSquareRows_init_d637 : decode J_MSquareRows_init.2.1 637 = .ok (.bipush 28, 2) := by decide +kernel
theorem J_MSquareRows_init_d639 : decode J_MSquareRows_init.2.1 639 = .ok (.iastore, 1) := by decide +kernel
theorem J_MSquareRows_init_d640 : decode J_MSquareRows_init.2.1 640 = .ok (.dup, 1) := by decide +kernel
theorem J_MSquareRows_init_d641 : decode J_MSquareRows_init.2.1 641 = .ok (.bipush 106, 2) := by decide +kernel
theorem J_MSquareRows_init_d643 : decode J_MSquareRows_init.2.1 643 = .ok (.bipush 30, 2) := by decide +kernel
theorem J_MSquareRows_init_d645 : decode J_MSquareRows_init.2.1 645 = .ok (.iastore, 1) := by decide +kernel
theorem J_MSquareRows_init_d646 : decode J_MSquareRows_init.2.1 646 = .ok (.dup, 1) := by decide +kernel
theorem J_MSquareRows_init_d647 : decode J_MSquareRows_init.2.1 647 = .ok (.bipush 107, 2) := by decide +kernel
theorem J_MSquareRows_init_d649 : decode J_MSquareRows_init.2.1 649 = .ok (.bipush 30, 2) := by decide +kernel
theorem J_MSquareRows_init_d651 : decode J_MSquareRows_init.2.1 651 = .ok (.iastore, 1) := by decide +kernel
theorem J_MSquareRows_init_d652 : decode J_MSquareRows_init.2.1 652 = .ok (.dup, 1) := by decide +kernel
theorem J_MSquareRows_init_d653 : decode J_MSquareRows_init.2.1 653 = .ok (.bipush 108, 2) := by decide +kernel
theorem J_MSquareRows_init_d655 : decode J_MSquareRows_init.2.1 655 = .ok (.bipush 30, 2) := by decide +kernel
theorem J_MSquareRows_init_d657 : decode J_MSquareRows_init.2.1 657 = .ok (.iastore, 1) := by decide +kernel
theorem J_MSquareRows_init_d658 : decode J_MSquareRows_init.2.1 658 = .ok (.dup, 1) := by decide +kernel
theorem J_MSquareRows_init_d659 : decode J_MSquareRows_init.2.1 659 = .ok (.bipush 109, 2) := by decide +kernel
theorem J_MSquareRows_init_d661 : decode J_MSquareRows_init.2.1 661 = .ok (.bipush 30, 2) := by decide +kernel
theorem J_MSquareRows_init_d663 : decode J_MSquareRows_init.2.1 663 = .ok (.iastore, 1) := by decide +kernel
theorem J_MSquareRows_init_d664 : decode J_MSquareRows_init.2.1 664 = .ok (.dup, 1) := by decide +kernel
theorem J_MSquareRows_init_d665 : decode J_MSquareRows_init.2.1 665 = .ok (.bipush 110, 2) := by decide +kernel
theorem J_MSquareRows_init_d667 : decode J_MSquareRows_init.2.1 667 = .ok (.bipush 30, 2) := by decide +kernel
theorem J_MSquareRows_init_d669 : decode J_MSquareRows_init.2.1 669 = .ok (.iastore, 1) := by decide +kernel
theorem J_MSquareRows_init_d670 : decode J_MSquareRows_init.2.1 670 = .ok (.dup, 1) := by decide +kernel
theorem J_MSquareRows_init_d671 : decode J_MSquareRows_init.2.1 671 = .ok (.bipush 111, 2) := by decide +kernel
theorem J_MSquareRows_init_d673 : decode J_MSquareRows_init.2.1 673 = .ok (.bipush 30, 2) := by decide +kernel
theorem J_MSquareRows_init_d675 : decode J_MSquareRows_init.2.1 675 = .ok (.iastore, 1) := by decide +kernel
theorem J_MSquareRows_init_d676 : decode J_MSquareRows_init.2.1 676 = .ok (.dup, 1) := by decide +kernel
theorem J_MSquareRows_init_d677 : decode J_MSquareRows_init.2.1 677 = .ok (.bipush 112, 2) := by decide +kernel
theorem J_MSquareRows_init_d679 : decode J_MSquareRows_init.2.1 679 = .ok (.bipush 30, 2) := by decide +kernel
theorem J_MSquareRows_init_d681 : decode J_MSquareRows_init.2.1 681 = .ok (.iastore, 1) := by decide +kernel
theorem J_MSquareRows_init_d682 : decode J_MSquareRows_init.2.1 682 = .ok (.dup, 1) := by decide +kernel
theorem J_MSquareRows_init_d683 : decode J_MSquareRows_init.2.1 683 = .ok (.bipush 113, 2) := by decide +kernel
theorem J_MSquareRows_init_d685 : decode J_MSquareRows_init.2.1 685 = .ok (.bipush 30, 2) := by decide +kernel
theorem J_MSquareRows_init_d687 : decode J_MSquareRows_init.2.1 687 = .ok (.iastore, 1) := by decide +kernel
theorem J_MSquareRows_init_d688 : decode J_MSquareRows_init.2.1 688 = .ok (.dup, 1) := by decide +kernel
theorem J_MSquareRows_init_d689 : decode J_MSquareRows_init.2.1 689 = .ok (.bipush 114, 2) := by decide +kernel
theorem J_MSquareRows_init_d691 : decode J_MSquareRows_init.2.1 691 = .ok (.bipush 30, 2) := by decide +kernel
theorem J_MSquareRows_init_d693 : decode J_MSquareRows_init.2.1 693 = .ok (.iastore, 1) := by decide +kernel
theorem J_MSquareRows_init_d694 : decode J_MSquareRows_init.2.1 694 = .ok (.dup, 1) := by decide +kernel
theorem J_MSquareRows_init_d695 : decode J_MSquareRows_init.2.1 695 = .ok (.bipush 115, 2) := by decide +kernel
theorem J_MSquareRows_init_d697 : decode J_MSquareRows_init.2.1 697 = .ok (.bipush 30, 2) := by decide +kernel
theorem J_MSquareRows_init_d699 : decode J_MSquareRows_init.2.1 699 = .ok (.iastore, 1) := by decide +kernel
theorem J_MSquareRows_init_d700 : decode J_MSquareRows_init.2.1 700 = .ok (.dup, 1) := by decide +kernel
theorem J_MSquareRows_init_d701 : decode J_MSquareRows_init.2.1 701 = .ok (.bipush 116, 2) := by decide +kernel
theorem J_MSquareRows_init_d703 : decode J_MSquareRows_init.2.1 703 = .ok (.bipush 30, 2) := by decide +kernel
theorem J_MSquareRows_init_d705 : decode J_MSquareRows_init.2.1 705 = .ok (.iastore, 1) := by decide +kernel
theorem J_MSquareRows_init_d706 : decode J_MSquareRows_init.2.1 706 = .ok (.dup, 1) := by decide +kernel
theorem J_MSquareRows_init_d707 : decode J_MSquareRows_init.2.1 707 = .ok (.bipush 117, 2) := by decide +kernel
theorem J_MSquareRows_init_d709 : decode J_MSquareRows_init.2.1 709 = .ok (.bipush 30, 2) := by decide +kernel
theorem J_MSquareRows_init_d711 : decode J_MSquareRows_init.2.1 711 = .ok (.iastore, 1) := by decide +kernel
theorem J_MSquareRows_init_d712 : decode J_MSquareRows_init.2.1 712 = .ok (.dup, 1) := by decide +kernel
theorem J_MSquareRows_init_d713 : decode J_MSquareRows_init.2.1 713 = .ok (.bipush 118, 2) := by decide +kernel
theorem J_MSquareRows_init_d715 : decode J_MSquareRows_init.2.1 715 = .ok (.bipush 30, 2) := by decide +kernel
theorem J_MSquareRows_init_d717 : decode J_MSquareRows_init.2.1 717 = .ok (.iastore, 1) := by decide +kernel
theorem J_MSquareRows_init_d718 : decode J_MSquareRows_init.2.1 718 = .ok (.dup, 1) := by decide +kernel
theorem J_MSquareRows_init_d719 : decode J_MSquareRows_init.2.1 719 = .ok (.bipush 119, 2) := by decide +kernel
theorem J_MSquareRows_init_d721 : decode J_MSquareRows_init.2.1 721 = .ok (.bipush 30, 2) := by decide +kernel
theorem J_MSquareRows_init_d723 : decode J_MSquareRows_init.2.1 723 = .ok (.iastore, 1) := by decide +kernel
theorem J_MSquareRows_init_d724 : decode J_MSquareRows_init.2.1 724 = .ok (.dup, 1) := by decide +kernel
theorem J_MSquareRows_init_d725 : decode J_MSquareRows_init.2.1 725 = .ok (.bipush 120, 2) := by decide +kernel
theorem J_MSquareRows_init_d727 : decode J_MSquareRows_init.2.1 727 = .ok (.bipush 17, 2) := by decide +kernel
theorem J_MSquareRows_init_d729 : decode J_MSquareRows_init.2.1 729 = .ok (.iastore, 1) := by decide +kernel
theorem J_MSquareRows_init_d730 : decode J_MSquareRows_init.2.1 730 = .ok (.dup, 1) := by decide +kernel
theorem J_MSquareRows_init_d731 : decode J_MSquareRows_init.2.1 731 = .ok (.bipush 121, 2) := by decide +kernel
theorem J_MSquareRows_init_d733 : decode J_MSquareRows_init.2.1 733 = .ok (.bipush 28, 2) := by decide +kernel
theorem J_MSquareRows_init_d735 : decode J_MSquareRows_init.2.1 735 = .ok (.iastore, 1) := by decide +kernel
theorem J_MSquareRows_init_d736 : decode J_MSquareRows_init.2.1 736 = .ok (.dup, 1) := by decide +kernel
theorem J_MSquareRows_init_d737 : decode J_MSquareRows_init.2.1 737 = .ok (.bipush 122, 2) := by decide +kernel
theorem J_MSquareRows_init_d739 : decode J_MSquareRows_init.2.1 739 = .ok (.bipush 22, 2) := by decide +kernel
theorem J_MSquareRows_init_d741 : decode J_MSquareRows_init.2.1 741 = .ok (.iastore, 1) := by decide +kernel
theorem J_MSquareRows_init_d742 : decode J_MSquareRows_init.2.1 742 = .ok (.dup, 1) := by decide +kernel
theorem J_MSquareRows_init_d743 : decode J_MSquareRows_init.2.1 743 = .ok (.bipush 123, 2) := by decide +kernel
theorem J_MSquareRows_init_d745 : decode J_MSquareRows_init.2.1 745 = .ok (.bipush 16, 2) := by decide +kernel
theorem J_MSquareRows_init_d747 : decode J_MSquareRows_init.2.1 747 = .ok (.iastore, 1) := by decide +kernel
theorem J_MSquareRows_init_d748 : decode J_MSquareRows_init.2.1 748 = .ok (.dup, 1) := by decide +kernel
theorem J_MSquareRows_init_d749 : decode J_MSquareRows_init.2.1 749 = .ok (.bipush 124, 2) := by decide +kernel
theorem J_MSquareRows_init_d751 : decode J_MSquareRows_init.2.1 751 = .ok (.bipush 22, 2) := by decide +kernel
theorem J_MSquareRows_init_d753 : decode J_MSquareRows_init.2.1 753 = .ok (.iastore, 1) := by decide +kernel
theorem J_MSquareRows_init_d754 : decode J_MSquareRows_init.2.1 754 = .ok (.dup, 1) := by decide +kernel
theorem J_MSquareRows_init_d755 : decode J_MSquareRows_init.2.1 755 = .ok (.bipush 125, 2) := by decide +kernel
theorem J_MSquareRows_init_d757 : decode J_MSquareRows_init.2.1 757 = .ok (.bipush 28, 2) := by decide +kernel
theorem J_MSquareRows_init_d759 : decode J_MSquareRows_init.2.1 759 = .ok (.iastore, 1) := by decide +kernel
theorem J_MSquareRows_init_d760 : decode J_MSquareRows_init.2.1 760 = .ok (.dup, 1) := by decide +kernel
theorem J_MSquareRows_init_d761 : decode J_MSquareRows_init.2.1 761 = .ok (.bipush 126, 2) := by decide +kernel
theorem J_MSquareRows_init_d763 : decode J_MSquareRows_init.2.1 763 = .ok (.bipush 26, 2) := by decide +kernel
theorem J_MSquareRows_init_d765 : decode J_MSquareRows_init.2.1 765 = .ok (.iastore, 1) := by decide +kernel
theorem J_MSquareRows_init_d766 : decode J_MSquareRows_init.2.1 766 = .ok (.dup, 1) := by decide +kernel
theorem J_MSquareRows_init_d767 : decode J_MSquareRows_init.2.1 767 = .ok (.bipush 127, 2) := by decide +kernel
theorem J_MSquareRows_init_d769 : decode J_MSquareRows_init.2.1 769 = .ok (.bipush 26, 2) := by decide +kernel
theorem J_MSquareRows_init_d771 : decode J_MSquareRows_init.2.1 771 = .ok (.iastore, 1) := by decide +kernel
theorem J_MSquareRows_init_d772 : decode J_MSquareRows_init.2.1 772 = .ok (.dup, 1) := by decide +kernel
theorem J_MSquareRows_init_d773 : decode J_MSquareRows_init.2.1 773 = .ok (.sipush 128, 3) := by decide +kernel
theorem J_MSquareRows_init_d776 : decode J_MSquareRows_init.2.1 776 = .ok (.bipush 24, 2) := by decide +kernel
theorem J_MSquareRows_init_d778 : decode J_MSquareRows_init.2.1 778 = .ok (.iastore, 1) := by decide +kernel
theorem J_MSquareRows_init_d779 : decode J_MSquareRows_init.2.1 779 = .ok (.dup, 1) := by decide +kernel
theorem J_MSquareRows_init_d780 : decode J_MSquareRows_init.2.1 780 = .ok (.sipush 129, 3) := by decide +kernel
theorem J_MSquareRows_init_d783 : decode J_MSquareRows_init.2.1 783 = .ok (.bipush 28, 2) := by decide +kernel
theorem J_MSquareRows_init_d785 : decode J_MSquareRows_init.2.1 785 = .ok (.iastore, 1) := by decide +kernel
theorem J_MSquareRows_init_d786 : decode J_MSquareRows_init.2.1 786 = .ok (.dup, 1) := by decide +kernel
theorem J_MSquareRows_init_d787 : decode J_MSquareRows_init.2.1 787 = .ok (.sipush 130, 3) := by decide +kernel
theorem J_MSquareRows_init_d790 : decode J_MSquareRows_init.2.1 790 = .ok (.bipush 24, 2) := by decide +kernel
theorem J_MSquareRows_init_d792 : decode J_MSquareRows_init.2.1 792 = .ok (.iastore, 1) := by decide +kernel
theorem J_MSquareRows_init_d793 : decode J_MSquareRows_init.2.1 793 = .ok (.dup, 1) := by decide +kernel
theorem J_MSquareRows_init_d794 : decode J_MSquareRows_init.2.1 794 = .ok (.sipush 131, 3) := by decide +kernel
theorem J_MSquareRows_init_d797 : decode J_MSquareRows_init.2.1 797 = .ok (.bipush 28, 2) := by decide +kernel
theorem J_MSquareRows_init_d799 : decode J_MSquareRows_init.2.1 799 = .ok (.iastore, 1) := by decide +kernel
theorem J_MSquareRows_init_d800 : decode J_MSquareRows_init.2.1 800 = .ok (.dup, 1) := by decide +kernel
theorem J_MSquareRows_init_d801 : decode J_MSquareRows_init.2.1 801 = .ok (.sipush 132, 3) := by decide +kernel
theorem J_MSquareRows_init_d804 : decode J_MSquareRows_init.2.1 804 = .ok (.bipush 22, 2) := by decide +kernel
theorem J_MSquareRows_init_d806 : decode J_MSquareRows_init.2.1 806 = .ok (.iastore, 1) := by decide +kernel
theorem J_MSquareRows_init_d807 : decode J_MSquareRows_init.2.1 807 = .ok (.dup, 1) := by decide +kernel
theorem J_MSquareRows_init_d808 : decode J_MSquareRows_init.2.1 808 = .ok (.sipush 133, 3) := by decide +kernel
theorem J_MSquareRows_init_d811 : decode J_MSquareRows_init.2.1 811 = .ok (.bipush 24, 2) := by decide +kernel
theorem J_MSquareRows_init_d813 : decode J_MSquareRows_init.2.1 813 = .ok (.iastore, 1) := by decide +kernel
theorem J_MSquareRows_init_d814 : decode J_MSquareRows_init.2.1 814 = .ok (.dup, 1) := by decide +kernel
theorem J_MSquareRows_init_d815 : decode J_MSquareRows_init.2.1 815 = .ok (.sipush 134, 3) := by decide +kernel
theorem J_MSquareRows_init_d818 : decode J_MSquareRows_init.2.1 818 = .ok (.bipush 24, 2) := by decide +kernel
theorem J_MSquareRows_init_d820 : decode J_MSquareRows_init.2.1 820 = .ok (.iastore, 1) := by decide +kernel
theorem J_MSquareRows_init_d821 : decode J_MSquareRows_init.2.1 821 = .ok (.dup, 1) := by decide +kernel
theorem J_MSquareRows_init_d822 : decode J_MSquareRows_init.2.1 822 = .ok (.sipush 135, 3) := by decide +kernel
theorem J_MSquareRows_init_d825 : decode J_MSquareRows_init.2.1 825 = .ok (.bipush 30, 2) := by decide +kernel
theorem J_MSquareRows_init_d827 : decode J_MSquareRows_init.2.1 827 = .ok (.iastore, 1) := by decide +kernel
theorem J_MSquareRows_init_d828 : decode J_MSquareRows_init.2.1 828 = .ok (.dup, 1) := by decide +kernel
theorem J_MSquareRows_init_d829 : decode J_MSquareRows_init.2.1 829 = .ok (.sipush 136, 3) := by decide +kernel
theorem J_MSquareRows_init_d832 : decode J_MSquareRows_init.2.1 832 = .ok (.bipush 28, 2) := by decide +kernel
theorem J_MSquareRows_init_d834 : decode J_MSquareRows_init.2.1 834 = .ok (.iastore, 1) := by decide +kernel
theorem J_MSquareRows_init_d835 : decode J_MSquareRows_init.2.1 835 = .ok (.dup, 1) := by decide +kernel
theorem J_MSquareRows_init_d836 : decode J_MSquareRows_init.2.1 836 = .ok (.sipush 137, 3) := by decide +kernel
theorem J_MSquareRows_init_d839 : decode J_MSquareRows_init.2.1 839 = .ok (.bipush 28, 2) := by decide +kernel
theorem J_MSquareRows_init_d841 : decode J_MSquareRows_init.2.1 841 = .ok (.iastore, 1) := by decide +kernel
theorem J_MSquareRows_init_d842 : decode J_MSquareRows_init.2.1 842 = .ok (.dup, 1) := by decide +kernel
theorem J_MSquareRows_init_d843 : decode J_MSquareRows_init.2.1 843 = .ok (.sipush 138, 3) := by decide +kernel
theorem J_MSquareRows_init_d846 : decode J_MSquareRows_init.2.1 846 = .ok (.bipush 26, 2) := by decide +kernel
theorem J_MSquareRows_init_d848 : decode J_MSquareRows_init.2.1 848 = .ok (.iastore, 1) := by decide +kernel
theorem J_MSquareRows_init_d849 : decode J_MSquareRows_init.2.1 849 = .ok (.dup, 1) := by decide +kernel
theorem J_MSquareRows_init_d850 : decode J_MSquareRows_init.2.1 850 = .ok (.sipush 139, 3) := by decide +kernel
theorem J_MSquareRows_init_d853 : decode J_MSquareRows_init.2.1 853 = .ok (.bipush 28, 2) := by decide +kernel
theorem J_MSquareRows_init_d855 : decode J_MSquareRows_init.2.1 855 = .ok (.iastore, 1) := by decide +kernel
theorem J_MSquareRows_init_d856 : decode J_MSquareRows_init.2.1 856 = .ok (.dup, 1) := by decide +kernel
theorem J_MSquareRows_init_d857 : decode J_MSquareRows_init.2.1 857 = .ok (.sipush 140, 3) := by decide +kernel
theorem J_MSquareRows_init_d860 : decode J_MSquareRows_init.2.1 860 = .ok (.bipush 30, 2) := by decide +kernel
theorem J_MSquareRows_init_d862 : decode J_MSquareRows_init.2.1 862 = .ok (.iastore, 1) := by decide +kernel
theorem J_MSquareRows_init_d863 : decode J_MSquareRows_init.2.1 863 = .ok (.dup, 1) := by decide +kernel
theorem J_MSquareRows_init_d864 : decode J_MSquareRows_init.2.1 864 = .ok (.sipush 141, 3) := by decide +kernel
theorem J_MSquareRows_init_d867 : decode J_MSquareRows_init.2.1 867 = .ok (.bipush 24, 2) := by decide +kernel
theorem J_MSquareRows_init_d869 : decode J_MSquareRows_init.2.1 869 = .ok (.iastore, 1) := by decide +kernel
theorem J_MSquareRows_init_d870 : decode J_MSquareRows_init.2.1 870 = .ok (.dup, 1) := by decide +kernel
theorem J_MSquareRows_init_d871 : decode J_MSquareRows_init.2.1 871 = .ok (.sipush 142, 3) := by decide +kernel
theorem J_MSquareRows_init_d874 : decode J_MSquareRows_init.2.1 874 = .ok (.bipush 30, 2) := by decide +kernel
theorem J_MSquareRows_init_d876 : decode J_MSquareRows_init.2.1 876 = .ok (.iastore, 1) := by decide +kernel
theorem J_MSquareRows_init_d877 : decode J_MSquareRows_init.2.1 877 = .ok (.dup, 1) := by decide +kernel
theorem J_MSquareRows_init_d878 : decode J_MSquareRows_init.2.1 878 = .ok (.sipush 143, 3) := by decide +kernel
theorem J_MSquareRows_init_d881 : decode J_MSquareRows_init.2.1 881 = .ok (.bipush 30, 2) := by decide +kernel
theorem J_MSquareRows_init_d883 : decode J_MSquareRows_init.2.1 883 = .ok (.iastore, 1) := by decide +kernel
theorem J_MSquareRows_init_d884 : decode J_MSquareRows_init.2.1 884 = .ok (.dup, 1) := by decide +kernel
theorem J_MSquareRows_init_d885 : decode J_MSquareRows_init.2.1 885 = .ok (.sipush 144, 3) := by decide +kernel
theorem J_MSquareRows_init_d888 : decode J_MSquareRows_init.2.1 888 = .ok (.bipush 30, 2) := by decide +kernel
theorem J_MSquareRows_init_d890 : decode J_MSquareRows_init.2.1 890 = .ok (.iastore, 1) := by decide +kernel
theorem J_MSquareRows_init_d891 : decode J_MSquareRows_init.2.1 891 = .ok (.dup, 1) := by decide +kernel
theorem J_MSquareRows_init_d892 : decode J_MSquareRows_init.2.1 892 = .ok (.sipush 145, 3) := by decide +kernel
theorem J_MSquareRows_init_d895 : decode J_MSquareRows_init.2.1 895 = .ok (.bipush 30, 2) := by decide +kernel
theorem J_MSquareRows_init_d897 : decode J_MSquareRows_init.2.1 897 = .ok (.iastore, 1) := by decide +kernel
theorem J_MSquareRows_init_d898 : decode J_MSquareRows_init.2.1 898 = .ok (.dup, 1) := by decide +kernel
theorem J_MSquareRows_init_d899 : decode J_MSquareRows_init.2.1 899 = .ok (.sipush 146, 3) := by decide +kernel
theorem J_MSquareRows_init_d902 : decode J_MSquareRows_init.2.1 902 = .ok (.bipush 30, 2) := by decide +kernel
theorem J_MSquareRows_init_d904 : decode J_MSquareRows_init.2.1 904 = .ok (.iastore, 1) := by decide +kernel
theorem J_MSquareRows_init_d905 : decode J_MSquareRows_init.2.1 905 = .ok (.dup, 1) := by decide +kernel
theorem J_MSquareRows_init_d906 : decode J_MSquareRows_init.2.1 906 = .ok (.sipush 147, 3) := by decide +kernel
theorem J_MSquareRows_init_d909 : decode J_MSquareRows_init.2.1 909 = .ok (.bipush 30, 2) := by decide +kernel
theorem J_MSquareRows_init_d911 : decode J_MSquareRows_init.2.1 911 = .ok (.iastore, 1) := by decide +kernel
theorem J_MSquareRows_init_d912 : decode J_MSquareRows_init.2.1 912 = .ok (.dup, 1) := by decide +kernel
theorem J_MSquareRows_init_d913 : decode J_MSquareRows_init.2.1 913 = .ok (.sipush 148, 3) := by decide +kernel
theorem J_MSquareRows_init_d916 : decode J_MSquareRows_init.2.1 916 = .ok (.bipush 30, 2) := by decide +kernel
theorem J_MSquareRows_init_d918 : decode J_MSquareRows_init.2.1 918 = .ok (.iastore, 1) := by decide +kernel
theorem J_MSquareRows_init_d919 : decode J_MSquareRows_init.2.1 919 = .ok (.dup, 1) := by decide +kernel
theorem J_MSquareRows_init_d920 : decode J_MSquareRows_init.2.1 920 = .ok (.sipush 149, 3) := by decide +kernel
theorem J_MSquareRows_init_d923 : decode J_MSquareRows_init.2.1 923 = .ok (.bipush 30, 2) := by decide +kernel
theorem J_MSquareRows_init_d925 : decode J_MSquareRows_init.2.1 925 = .ok (.iastore, 1) := by decide +kernel
theorem J_MSquareRows_init_d926 : decode J_MSquareRows_init.2.1 926 = .ok (.dup, 1) := by decide +kernel
theorem J_MSquareRows_init_d927 : decode J_MSquareRows_init.2.1 927 = .ok (.sipush 150, 3) := by decide +kernel
theorem J_MSquareRows_init_d930 : decode J_MSquareRows_init.2.1 930 = .ok (.bipush 30, 2) := by decide +kernel
theorem J_MSquareRows_init_d932 : decode J_MSquareRows_init.2.1 932 = .ok (.iastore, 1) := by decide +kernel
theorem J_MSquareRows_init_d933 : decode J_MSquareRows_init.2.1 933 = .ok (.dup, 1) := by decide +kernel
theorem J_MSquareRows_init_d934 : decode J_MSquareRows_init.2.1 934 = .ok (.sipush 151, 3) := by decide +kernel
theorem J_MSquareRows_init_d937 : decode J_MSquareRows_init.2.1 937 = .ok (.bipush 30, 2) := by decide +kernel
theorem J_MSquareRows_init_d939 : decode J_MSquareRows_init.2.1 939 = .ok (.iastore, 1) := by decide +kernel
theorem J_MSquareRows_init_d940 : decode J_MSquareRows_init.2.1 940 = .ok (.dup, 1) := by decide +kernel
theorem J_MSquareRows_init_d941 : decode J_MSquareRows_init.2.1 941 = .ok (.sipush 152, 3) := by decide +kernel
theorem J_MSquareRows_init_d944 : decode J_MSquareRows_init.2.1 944 = .ok (.bipush 30, 2) := by decide +kernel
theorem J_MSquareRows_init_d946 : decode J_MSquareRows_init.2.1 946 = .ok (.iastore, 1) := by decide +kernel
theorem J_MSquareRows_init_d947 : decode J_MSquareRows_init.2.1 947 = .ok (.dup, 1) := by decide +kernel
theorem J_MSquareRows_init_d948 : decode J_MSquareRows_init.2.1 948 = .ok (.sipush 153, 3) := by decide +kernel
theorem J_MSquareRows_init_d951 : decode J_MSquareRows_init.2.1 951 = .ok (.bipush 30, 2) := by decide +kernel
theorem J_MSquareRows_init_d953 : decode J_MSquareRows_init.2.1 953 = .ok (.iastore, 1) := by decide +kernel
theorem J_MSquareRows_init_d954 : decode J_MSquareRows_init.2.1 954 = .ok (.dup, 1) := by decide +kernel
theorem J_MSquareRows_init_d955 : decode J_MSquareRows_init.2.1 955 = .ok (.sipush 154, 3) := by decide +kernel
theorem J_MSquareRows_init_d958 : decode J_MSquareRows_init.2.1 958 = .ok (.bipush 30, 2) := by decide +kernel
theorem J_MSquareRows_init_d960 : decode J_MSquareRows_init.2.1 960 = .ok (.iastore, 1) := by decide +kernel
theorem J_MSquareRows_init_d961 : decode J_MSquareRows_init.2.1 961 = .ok (.dup, 1) := by decide +kernel
theorem J_MSquareRows_init_d962 : decode J_MSquareRows_init.2.1 962 = .ok (.sipush 155, 3) := by decide +kernel
theorem J_MSquareRows_init_d965 : decode J_MSquareRows_init.2.1 965 = .ok (.bipush 30, 2) := by decide +kernel
theorem J_MSquareRows_init_d967 : decode J_MSquareRows_init.2.1 967 = .ok (.iastore, 1) := by decide +kernel
theorem J_MSquareRows_init_d968 : decode J_MSquareRows_init.2.1 968 = .ok (.dup, 1) := by decide +kernel
theorem J_MSquareRows_init_d969 : decode J_MSquareRows_init.2.1 969 = .ok (.sipush 156, 3) := by decide +kernel
theorem J_MSquareRows_init_d972 : decode J_MSquareRows_init.2.1 972 = .ok (.bipush 30, 2) := by decide +kernel
theorem J_MSquareRows_init_d974 : decode J_MSquareRows_init.2.1 974 = .ok (.iastore, 1) := by decide +kernel
theorem J_MSquareRows_init_d975 : decode J_MSquareRows_init.2.1 975 = .ok (.dup, 1) := by decide +kernel
theorem J_MSquareRows_init_d976 : decode J_MSquareRows_init.2.1 976 = .ok (.sipush 157, 3) := by decide +kernel
theorem J_MSquareRows_init_d979 : decode J_MSquareRows_init.2.1 979 = .ok (.bipush 30, 2) := by decide +kernel
theorem J_MSquareRows_init_d981 : decode J_MSquareRows_init.2.1 981 = .ok (.iastore, 1) := by decide +kernel
theorem J_MSquareRows_init_d982 : decode J_MSquareRows_init.2.1 982 = .ok (.dup, 1) := by decide +kernel
theorem J_MSquareRows_init_d983 : decode J_MSquareRows_init.2.1 983 = .ok (.sipush 158, 3) := by decide +kernel
theorem J_MSquareRows_init_d986 : decode J_MSquareRows_init.2.1 986 = .ok (.bipush 30, 2) := by decide +kernel
theorem J_MSquareRows_init_d988 : decode J_MSquareRows_init.2.1 988 = .ok (.iastore, 1) := by decide +kernel
theorem J_MSquareRows_init_d989 : decode J_MSquareRows_init.2.1 989 = .ok (.dup, 1) := by decide +kernel
theorem J_MSquareRows_init_d990 : decode J_MSquareRows_init.2.1 990 = .ok (.sipush 159, 3) := by decide +kernel
theorem J_MSquareRows_init_d993 : decode J_MSquareRows_init.2.1 993 = .ok (.bipush 30, 2) := by decide +kernel
theorem J_MSquareRows_init_d995 : decode J_MSquareRows_init.2.1 995 = .ok (.iastore, 1) := by decide +kernel
theorem J_MSquareRows_init_d996 : decode J_MSquareRows_init.2.1 996 = .ok (.putfield 7, 3) := by decide +kernel
theorem J_MSquareRows_init_d999 : decode J_MSquareRows_init.2.1 999 = .ok (.aload_n 0, 1) := by decide +kernel
theorem J_MSquareRows_init_d1000 : decode J_MSquareRows_init.2.1 1000 = .ok (.sipush 160, 3) := by decide +kernel
theorem J_MSquareRows_init_d1003 : decode J_MSquareRows_init.2.1 1003 = .ok (.newarray .int, 2) := by decide +kernel
theorem J_MSquareRows_init_d1005 : decode J_MSquareRows_init.2.1 1005 = .ok (.dup, 1) := by decide +kernel
theorem J_MSquareRows_init_d1006 : decode J_MSquareRows_init.2.1 1006 = .ok (.iconst 0, 1) := by decide +kernel
theorem J_MSquareRows_init_d1007 : decode J_MSquareRows_init.2.1 1007 = .ok (.iconst 1, 1) := by decide +kernel
theorem J_MSquareRows_init_d1008 : decode J_MSquareRows_init.2.1 1008 = .ok (.iastore, 1) := by decide +kernel
theorem J_MSquareRows_init_d1009 : decode J_MSquareRows_init.2.1 1009 = .ok (.dup, 1) := by decide +kernel
theorem J_MSquareRows_init_d1010 : decode J_MSquareRows_init.2.1 1010 = .ok (.iconst 1, 1) := by decide +kernel
theorem J_MSquareRows_init_d1011 : decode J_MSquareRows_init.2.1 1011 = .ok (.iconst 1, 1) := by decide +kernel
theorem J_MSquareRows_init_d1012 : decode J_MSquareRows_init.2.1 1012 = .ok (.iastore, 1) := by decide +kernel
theorem J_MSquareRows_init_d1013 : decode J_MSquareRows_init.2.1 1013 = .ok (.dup, 1) := by decide +kernel
theorem J_MSquareRows_init_d1014 : decode J_MSquareRows_init.2.1 1014 = .ok (.iconst 2, 1) := by decide +kernel
theorem J_MSquareRows_init_d1015 : decode J_MSquareRows_init.2.1 1015 = .ok (.iconst 1, 1) := by decide +kernel
theorem J_MSquareRows_init_d1016 : decode J_MSquareRows_init.2.1 1016 = .ok (.iastore, 1) := by decide +kernel
theorem J_MSquareRows_init_d1017 : decode J_MSquareRows_init.2.1 1017 = .ok (.dup, 1) := by decide +kernel
theorem J_MSquareRows_init_d1018 : decode J_MSquareRows_init.2.1 1018 = .ok (.iconst 3, 1) := by decide +kernel
theorem J_MSquareRows_init_d1019 : decode J_MSquareRows_init.2.1 1019 = .ok (.iconst 1, 1) := by decide +kernel
theorem J_MSquareRows_init_d1020 : decode J_MSquareRows_init.2.1 1020 = .ok (.iastore, 1) := by decide +kernel
theorem J_MSquareRows_init_d1021 : decode J_MSquareRows_init.2.1 1021 = .ok (.dup, 1) := by decide +kernel
theorem J_MSquareRows_init_d1022 : decode J_MSquareRows_init.2.1 1022 = .ok (.iconst 4, 1) := by decide +kernel
theorem J_MSquareRows_init_d1023 : decode J_MSquareRows_init.2.1 1023 = .ok (.iconst 1, 1) := by decide +kernel
theorem J_MSquareRows_init_d1024 : decode J_MSquareRows_init.2.1 1024 = .ok (.iastore, 1) := by decide +kernel
theorem J_MSquareRows_init_d1025 : decode J_MSquareRows_init.2.1 1025 = .ok (.dup, 1) := by decide +kernel
theorem J_MSquareRows_init_d1026 : decode J_MSquareRows_init.2.1 1026 = .ok (.iconst 5, 1) := by decide +kernel
theorem J_MSquareRows_init_d1027 : decode J_MSquareRows_init.2.1 1027 = .ok (.iconst 2, 1) := by decide +kernel
theorem J_MSquareRows_init_d1028 : decode J_MSquareRows_init.2.1 1028 = .ok (.iastore, 1) := by decide +kernel
theorem J_MSquareRows_init_d1029 : decode J_MSquareRows_init.2.1 1029 = .ok (.dup, 1) := by decide +kernel
theorem J_MSquareRows_init_d1030 : decode J_MSquareRows_init.2.1 1030 = .ok (.bipush 6, 2) := by decide +kernel
theorem J_MSquareRows_init_d1032 : decode J_MSquareRows_init.2.1 1032 = .ok (.iconst 2, 1) := by decide +kernel
theorem J_MSquareRows_init_d1033 : decode J_MSquareRows_init.2.1 1033 = .ok (.iastore, 1) := by decide +kernel
theorem J_MSquareRows_init_d1034 : decode J_MSquareRows_init.2.1 1034 = .ok (.dup, 1) := by decide +kernel
theorem J_MSquareRows_init_d1035 : decode J_MSquareRows_init.2.1 1035 = .ok (.bipush 7, 2) := by decide +kernel
theorem J_MSquareRows_init_d1037 : decode J_MSquareRows_init.2.1 1037 = .ok (.iconst 2, 1) := by decide +kernel
theorem J_MSquareRows_init_d1038 : decode J_MSquareRows_init.2.1 1038 = .ok (.iastore, 1) := by decide +kernel
theorem J_MSquareRows_init_d1039 : decode J_MSquareRows_init.2.1 1039 = .ok (.dup, 1) := by decide +kernel
theorem J_MSquareRows_init_d1040 : decode J_MSquareRows_init.2.1 1040 = .ok (.bipush 8, 2) := by decide +kernel
theorem J_MSquareRows_init_d1042 : decode J_MSquareRows_init.2.1 1042 = .ok (.iconst 2, 1) := by decide +kernel
theorem J_MSquareRows_init_d1043 : decode J_MSquareRows_init.2.1 1043 = .ok (.iastore, 1) := by decide +kernel
theorem J_MSquareRows_init_d1044 : decode J_MSquareRows_init.2.1 1044 = .ok (.dup, 1) := by decide +kernel
theorem J_MSquareRows_init_d1045 : decode J_MSquareRows_init.2.1 1045 = .ok (.bipush 9, 2) := by decide +kernel
theorem J_MSquareRows_init_d1047 : decode J_MSquareRows_init.2.1 1047 = .ok (.iconst 4, 1) := by decide +kernel
theorem J_MSquareRows_init_d1048 : decode J_MSquareRows_init.2.1 1048 = .ok (.iastore, 1) := by decide +kernel
theorem J_MSquareRows_init_d1049 : decode J_MSquareRows_init.2.1 1049 = .ok (.dup, 1) := by decide +kernel
theorem J_MSquareRows_init_d1050 : decode J_MSquareRows_init.2.1 1050 = .ok (.bipush 10, 2) := by decide +kernel
theorem J_MSquareRows_init_d1052 : decode J_MSquareRows_init.2.1 1052 = .ok (.iconst 4, 1) := by decide +kernel
theorem J_MSquareRows_init_d1053 : decode J_MSquareRows_init.2.1 1053 = .ok (.iastore, 1) := by decide +kernel
theorem J_MSquareRows_init_d1054 : decode J_MSquareRows_init.2.1 1054 = .ok (.dup, 1) := by decide +kernel
theorem J_MSquareRows_init_d1055 : decode J_MSquareRows_init.2.1 1055 = .ok (.bipush 11, 2) := by decide +kernel
theorem J_MSquareRows_init_d1057 : decode J_MSquareRows_init.2.1 1057 = .ok (.iconst 4, 1) := by decide +kernel
theorem J_MSquareRows_init_d1058 : decode J_MSquareRows_init.2.1 1058 = .ok (.iastore, 1) := by decide +kernel
theorem J_MSquareRows_init_d1059 : decode J_MSquareRows_init.2.1 1059 = .ok (.dup, 1) := by decide +kernel
theorem J_MSquareRows_init_d1060 : decode J_MSquareRows_init.2.1 1060 = .ok (.bipush 12, 2) := by decide +kernel
theorem J_MSquareRows_init_d1062 : decode J_MSquareRows_init.2.1 1062 = .ok (.iconst 4, 1) := by decide +kernel
theorem J_MSquareRows_init_d1063 : decode J_MSquareRows_init.2.1 1063 = .ok (.iastore, 1) := by decide +kernel
theorem J_MSquareRows_init_d1064 : decode J_MSquareRows_init.2.1 1064 = .ok (.dup, 1) := by decide +kernel
theorem J_MSquareRows_init_d1065 : decode J_MSquareRows_init.2.1 1065 = .ok (.bipush 13, 2) := by decide +kernel
theorem J_MSquareRows_init_d1067 : decode J_MSquareRows_init.2.1 1067 = .ok (.iconst 4, 1) := by decide +kernel
theorem J_MSquareRows_init_d1068 : decode J_MSquareRows_init.2.1 1068 = .ok (.iastore, 1) := by decide +kernel
theorem J_MSquareRows_init_d1069 : decode J_MSquareRows_init.2.1 1069 = .ok (.dup, 1) := by decide +kernel
theorem J_MSquareRows_init_d1070 : decode J_MSquareRows_init.2.1 1070 = .ok (.bipush 14, 2) := by decide +kernel
theorem J_MSquareRows_init_d1072 : decode J_MSquareRows_init.2.1 1072 = .ok (.bipush 6, 2) := by decide +kernel
theorem J_MSquareRows_init_d1074 : decode J_MSquareRows_init.2.1 1074 = .ok (.iastore, 1) := by decide +kernel
theorem J_MSquareRows_init_d1075 : decode J_MSquareRows_init.2.1 1075 = .ok (.dup, 1) := by decide +kernel
theorem J_MSquareRows_init_d1076 : decode J_MSquareRows_init.2.1 1076 = .ok (.bipush 15, 2) := by decide +kernel
theorem J_MSquareRows_init_d1078 : decode J_MSquareRows_init.2.1 1078 = .ok (.bipush 6, 2) := by decide +kernel
theorem J_MSquareRows_init_d1080 : decode J_MSquareRows_init.2.1 1080 = .ok (.iastore, 1) := by decide +kernel
theorem J_MSquareRows_init_d1081 : decode J_MSquareRows_init.2.1 1081 = .ok (.dup, 1) := by decide +kernel
theorem J_MSquareRows_init_d1082 : decode J_MSquareRows_init.2.1 1082 = .ok (.bipush 16, 2) := by decide +kernel
theorem J_MSquareRows_init_d1084 : decode J_MSquareRows_init.2.1 1084 = .ok (.bipush 6, 2) := by decide +kernel
theorem J_MSquareRows_init_d1086 : decode J_MSquareRows_init.2.1 1086 = .ok (.iastore, 1) := by decide +kernel
theorem J_MSquareRows_init_d1087 : decode J_MSquareRows_init.2.1 1087 = .ok (.dup, 1) := by decide +kernel
theorem J_MSquareRows_init_d1088 : decode J_MSquareRows_init.2.1 1088 = .ok (.bipush 17, 2) := by decide +kernel
theorem J_MSquareRows_init_d1090 : decode J_MSquareRows_init.2.1 1090 = .ok (.bipush 6, 2) := by decide +kernel
theorem J_MSquareRows_init_d1092 : decode J_MSquareRows_init.2.1 1092 = .ok (.iastore, 1) := by decide +kernel
theorem J_MSquareRows_init_d1093 : decode J_MSquareRows_init.2.1 1093 = .ok (.dup, 1) := by decide +kernel
theorem J_MSquareRows_init_d1094 : decode J_MSquareRows_init.2.1 1094 = .ok (.bipush 18, 2) := by decide +kernel
theorem J_MSquareRows_init_d1096 : decode J_MSquareRows_init.2.1 1096 = .ok (.bipush 7, 2) := by decide +kernel
theorem J_MSquareRows_init_d1098 : decode J_MSquareRows_init.2.1 1098 = .ok (.iastore, 1) := by decide +kernel
theorem J_MSquareRows_init_d1099 : decode J_MSquareRows_init.2.1 1099 = .ok (.dup, 1) := by decide +kernel
theorem J_MSquareRows_init_d1100 : decode J_MSquareRows_init.2.1 1100 = .ok (.bipush 19, 2) := by decide +kernel
theorem J_MSquareRows_init_d1102 : decode J_MSquareRows_init.2.1 1102 = .ok (.bipush 8, 2) := by decide +kernel
theorem J_MSquareRows_init_d1104 : decode J_MSquareRows_init.2.1 1104 = .ok (.iastore, 1) := by decide +kernel
theorem J_MSquareRows_init_d1105 : decode J_MSquareRows_init.2.1 1105 = .ok (.dup, 1) := by decide +kernel
theorem J_MSquareRows_init_d1106 : decode J_MSquareRows_init.2.1 1106 = .ok (.bipush 20, 2) := by decide +kernel
theorem J_MSquareRows_init_d1108 : decode J_MSquareRows_init.2.1 1108 = .ok (.bipush 8, 2) := by decide +kernel
theorem J_MSquareRows_init_d1110 : decode J_MSquareRows_init.2.1 1110 = .ok (.iastore, 1) := by decide +kernel
theorem J_MSquareRows_init_d1111 : decode J_MSquareRows_init.2.1 1111 = .ok (.dup, 1) := by decide +kernel
theorem J_MSquareRows_init_d1112 : decode J_MSquareRows_init.2.1 1112 = .ok (.bipush 21, 2) := by decide +kernel
theorem J_MSquareRows_init_d1114 : decode J_MSquareRows_init.2.1 1114 = .ok (.bipush 9, 2) := by decide +kernel
theorem J_MSquareRows_init_d1116 : decode J_MSquareRows_init.2.1 1116 = .ok (.iastore, 1) := by decide +kernel
theorem J_MSquareRows_init_d1117 : decode J_MSquareRows_init.2.1 1117 = .ok (.dup, 1) := by decide +kernel
theorem J_MSquareRows_init_d1118 : decode J_MSquareRows_init.2.1 1118 = .ok (.bipush 22, 2) := by decide +kernel
theorem J_MSquareRows_init_d1120 : decode J_MSquareRows_init.2.1 1120 = .ok (.bipush 9, 2) := by decide +kernel
theorem J_MSquareRows_init_d1122 : decode J_MSquareRows_init.2.1 1122 = .ok (.iastore, 1) := by decide +kernel
theorem J_MSquareRows_init_d1123 : decode J_MSquareRows_init.2.1 1123 = .ok (.dup, 1) := by decide +kernel
theorem J_MSquareRows_init_d1124 : decode J_MSquareRows_init.2.1 1124 = .ok (.bipush 23, 2) := by decide +kernel
theorem J_MSquareRows_init_d1126 : decode J_MSquareRows_init.2.1 1126 = .ok (.bipush 10, 2) := by decide +kernel
theorem J_MSquareRows_init_d1128 : decode J_MSquareRows_init.2.1 1128 = .ok (.iastore, 1) := by decide +kernel
theorem J_MSquareRows_init_d1129 : decode J_MSquareRows_init.2.1 1129 = .ok (.dup, 1) := by decide +kernel
theorem J_MSquareRows_init_d1130 : decode J_MSquareRows_init.2.1 1130 = .ok (.bipush 24, 2) := by decide +kernel
theorem J_MSquareRows_init_d1132 : decode J_MSquareRows_init.2.1 1132 = .ok (.bipush 12, 2) := by decide +kernel
theorem J_MSquareRows_init_d1134 : decode J_MSquareRows_init.2.1 1134 = .ok (.iastore, 1) := by decide +kernel
theorem J_MSquareRows_init_d1135 : decode J_MSquareRows_init.2.1 1135 = .ok (.dup, 1) := by decide +kernel
theorem J_MSquareRows_init_d1136 : decode J_MSquareRows_init.2.1 1136 = .ok (.bipush 25, 2) := by decide +kernel
theorem J_MSquareRows_init_d1138 : decode J_MSquareRows_init.2.1 1138 = .ok (.bipush 12, 2) := by decide +kernel
theorem J_MSquareRows_init_d1140 : decode J_MSquareRows_init.2.1 1140 = .ok (.iastore, 1) := by decide +kernel
theorem J_MSquareRows_init_d1141 : decode J_MSquareRows_init.2.1 1141 = .ok (.dup, 1) := by decide +kernel
theorem J_MSquareRows_init_d1142 : decode J_MSquareRows_init.2.1 1142 = .ok (.bipush 26, 2) := by decide +kernel
theorem J_MSquareRows_init_d1144 : decode J_MSquareRows_init.2.1 1144 = .ok (.bipush 12, 2) := by decide +kernel
theorem J_MSquareRows_init_d1146 : decode J_MSquareRows_init.2.1 1146 = .ok (.iastore, 1) := by decide +kernel
theorem J_MSquareRows_init_d1147 : decode J_MSquareRows_init.2.1 1147 = .ok (.dup, 1) := by decide +kernel
theorem J_MSquareRows_init_d1148 : decode J_MSquareRows_init.2.1 1148 = .ok (.bipush 27, 2) := by decide +kernel
theorem J_MSquareRows_init_d1150 : decode J_MSquareRows_init.2.1 1150 = .ok (.bipush 13, 2) := by decide +kernel
theorem J_MSquareRows_init_d1152 : decode J_MSquareRows_init.2.1 1152 = .ok (.iastore, 1) := by decide +kernel
theorem J_MSquareRows_init_d1153 : decode J_MSquareRows_init.2.1 1153 = .ok (.dup, 1) := by decide +kernel
theorem J_MSquareRows_init_d1154 : decode J_MSquareRows_init.2.1 1154 = .ok (.bipush 28, 2) := by decide +kernel
theorem J_MSquareRows_init_d1156 : decode J_MSquareRows_init.2.1 1156 = .ok (.bipush 14, 2) := by decide +kernel
theorem J_MSquareRows_init_d1158 : decode J_MSquareRows_init.2.1 1158 = .ok (.iastore, 1) := by decide +kernel
theorem J_MSquareRows_init_d1159 : decode J_MSquareRows_init.2.1 1159 = .ok (.dup, 1) := by decide +kernel
theorem J_MSquareRows_init_d1160 : decode J_MSquareRows_init.2.1 1160 = .ok (.bipush 29, 2) := by decide +kernel
theorem J_MSquareRows_init_d1162 : decode J_MSquareRows_init.2.1 1162 = .ok (.bipush 15, 2) := by decide +kernel
theorem J_MSquareRows_init_d1164 : decode J_MSquareRows_init.2.1 1164 = .ok (.iastore, 1) := by decide +kernel
theorem J_MSquareRows_init_d1165 : decode J_MSquareRows_init.2.1 1165 = .ok (.dup, 1) := by decide +kernel
theorem J_MSquareRows_init_d1166 : decode J_MSquareRows_init.2.1 1166 = .ok (.bipush 30, 2) := by decide +kernel
theorem J_MSquareRows_init_d1168 : decode J_MSquareRows_init.2.1 1168 = .ok (.bipush 16, 2) := by decide +kernel
theorem J_MSquareRows_init_d1170 : decode J_MSquareRows_init.2.1 1170 = .ok (.iastore, 1) := by decide +kernel
theorem J_MSquareRows_init_d1171 : decode J_MSquareRows_init.2.1 1171 = .ok (.dup, 1) := by decide +kernel
theorem J_MSquareRows_init_d1172 : decode J_MSquareRows_init.2.1 1172 = .ok (.bipush 31, 2) := by decide +kernel
theorem J_MSquareRows_init_d1174 : decode J_MSquareRows_init.2.1 1174 = .ok (.bipush 17, 2) := by decide +kernel
theorem J_MSquareRows_init_d1176 : decode J_MSquareRows_init.2.1 1176 = .ok (.iastore, 1) := by decide +kernel
theorem J_MSquareRows_init_d1177 : decode J_MSquareRows_init.2.1 1177 = .ok (.dup, 1) := by decide +kernel
theorem J_MSquareRows_init_d1178 : decode J_MSquareRows_init.2.1 1178 = .ok (.bipush 32, 2) := by decide +kernel
theorem J_MSquareRows_init_d1180 : decode J_MSquareRows_init.2.1 1180 = .ok (.bipush 18, 2) := by decide +kernel
theorem J_MSquareRows_init_d1182 : decode J_MSquareRows_init.2.1 1182 = .ok (.iastore, 1) := by decide +kernel
theorem J_MSquareRows_init_d1183 : decode J_MSquareRows_init.2.1 1183 = .ok (.dup, 1) := by decide +kernel
theorem J_MSquareRows_init_d1184 : decode J_MSquareRows_init.2.1 1184 = .ok (.bipush 33, 2) := by decide +kernel
theorem J_MSquareRows_init_d1186 : decode J_MSquareRows_init.2.1 1186 = .ok (.bipush 19, 2) := by decide +kernel
theorem J_MSquareRows_init_d1188 : decode J_MSquareRows_init.2.1 1188 = .ok (.iastore, 1) := by decide +kernel
theorem J_MSquareRows_init_d1189 : decode J_MSquareRows_init.2.1 1189 = .ok (.dup, 1) := by decide +kernel
theorem J_MSquareRows_init_d1190 : decode J_MSquareRows_init.2.1 1190 = .ok (.bipush 34, 2) := by decide +kernel
theorem J_MSquareRows_init_d1192 : decode J_MSquareRows_init.2.1 1192 = .ok (.bipush 19, 2) := by decide +kernel
theorem J_MSquareRows_init_d1194 : decode J_MSquareRows_init.2.1 1194 = .ok (.iastore, 1) := by decide +kernel
theorem J_MSquareRows_init_d1195 : decode J_MSquareRows_init.2.1 1195 = .ok (.dup, 1) := by decide +kernel
theorem J_MSquareRows_init_d1196 : decode J_MSquareRows_init.2.1 1196 = .ok (.bipush 35, 2) := by decide +kernel
theorem J_MSquareRows_init_d1198 : decode J_MSquareRows_init.2.1 1198 = .ok (.bipush 20, 2) := by decide +kernel
theorem J_MSquareRows_init_d1200 : decode J_MSquareRows_init.2.1 1200 = .ok (.iastore, 1) := by decide +kernel
theorem J_MSquareRows_init_d1201 : decode J_MSquareRows_init.2.1 1201 = .ok (.dup, 1) := by decide +kernel
theorem J_MSquareRows_init_d1202 : decode J_MSquareRows_init.2.1 1202 = .ok (.bipush 36, 2) := by decide +kernel
theorem J_MSquareRows_init_d1204 : decode J_MSquareRows_init.2.1 1204 = .ok (.bipush 21, 2) := by decide +kernel
theorem J_MSquareRows_init_d1206 : decode J_MSquareRows_init.2.1 1206 = .ok (.iastore, 1) := by decide +kernel
theorem J_MSquareRows_init_d1207 : decode J_MSquareRows_init.2.1 1207 = .ok (.dup, 1) := by decide +kernel
theorem J_MSquareRows_init_d1208 : decode J_MSquareRows_init.2.1 1208 = .ok (.bipush 37, 2) := by decide +kernel
theorem J_MSquareRows_init_d1210 : decode J_MSquareRows_init.2.1 1210 = .ok (.bipush 22, 2) := by decide +kernel
theorem J_MSquareRows_init_d1212 : decode J_MSquareRows_init.2.1 1212 = .ok (.iastore, 1) := by decide +kernel
theorem J_MSquareRows_init_d1213 : decode J_MSquareRows_init.2.1 1213 = .ok (.dup, 1) := by decide +kernel
theorem J_MSquareRows_init_d1214 : decode J_MSquareRows_init.2.1 1214 = .ok (.bipush 38, 2) := by decide +kernel
theorem J_MSquareRows_init_d1216 : decode J_MSquareRows_init.2.1 1216 = .ok (.bipush 24, 2) := by decide +kernel
theorem J_MSquareRows_init_d1218 : decode J_MSquareRows_init.2.1 1218 = .ok (.iastore, 1) := by decide +kernel
theorem J_MSquareRows_init_d1219 : decode J_MSquareRows_init.2.1 1219 = .ok (.dup, 1) := by decide +kernel
theorem J_MSquareRows_init_d1220 : decode J_MSquareRows_init.2.1 1220 = .ok (.bipush 39, 2) := by decide +kernel
theorem J_MSquareRows_init_d1222 : decode J_MSquareRows_init.2.1 1222 = .ok (.bipush 25, 2) := by decide +kernel
theorem J_MSquareRows_init_d1224 : decode J_MSquareRows_init.2.1 1224 = .ok (.iastore, 1) := by decide +kernel
theorem J_MSquareRows_init_d1225 : decode J_MSquareRows_init.2.1 1225 = .ok (.dup, 1) := by decide +kernel
theorem J_MSquareRows_init_d1226 : decode J_MSquareRows_init.2.1 1226 = .ok (.bipush 40, 2) := by decide +kernel
theorem J_MSquareRows_init_d1228 : decode J_MSquareRows_init.2.1 1228 = .ok (.iconst 1, 1) := by decide +kernel
theorem J_MSquareRows_init_d1229 : decode J_MSquareRows_init.2.1 1229 = .ok (.iastore, 1) := by decide +kernel
theorem J_MSquareRows_init_d1230 : decode J_MSquareRows_init.2.1 1230 = .ok (.dup, 1) := by decide +kernel
theorem J_MSquareRows_init_d1231 : decode J_MSquareRows_init.2.1 1231 = .ok (.bipush 41, 2) := by decide +kernel
theorem J_MSquareRows_init_d1233 : decode J_MSquareRows_init.2.1 1233 = .ok (.iconst 1, 1) := by decide +kernel
theorem J_MSquareRows_init_d1234 : decode J_MSquareRows_init.2.1 1234 = .ok (.iastore, 1) := by decide +kernel
theorem J_MSquareRows_init_d1235 : decode J_MSquareRows_init.2.1 1235 = .ok (.dup, 1) := by decide +kernel
theorem J_MSquareRows_init_d1236 : decode J_MSquareRows_init.2.1 1236 = .ok (.bipush 42, 2) := by decide +kernel
theorem J_MSquareRows_init_d1238 : decode J_MSquareRows_init.2.1 1238 = .ok (.iconst 1, 1) := by decide +kernel
theorem J_MSquareRows_init_d1239 : decode J_MSquareRows_init.2.1 1239 = .ok (.iastore, 1) := by decide +kernel
theorem J_MSquareRows_init_d1240 : decode J_MSquareRows_init.2.1 1240 = .ok (.dup, 1) := by decide +kernel
theorem J_MSquareRows_init_d1241 : decode J_MSquareRows_init.2.1 1241 = .ok (.bipush 43, 2) := by decide +kernel
theorem J_MSquareRows_init_d1243 : decode J_MSquareRows_init.2.1 1243 = .ok (.iconst 2, 1) := by decide +kernel
theorem J_MSquareRows_init_d1244 : decode J_MSquareRows_init.2.1 1244 = .ok (.iastore, 1) := by decide +kernel
theorem J_MSquareRows_init_d1245 : decode J_MSquareRows_init.2.1 1245 = .ok (.dup, 1) := by decide +kernel
theorem J_MSquareRows_init_d1246 : decode J_MSquareRows_init.2.1 1246 = .ok (.bipush 44, 2) := by decide +kernel
theorem J_MSquareRows_init_d1248 : decode J_MSquareRows_init.2.1 1248 = .ok (.iconst 2, 1) := by decide +kernel
theorem J_MSquareRows_init_d1249 : decode J_MSquareRows_init.2.1 1249 = .ok (.iastore, 1) := by decide +kernel
theorem J_MSquareRows_init_d1250 : decode J_MSquareRows_init.2.1 1250 = .ok (.dup, 1) := by decide +kernel
theorem J_MSquareRows_init_d1251 : decode J_MSquareRows_init.2.1 1251 = .ok (.bipush 45, 2) := by decide +kernel
theorem J_MSquareRows_init_d1253 : decode J_MSquareRows_init.2.1 1253 = .ok (.iconst 4, 1) := by decide +kernel
theorem J_MSquareRows_init_d1254 : decode J_MSquareRows_init.2.1 1254 = .ok (.iastore, 1) := by decide +kernel
theorem J_MSquareRows_init_d1255 : decode J_MSquareRows_init.2.1 1255 = .ok (.dup, 1) := by decide +kernel
theorem J_MSquareRows_init_d1256 : decode J_MSquareRows_init.2.1 1256 = .ok (.bipush 46, 2) := by decide +kernel
theorem J_MSquareRows_init_d1258 : decode J_MSquareRows_init.2.1 1258 = .ok (.iconst 4, 1) := by decide +kernel
theorem J_MSquareRows_init_d1259 : decode J_MSquareRows_init.2.1 1259 = .ok (.iastore, 1) := by decide +kernel
theorem J_MSquareRows_init_d1260 : decode J_MSquareRows_init.2.1 1260 = .ok (.dup, 1) := by decide +kernel
theorem J_MSquareRows_init_d1261 : decode J_MSquareRows_init.2.1 1261 = .ok (.bipush 47, 2) := by decide +kernel
theorem J_MSquareRows_init_d1263 : decode J_MSquareRows_init.2.1 1263 = .ok (.iconst 4, 1) := by decide +kernel
theorem J_MSquareRows_init_d1264 : decode J_MSquareRows_init.2.1 1264 = .ok (.iastore, 1) := by decide +kernel
theorem J_MSquareRows_init_d1265 : decode J_MSquareRows_init.2.1 1265 = .ok (.dup, 1) := by decide +kernel
theorem J_MSquareRows_init_d1266 : decode J_MSquareRows_init.2.1 1266 = .ok (.bipush 48, 2) := by decide +kernel
theorem J_MSquareRows_init_d1268 : decode J_MSquareRows_init.2.1 1268 = .ok (.iconst 5, 1) := by decide +kernel
theorem J_MSquareRows_init_d1269 : decode J_MSquareRows_init.2.1 1269 = .ok (.iastore, 1) := by decide +kernel
theorem J_MSquareRows_init_d1270 : decode J_MSquareRows_init.2.1 1270 = .ok (.dup, 1) := by decide +kernel
theorem J_MSquareRows_init_d1271 : decode J_MSquareRows_init.2.1 1271 = .ok (.bipush 49, 2) := by decide +kernel
theorem J_MSquareRows_init_d1273 : decode J_MSquareRows_init.2.1 1273 = .ok (.iconst 5, 1) := by decide +kernel
theorem J_MSquareRows_init_d1274 : decode J_MSquareRows_init.2.1 1274 = .ok (.iastore, 1) := by decide +kernel
theorem J_MSquareRows_init_d1275 : decode J_MSquareRows_init.2.1 1275 = .ok (.dup, 1) := by decide +kernel
theorem J_MSquareRows_init_d1276 : decode J_MSquareRows_init.2.1 1276 = .ok (.bipush 50, 2) := by decide +kernel
theorem J_MSquareRows_init_d1278 : decode J_MSquareRows_init.2.1 1278 = .ok (.iconst 5, 1) := by decide +kernel
theorem J_MSquareRows_init_d1279 : decode J_MSquareRows_init.2.1 1279 = .ok (.iastore, 1) := by decide +kernel
theorem J_MSquareRows_init_d1280 : decode J_MSquareRows_init.2.1 1280 = .ok (.dup, 1) := by decide +kernel
theorem J_MSquareRows_init_d1281 : decode J_MSquareRows_init.2.1 1281 = .ok (.bipush 51, 2) := by decide +kernel
theorem J_MSquareRows_init_d1283 : decode J_MSquareRows_init.2.1 1283 = .ok (.bipush 8, 2) := by decide +kernel
theorem J_MSquareRows_init_d1285 : decode J_MSquareRows_init.2.1 1285 = .ok (.iastore, 1) := by decide +kernel
theorem J_MSquareRows_init_d1286 : decode J_MSquareRows_init.2.1 1286 = .ok (.dup, 1) := by decide +kernel
theorem J_MSquareRows_init_d1287 : decode J_MSquareRows_init.2.1 1287 = .ok (.bipush 52, 2) := by decide +kernel
theorem J_MSquareRows_init_d1289 : decode J_MSquareRows_init.2.1 1289 = .ok (.bipush 9, 2) := by decide +kernel
theorem J_MSquareRows_init_d1291 : decode J_MSquareRows_init.2.1 1291 = .ok (.iastore, 1) := by decide +kernel
theorem J_MSquareRows_init_d1292 : decode J_MSquareRows_init.2.1 1292 = .ok (.dup, 1) := by decide +kernel
theorem J_MSquareRows_init_d1293 : decode J_MSquareRows_init.2.1 1293 = .ok (.bipush 53, 2) := by decide +kernel
theorem J_MSquareRows_init_d1295 : decode J_MSquareRows_init.2.1 1295 = .ok (.bipush 9, 2) := by decide +kernel
theorem J_MSquareRows_init_d1297 : decode J_MSquareRows_init.2.1 1297 = .ok (.iastore, 1) := by decide +kernel
theorem J_MSquareRows_init_d1298 : decode J_MSquareRows_init.2.1 1298 = .ok (.dup, 1) := by decide +kernel
theorem J_MSquareRows_init_d1299 : decode J_MSquareRows_init.2.1 1299 = .ok (.bipush 54, 2) := by decide +kernel
theorem J_MSquareRows_init_d1301 : decode J_MSquareRows_init.2.1 1301 = .ok (.bipush 10, 2) := by decide +kernel
theorem J_MSquareRows_init_d1303 : decode J_MSquareRows_init.2.1 1303 = .ok (.iastore, 1) := by decide +kernel
theorem J_MSquareRows_init_d1304 : decode J_MSquareRows_init.2.1 1304 = .ok (.dup, 1) := by decide +kernel
theorem J_MSquareRows_init_d1305 : decode J_MSquareRows_init.2.1 1305 = .ok (.bipush 55, 2) := by decide +kernel
theorem J_MSquareRows_init_d1307 : decode J_MSquareRows_init.2.1 1307 = .ok (.bipush 10, 2) := by decide +kernel
theorem J_MSquareRows_init_d1309 : decode J_MSquareRows_init.2.1 1309 = .ok (.iastore, 1) := by decide +kernel
theorem J_MSquareRows_init_d1310 : decode J_MSquareRows_init.2.1 1310 = .ok (.dup, 1) := by decide +kernel
theorem J_MSquareRows_init_d1311 : decode J_MSquareRows_init.2.1 1311 = .ok (.bipush 56, 2) := by decide +kernel
theorem J_MSquareRows_init_d1313 : decode J_MSquareRows_init.2.1 1313 = .ok (.bipush 11, 2) := by decide +kernel
theorem J_MSquareRows_init_d1315 : decode J_MSquareRows_init.2.1 1315 = .ok (.iastore, 1) := by decide +kernel
theorem J_MSquareRows_init_d1316 : decode J_MSquareRows_init.2.1 1316 = .ok (.dup, 1) := by decide +kernel
theorem J_MSquareRows_init_d1317 : decode J_MSquareRows_init.2.1 1317 = .ok (.bipush 57, 2) := by decide +kernel
theorem J_MSquareRows_init_d1319 : decode J_MSquareRows_init.2.1 1319 = .ok (.bipush 13, 2) := by decide +kernel
theorem J_MSquareRows_init_d1321 : decode J_MSquareRows_init.2.1 1321 = .ok (.iastore, 1) := by decide +kernel
theorem J_MSquareRows_init_d1322 : decode J_MSquareRows_init.2.1 1322 = .ok (.dup, 1) := by decide +kernel
theorem J_MSquareRows_init_d1323 : decode J_MSquareRows_init.2.1 1323 = .ok (.bipush 58, 2) := by decide +kernel
theorem J_MSquareRows_init_d1325 : decode J_MSquareRows_init.2.1 1325 = .ok (.bipush 14, 2) := by decide +kernel
theorem J_MSquareRows_init_d1327 : decode J_MSquareRows_init.2.1 1327 = .ok (.iastore, 1) := by decide +kernel
theorem J_MSquareRows_init_d1328 : decode J_MSquareRows_init.2.1 1328 = .ok (.dup, 1) := by decide +kernel
theorem J_MSquareRows_init_d1329 : decode J_MSquareRows_init.2.1 1329 = .ok (.bipush 59, 2) := by decide +kernel
theorem J_MSquareRows_init_d1331 : decode J_MSquareRows_init.2.1 1331 = .ok (.bipush 16, 2) := by decide +kernel
theorem J_MSquareRows_init_d1333 : decode J_MSquareRows_init.2.1 1333 = .ok (.iastore, 1) := by decide +kernel
theorem J_MSquareRows_init_d1334 : decode J_MSquareRows_init.2.1 1334 = .ok (.dup, 1) := by decide +kernel
theorem J_MSquareRows_init_d1335 : decode J_MSquareRows_init.2.1 1335 = .ok (.bipush 60, 2) := by decide +kernel
theorem J_MSquareRows_init_d1337 : decode J_MSquareRows_init.2.1 1337 = .ok (.bipush 17, 2) := by decide +kernel
theorem J_MSquareRows_init_d1339 : decode J_MSquareRows_init.2.1 1339 = .ok (.iastore, 1) := by decide +kernel
theorem J_MSquareRows_init_d1340 : decode J_MSquareRows_init.2.1 1340 = .ok (.dup, 1) := by decide +kernel
theorem J_MSquareRows_init_d1341 : decode J_MSquareRows_init.2.1 1341 = .ok (.bipush 61, 2) := by decide +kernel
theorem J_MSquareRows_init_d1343 : decode J_MSquareRows_init.2.1 1343 = .ok (.bipush 17, 2) := by decide +kernel
theorem J_MSquareRows_init_d1345 : decode J_MSquareRows_init.2.1 1345 = .ok (.iastore, 1) := by decide +kernel
theorem J_MSquareRows_init_d1346 : decode J_MSquareRows_init.2.1 1346 = .ok (.dup, 1) := by decide +kernel
theorem J_MSquareRows_init_d1347 : decode J_MSquareRows_init.2.1 1347 = .ok (.bipush 62, 2) := by decide +kernel
theorem J_MSquareRows_init_d1349 : decode J_MSquareRows_init.2.1 1349 = .ok (.bipush 18, 2) := by decide +kernel
theorem J_MSquareRows_init_d1351 : decode J_MSquareRows_init.2.1 1351 = .ok (.iastore, 1) := by decide +kernel
theorem J_MSquareRows_init_d1352 : decode J_MSquareRows_init.2.1 1352 = .ok (.dup, 1) := by decide +kernel
theorem J_MSquareRows_init_d1353 : decode J_MSquareRows_init.2.1 1353 = .ok (.bipush 63, 2) := by decide +kernel
theorem J_MSquareRows_init_d1355 : decode J_MSquareRows_init.2.1 1355 = .ok (.bipush 20, 2) := by decide +kernel
theorem J_MSquareRows_init_d1357 : decode J_MSquareRows_init.2.1 1357 = .ok (.iastore, 1) := by decide +kernel
theorem J_MSquareRows_init_d1358 : decode J_MSquareRows_init.2.1 1358 = .ok (.dup, 1) := by decide +kernel
theorem J_MSquareRows_init_d1359 : decode J_MSquareRows_init.2.1 1359 = .ok (.bipush 64, 2) := by decide +kernel
theorem J_MSquareRows_init_d1361 : decode J_MSquareRows_init.2.1 1361 = .ok (.bipush 21, 2) := by decide +kernel
theorem J_MSquareRows_init_d1363 : decode J_MSquareRows_init.2.1 1363 = .ok (.iastore, 1) := by decide +kernel
theorem J_MSquareRows_init_d1364 : decode J_MSquareRows_init.2.1 1364 = .ok (.dup, 1) := by decide +kernel
theorem J_MSquareRows_init_d1365 : decode J_MSquareRows_init.2.1 1365 = .ok (.bipush 65, 2) := by decide +kernel
theorem J_MSquareRows_init_d1367 : decode J_MSquareRows_init.2.1 1367 = .ok (.bipush 23, 2) := by decide +kernel
theorem J_MSquareRows_init_d1369 : decode J_MSquareRows_init.2.1 1369 = .ok (.iastore, 1) := by decide +kernel
theorem J_MSquareRows_init_d1370 : decode J_MSquareRows_init.2.1 1370 = .ok (.dup, 1) := by decide +kernel
theorem J_MSquareRows_init_d1371 : decode J_MSquareRows_init.2.1 1371 = .ok (.bipush 66, 2) := by decide +kernel
theorem J_MSquareRows_init_d1373 : decode J_MSquareRows_init.2.1 1373 = .ok (.bipush 25, 2) := by decide +kernel
theorem J_MSquareRows_init_d1375 : decode J_MSquareRows_init.2.1 1375 = .ok (.iastore, 1) := by decide +kernel
theorem J_MSquareRows_init_d1376 : decode J_MSquareRows_init.2.1 1376 = .ok (.dup, 1) := by decide +kernel
theorem J_MSquareRows_init_d1377 : decode J_MSquareRows_init.2.1 1377 = .ok (.bipush 67, 2) := by decide +kernel
theorem J_MSquareRows_init_d1379 : decode J_MSquareRows_init.2.1 1379 = .ok (.bipush 26, 2) := by decide +kernel
theorem J_MSquareRows_init_d1381 : decode J_MSquareRows_init.2.1 1381 = .ok (.iastore, 1) := by decide +kernel
theorem J_MSquareRows_init_d1382 : decode J_MSquareRows_init.2.1 1382 = .ok (.dup, 1) := by decide +kernel
theorem J_MSquareRows_init_d1383 : decode J_MSquareRows_init.2.1 1383 = .ok (.bipush 68, 2) := by decide +kernel
theorem J_MSquareRows_init_d1385 : decode J_MSquareRows_init.2.1 1385 = .ok (.bipush 28, 2) := by decide +kernel
theorem J_MSquareRows_init_d1387 : decode J_MSquareRows_init.2.1 1387 = .ok (.iastore, 1) := by decide +kernel
theorem J_MSquareRows_init_d1388 : decode J_MSquareRows_init.2.1 1388 = .ok (.dup, 1) := by decide +kernel
theorem J_MSquareRows_init_d1389 : decode J_MSquareRows_init.2.1 1389 = .ok (.bipush 69, 2) := by decide +kernel
theorem J_MSquareRows_init_d1391 : decode J_MSquareRows_init.2.1 1391 = .ok (.bipush 29, 2) := by decide +kernel
theorem J_MSquareRows_init_d1393 : decode J_MSquareRows_init.2.1 1393 = .ok (.iastore, 1) := by decide +kernel
theorem J_MSquareRows_init_d1394 : decode J_MSquareRows_init.2.1 1394 = .ok (.dup, 1) := by decide +kernel
theorem J_MSquareRows_init_d1395 : decode J_MSquareRows_init.2.1 1395 = .ok (.bipush 70, 2) := by decide +kernel
theorem J_MSquareRows_init_d1397 : decode J_MSquareRows_init.2.1 1397 = .ok (.bipush 31, 2) := by decide +kernel
theorem J_MSquareRows_init_d1399 : decode J_MSquareRows_init.2.1 1399 = .ok (.iastore, 1) := by decide +kernel
theorem J_MSquareRows_init_d1400 : decode J_MSquareRows_init.2.1 1400 = .ok (.dup, 1) := by decide +kernel
theorem J_MSquareRows_init_d1401 : decode J_MSquareRows_init.2.1 1401 = .ok (.bipush 71, 2) := by decide +kernel
theorem J_MSquareRows_init_d1403 : decode J_MSquareRows_init.2.1 1403 = .ok (.bipush 33, 2) := by decide +kernel
theorem J_MSquareRows_init_d1405 : decode J_MSquareRows_init.2.1 1405 = .ok (.iastore, 1) := by decide +kernel
theorem J_MSquareRows_init_d1406 : decode J_MSquareRows_init.2.1 1406 = .ok (.dup, 1) := by decide +kernel
theorem J_MSquareRows_init_d1407 : decode J_MSquareRows_init.2.1 1407 = .ok (.bipush 72, 2) := by decide +kernel
theorem J_MSquareRows_init_d1409 : decode J_MSquareRows_init.2.1 1409 = .ok (.bipush 35, 2) := by decide +kernel
theorem J_MSquareRows_init_d1411 : decode J_MSquareRows_init.2.1 1411 = .ok (.iastore, 1) := by decide +kernel
theorem J_MSquareRows_init_d1412 : decode J_MSquareRows_init.2.1 1412 = .ok (.dup, 1) := by decide +kernel
theorem J_MSquareRows_init_d1413 : decode J_MSquareRows_init.2.1 1413 = .ok (.bipush 73, 2) := by decide +kernel
theorem J_MSquareRows_init_d1415 : decode J_MSquareRows_init.2.1 1415 = .ok (.bipush 37, 2) := by decide +kernel
theorem J_MSquareRows_init_d1417 : decode J_MSquareRows_init.2.1 1417 = .ok (.iastore, 1) := by decide +kernel
theorem J_MSquareRows_init_d1418 : decode J_MSquareRows_init.2.1 1418 = .ok (.dup, 1) := by decide +kernel
theorem J_MSquareRows_init_d1419 : decode J_MSquareRows_init.2.1 1419 = .ok (.bipush 74, 2) := by decide +kernel
theorem J_MSquareRows_init_d1421 : decode J_MSquareRows_init.2.1 1421 = .ok (.bipush 38, 2) := by decide +kernel
theorem J_MSquareRows_init_d1423 : decode J_MSquareRows_init.2.1 1423 = .ok (.iastore, 1) := by decide +kernel
theorem J_MSquareRows_init_d1424 : decode J_MSquareRows_init.2.1 1424 = .ok (.dup, 1) := by decide +kernel
theorem J_MSquareRows_init_d1425 : decode J_MSquareRows_init.2.1 1425 = .ok (.bipush 75, 2) := by decide +kernel
theorem J_MSquareRows_init_d1427 : decode J_MSquareRows_init.2.1 1427 = .ok (.bipush 40, 2) := by decide +kernel
theorem J_MSquareRows_init_d1429 : decode J_MSquareRows_init.2.1 1429 = .ok (.iastore, 1) := by decide +kernel
theorem J_MSquareRows_init_d1430 : decode J_MSquareRows_init.2.1 1430 = .ok (.dup, 1) := by decide +kernel
theorem J_MSquareRows_init_d1431 : decode J_MSquareRows_init.2.1 1431 = .ok (.bipush 76, 2) := by decide +kernel
theorem J_MSquareRows_init_d1433 : decode J_MSquareRows_init.2.1 1433 = .ok (.bipush 43, 2) := by decide +kernel
theorem J_MSquareRows_init_d1435 : decode J_MSquareRows_init.2.1 1435 = .ok (.iastore, 1) := by decide +kernel
theorem J_MSquareRows_init_d1436 : decode J_MSquareRows_init.2.1 1436 = .ok (.dup, 1) := by decide +kernel
theorem J_MSquareRows_init_d1437 : decode J_MSquareRows_init.2.1 1437 = .ok (.bipush 77, 2) := by decide +kernel
theorem J_MSquareRows_init_d1439 : decode J_MSquareRows_init.2.1 1439 = .ok (.bipush 45, 2) := by decide +kernel
theorem J_MSquareRows_init_d1441 : decode J_MSquareRows_init.2.1 1441 = .ok (.iastore, 1) := by decide +kernel
theorem J_MSquareRows_init_d1442 : decode J_MSquareRows_init.2.1 1442 = .ok (.dup, 1) := by decide +kernel
theorem J_MSquareRows_init_d1443 : decode J_MSquareRows_init.2.1 1443 = .ok (.bipush 78, 2) := by decide +kernel
theorem J_MSquareRows_init_d1445 : decode J_MSquareRows_init.2.1 1445 = .ok (.bipush 47, 2) := by decide +kernel
theorem J_MSquareRows_init_d1447 : decode J_MSquareRows_init.2.1 1447 = .ok (.iastore, 1) := by decide +kernel
theorem J_MSquareRows_init_d1448 : decode J_MSquareRows_init.2.1 1448 = .ok (.dup, 1) := by decide +kernel
theorem J_MSquareRows_init_d1449 : decode J_MSquareRows_init.2.1 1449 = .ok (.bipush 79, 2) := by decide +kernel
theorem J_MSquareRows_init_d1451 : decode J_MSquareRows_init.2.1 1451 = .ok (.bipush 49, 2) := by decide +kernel
theorem J_MSquareRows_init_d1453 : decode J_MSquareRows_init.2.1 1453 = .ok (.iastore, 1) := by decide +kernel
theorem J_MSquareRows_init_d1454 : decode J_MSquareRows_init.2.1 1454 = .ok (.dup, 1) := by decide +kernel
theorem J_MSquareRows_init_d1455 : decode J_MSquareRows_init.2.1 1455 = .ok (.bipush 80, 2) := by decide +kernel
theorem J_MSquareRows_init_d1457 : decode J_MSquareRows_init.2.1 1457 = .ok (.iconst 1, 1) := by decide +kernel
theorem J_MSquareRows_init_d1458 : decode J_MSquareRows_init.2.1 1458 = .ok (.iastore, 1) := by decide +kernel
theorem J_MSquareRows_init_d1459 : decode J_MSquareRows_init.2.1 1459 = .ok (.dup, 1) := by decide +kernel
theorem J_MSquareRows_init_d1460 : decode J_MSquareRows_init.2.1 1460 = .ok (.bipush 81, 2) := by decide +kernel
theorem J_MSquareRows_init_d1462 : decode J_MSquareRows_init.2.1 1462 = .ok (.iconst 1, 1) := by decide +kernel
theorem J_MSquareRows_init_d1463 : decode J_MSquareRows_init.2.1 1463 = .ok (.iastore, 1) := by decide +kernel
theorem J_MSquareRows_init_d1464 : decode J_MSquareRows_init.2.1 1464 = .ok (.dup, 1) := by decide +kernel
theorem J_MSquareRows_init_d1465 : decode J_MSquareRows_init.2.1 1465 = .ok (.bipush 82, 2) := by decide +kernel
theorem J_MSquareRows_init_d1467 : decode J_MSquareRows_init.2.1 1467 = .ok (.iconst 2, 1) := by decide +kernel
theorem J_MSquareRows_init_d1468 : decode J_MSquareRows_init.2.1 1468 = .ok (.iastore, 1) := by decide +kernel
theorem J_MSquareRows_init_d1469 : decode J_MSquareRows_init.2.1 1469 = .ok (.dup, 1) := by decide +kernel
theorem J_MSquareRows_init_d1470 : decode J_MSquareRows_init.2.1 1470 = .ok (.bipush 83, 2) := by decide +kernel
theorem J_MSquareRows_init_d1472 : decode J_MSquareRows_init.2.1 1472 = .ok (.iconst 2, 1) := by decide +kernel
theorem J_MSquareRows_init_d1473 : decode J_MSquareRows_init.2.1 1473 = .ok (.iastore, 1) := by decide +kernel
theorem J_MSquareRows_init_d1474 : decode J_MSquareRows_init.2.1 1474 = .ok (.dup, 1) := by decide +kernel
theorem J_MSquareRows_init_d1475 : decode J_MSquareRows_init.2.1 1475 = .ok (.bipush 84, 2) := by decide +kernel
theorem J_MSquareRows_init_d1477 : decode J_MSquareRows_init.2.1 1477 = .ok (.iconst 4, 1) := by decide +kernel
theorem J_MSquareRows_init_d1478 : decode J_MSquareRows_init.2.1 1478 = .ok (.iastore, 1) := by decide +kernel
theorem J_MSquareRows_init_d1479 : decode J_MSquareRows_init.2.1 1479 = .ok (.dup, 1) := by decide +kernel
theorem J_MSquareRows_init_d1480 : decode J_MSquareRows_init.2.1 1480 = .ok (.bipush 85, 2) := by decide +kernel
theorem J_MSquareRows_init_d1482 : decode J_MSquareRows_init.2.1 1482 = .ok (.iconst 4, 1) := by decide +kernel
theorem J_MSquareRows_init_d1483 : decode J_MSquareRows_init.2.1 1483 = .ok (.iastore, 1) := by decide +kernel
theorem J_MSquareRows_init_d1484 : decode J_MSquareRows_init.2.1 1484 = .ok (.dup, 1) := by decide +kernel
theorem J_MSquareRows_init_d1485 : decode J_MSquareRows_init.2.1 1485 = .ok (.bipush 86, 2) := by decide +kernel
theorem J_MSquareRows_init_d1487 : decode J_MSquareRows_init.2.1 1487 = .ok (.bipush 6, 2) := by decide +kernel
theorem J_MSquareRows_init_d1489 : decode J_MSquareRows_init.2.1 1489 = .ok (.iastore, 1) := by decide +kernel
theorem J_MSquareRows_init_d1490 : decode J_MSquareRows_init.2.1 1490 = .ok (.dup, 1) := by decide +kernel
theorem J_MSquareRows_init_d1491 : decode J_MSquareRows_init.2.1 1491 = .ok (.bipush 87, 2) := by decide +kernel
theorem J_MSquareRows_init_d1493 : decode J_MSquareRows_init.2.1 1493 = .ok (.bipush 6, 2) := by decide +kernel
theorem J_MSquareRows_init_d1495 : decode J_MSquareRows_init.2.1 1495 = .ok (.iastore, 1) := by decide +kernel
theorem J_MSquareRows_init_d1496 : decode J_MSquareRows_init.2.1 1496 = .ok (.dup, 1) := by decide +kernel
theorem J_MSquareRows_init_d1497 : decode J_MSquareRows_init.2.1 1497 = .ok (.bipush 88, 2) := by decide +kernel
theorem J_MSquareRows_init_d1499 : decode J_MSquareRows_init.2.1 1499 = .ok (.bipush 8, 2) := by decide +kernel
theorem J_MSquareRows_init_d1501 : decode J_MSquareRows_init.2.1 1501 = .ok (.iastore, 1) := by decide +kernel
theorem J_MSquareRows_init_d1502 : decode J_MSquareRows_init.2.1 1502 = .ok (.dup, 1) := by decide +kernel
theorem J_MSquareRows_init_d1503 : decode J_MSquareRows_init.2.1 1503 = .ok (.bipush 89, 2) := by decide +kernel
theorem J_MSquareRows_init_d1505 : decode J_MSquareRows_init.2.1 1505 = .ok (.bipush 8, 2) := by decide +kernel
theorem J_MSquareRows_init_d1507 : decode J_MSquareRows_init.2.1 1507 = .ok (.iastore, 1) := by decide +kernel
theorem J_MSquareRows_init_d1508 : decode J_MSquareRows_init.2.1 1508 = .ok (.dup, 1) := by decide +kernel
theorem J_MSquareRows_init_d1509 : decode J_MSquareRows_init.2.1 1509 = .ok (.bipush 90, 2) := by decide +kernel
theorem J_MSquareRows_init_d1511 : decode J_MSquareRows_init.2.1 1511 = .ok (.bipush 8, 2) := by decide +kernel
theorem J_MSquareRows_init_d1513 : decode J_MSquareRows_init.2.1 1513 = .ok (.iastore, 1) := by decide +kernel
theorem J_MSquareRows_init_d1514 : decode J_MSquareRows_init.2.1 1514 = .ok (.dup, 1) := by decide +kernel
theorem J_MSquareRows_init_d1515 : decode J_MSquareRows_init.2.1 1515 = .ok (.bipush 91, 2) := by decide +kernel
theorem J_MSquareRows_init_d1517 : decode J_MSquareRows_init.2.1 1517 = .ok (.bipush 10, 2) := by decide +kernel
theorem J_MSquareRows_init_d1519 : decode J_MSquareRows_init.2.1 1519 = .ok (.iastore, 1) := by decide +kernel
theorem J_MSquareRows_init_d1520 : decode J_MSquareRows_init.2.1 1520 = .ok (.dup, 1) := by decide +kernel
theorem J_MSquareRows_init_d1521 : decode J_MSquareRows_init.2.1 1521 = .ok (.bipush 92, 2) := by decide +kernel
theorem J_MSquareRows_init_d1523 : decode J_MSquareRows_init.2.1 1523 = .ok (.bipush 12, 2) := by decide +kernel
theorem J_MSquareRows_init_d1525 : decode J_MSquareRows_init.2.1 1525 = .ok (.iastore, 1) := by decide +kernel
theorem J_MSquareRows_init_d1526 : decode J_MSquareRows_init.2.1 1526 = .ok (.dup, 1) := by decide +kernel
theorem J_MSquareRows_init_d1527 : decode J_MSquareRows_init.2.1 1527 = .ok (.bipush 93, 2) := by decide +kernel
theorem J_MSquareRows_init_d1529 : decode J_MSquareRows_init.2.1 1529 = .ok (.bipush 16, 2) := by decide +kernel
theorem J_MSquareRows_init_d1531 : decode J_MSquareRows_init.2.1 1531 = .ok (.iastore, 1) := by decide +kernel
theorem J_MSquareRows_init_d1532 : decode J_MSquareRows_init.2.1 1532 = .ok (.dup, 1) := by decide +kernel
theorem J_MSquareRows_init_d1533 : decode J_MSquareRows_init.2.1 1533 = .ok (.bipush 94, 2) := by decide +kernel
theorem J_MSquareRows_init_d1535 : decode J_MSquareRows_init.2.1 1535 = .ok (.bipush 12, 2) := by decide +kernel
theorem J_MSquareRows_init_d1537 : decode J_MSquareRows_init.2.1 1537 = .ok (.iastore, 1) := by decide +kernel
theorem J_MSquareRows_init_d1538 : decode J_MSquareRows_init.2.1 1538 = .ok (.dup, 1) := by decide +kernel
theorem J_MSquareRows_init_d1539 : decode J_MSquareRows_init.2.1 1539 = .ok (.bipush 95, 2) := by decide +kernel
theorem J_MSquareRows_init_d1541 : decode J_MSquareRows_init.2.1 1541 = .ok (.bipush 17, 2) := by decide +kernel
theorem J_MSquareRows_init_d1543 : decode J_MSquareRows_init.2.1 1543 = .ok (.iastore, 1) := by decide +kernel
theorem J_MSquareRows_init_d1544 : decode J_MSquareRows_init.2.1 1544 = .ok (.dup, 1) := by decide +kernel
theorem J_MSquareRows_init_d1545 : decode J_MSquareRows_init.2.1 1545 = .ok (.bipush 96, 2) := by decide +kernel
theorem J_MSquareRows_init_d1547 : decode J_MSquareRows_init.2.1 1547 = .ok (.bipush 16, 2) := by decide +kernel
theorem J_MSquareRows_init_d1549 : decode J_MSquareRows_init.2.1 1549 = .ok (.iastore, 1) := by decide +kernel
theorem J_MSquareRows_init_d1550 : decode J_MSquareRows_init.2.1 1550 = .ok (.dup, 1) := by decide +kernel
theorem J_MSquareRows_init_d1551 : decode J_MSquareRows_init.2.1 1551 = .ok (.bipush 97, 2) := by decide +kernel
theorem J_MSquareRows_init_d1553 : decode J_MSquareRows_init.2.1 1553 = .ok (.bipush 18, 2) := by decide +kernel
theorem J_MSquareRows_init_d1555 : decode J_MSquareRows_init.2.1 1555 = .ok (.iastore, 1) := by decide +kernel
theorem J_MSquareRows_init_d1556 : decode J_MSquareRows_init.2.1 1556 = .ok (.dup, 1) := by decide +kernel
theorem J_MSquareRows_init_d1557 : decode J_MSquareRows_init.2.1 1557 = .ok (.bipush 98, 2) := by decide +kernel
theorem J_MSquareRows_init_d1559 : decode J_MSquareRows_init.2.1 1559 = .ok (.bipush 21, 2) := by decide +kernel
theorem J_MSquareRows_init_d1561 : decode J_MSquareRows_init.2.1 1561 = .ok (.iastore, 1) := by decide +kernel
theorem J_MSquareRows_init_d1562 : decode J_MSquareRows_init.2.1 1562 = .ok (.dup, 1) := by decide +kernel
theorem J_MSquareRows_init_d1563 : decode J_MSquareRows_init.2.1 1563 = .ok (.bipush 99, 2) := by decide +kernel
theorem J_MSquareRows_init_d1565 : decode J_MSquareRows_init.2.1 1565 = .ok (.bipush 20, 2) := by decide +kernel
theorem J_MSquareRows_init_d1567 : decode J_MSquareRows_init.2.1 1567 = .ok (.iastore, 1) := by decide +kernel
theorem J_MSquareRows_init_d1568 : decode J_MSquareRows_init.2.1 1568 = .ok (.dup, 1) := by decide +kernel
theorem J_MSquareRows_init_d1569 : decode J_MSquareRows_init.2.1 1569 = .ok (.bipush 100, 2) := by decide +kernel
theorem J_MSquareRows_init_d1571 : decode J_MSquareRows_init.2.1 1571 = .ok (.bipush 23, 2) := by decide +kernel
theorem J_MSquareRows_init_d1573 : decode J_MSquareRows_init.2.1 1573 = .ok (.iastore, 1) := by decide +kernel
theorem J_MSquareRows_init_d1574 : decode J_MSquareRows_init.2.1 1574 = .ok (.dup, 1) := by decide +kernel
theorem J_MSquareRows_init_d1575 : decode J_MSquareRows_init.2.1 1575 = .ok (.bipush 101, 2) := by decide +kernel
theorem J_MSquareRows_init_d1577 : decode J_MSquareRows_init.2.1 1577 = .ok (.bipush 23, 2) := by decide +kernel
theorem J_MSquareRows_init_d1579 : decode J_MSquareRows_init.2.1 1579 = .ok (.iastore, 1) := by decide +kernel
theorem J_MSquareRows_init_d1580 : decode J_MSquareRows_init.2.1 1580 = .ok (.dup, 1) := by decide +kernel
theorem J_MSquareRows_init_d1581 : decode J_MSquareRows_init.2.1 1581 = .ok (.bipush 102, 2) := by decide +kernel
theorem J_MSquareRows_init_d1583 : decode J_MSquareRows_init.2.1 1583 = .ok (.bipush 25, 2) := by decide +kernel
theorem J_MSquareRows_init_d1585 : decode J_MSquareRows_init.2.1 1585 = .ok (.iastore, 1) := by decide +kernel
theorem J_MSquareRows_init_d1586 : decode J_MSquareRows_init.2.1 1586 = .ok (.dup, 1) := by decide +kernel
theorem J_MSquareRows_init_d1587 : decode J_MSquareRows_init.2.1 1587 = .ok (.bipush 103, 2) := by decide +kernel
theorem J_MSquareRows_init_d1589 : decode J_MSquareRows_init.2.1 1589 = .ok (.bipush 27, 2) := by decide +kernel
theorem J_MSquareRows_init_d1591 : decode J_MSquareRows_init.2.1 1591 = .ok (.iastore, 1) := by decide +kernel
theorem J_MSquareRows_init_d1592 : decode J_MSquareRows_init.2.1 1592 = .ok (.dup, 1) := by decide +kernel
theorem J_MSquareRows_init_d1593 : decode J_MSquareRows_init.2.1 1593 = .ok (.bipush 104, 2) := by decide +kernel
theorem J_MSquareRows_init_d1595 : decode J_MSquareRows_init.2.1 1595 = .ok (.bipush 29, 2) := by decide +kernel
theorem J_MSquareRows_init_d1597 : decode J_MSquareRows_init.2.1 1597 = .ok (.iastore, 1) := by decide +kernel
theorem J_MSquareRows_init_d1598 : decode J_MSquareRows_init.2.1 1598 = .ok (.dup, 1) := by decide +kernel
theorem J_MSquareRows_init_d1599 : decode J_MSquareRows_init.2.1 1599 = .ok (.bipush 105, 2) := by decide +kernel
theorem J_MSquareRows_init_d1601 : decode J_MSquareRows_init.2.1 1601 = .ok (.bipush 34, 2) := by decide +kernel
theorem J_MSquareRows_init_d1603 : decode J_MSquareRows_init.2.1 1603 = .ok (.iastore, 1) := by decide +kernel
theorem J_MSquareRows_init_d1604 : decode J_MSquareRows_init.2.1 1604 = .ok (.dup, 1) := by decide +kernel
theorem J_MSquareRows_init_d1605 : decode J_MSquareRows_init.2.1 1605 = .ok (.bipush 106, 2) := by decide +kernel
theorem J_MSquareRows_init_d1607 : decode J_MSquareRows_init.2.1 1607 = .ok (.bipush 34, 2) := by decide +kernel
theorem J_MSquareRows_init_d1609 : decode J_MSquareRows_init.2.1 1609 = .ok (.iastore, 1) := by decide +kernel
theorem J_MSquareRows_init_d1610 : decode J_MSquareRows_init.2.1 1610 = .ok (.dup, 1) := by decide +kernel
theorem J_MSquareRows_init_d1611 : decode J_MSquareRows_init.2.1 1611 = .ok (.bipush 107, 2) := by decide +kernel
theorem J_MSquareRows_init_d1613 : decode J_MSquareRows_init.2.1 1613 = .ok (.bipush 35, 2) := by decide +kernel
theorem J_MSquareRows_init_d1615 : decode J_MSquareRows_init.2.1 1615 = .ok (.iastore, 1) := by decide +kernel
theorem J_MSquareRows_init_d1616 : decode J_MSquareRows_init.2.1 1616 = .ok (.dup, 1) := by decide +kernel
theorem J_MSquareRows_init_d1617 : decode J_MSquareRows_init.2.1 1617 = .ok (.bipush 108, 2) := by decide +kernel
theorem J_MSquareRows_init_d1619 : decode J_MSquareRows_init.2.1 1619 = .ok (.bipush 38, 2) := by decide +kernel
theorem J_MSquareRows_init_d1621 : decode J_MSquareRows_init.2.1 1621 = .ok (.iastore, 1) := by decide +kernel
theorem J_MSquareRows_init_d1622 : decode J_MSquareRows_init.2.1 1622 = .ok (.dup, 1) := by decide +kernel
theorem J_MSquareRows_init_d1623 : decode J_MSquareRows_init.2.1 1623 = .ok (.bipush 109, 2) := by decide +kernel
theorem J_MSquareRows_init_d1625 : decode J_MSquareRows_init.2.1 1625 = .ok (.bipush 40, 2) := by decide +kernel
theorem J_MSquareRows_init_d1627 : decode J_MSquareRows_init.2.1 1627 = .ok (.iastore, 1) := by decide +kernel
theorem J_MSquareRows_init_d1628 : decode J_MSquareRows_init.2.1 1628 = .ok (.dup, 1) := by decide +kernel
theorem J_MSquareRows_init_d1629 : decode J_MSquareRows_init.2.1 1629 = .ok (.bipush 110, 2) := by decide +kernel
theorem J_MSquareRows_init_d1631 : decode J_MSquareRows_init.2.1 1631 = .ok (.bipush 43, 2) := by decide +kernel
theorem J_MSquareRows_init_d1633 : decode J_MSquareRows_init.2.1 1633 = .ok (.iastore, 1) := by decide +kernel
theorem J_MSquareRows_init_d1634 : decode J_MSquareRows_init.2.1 1634 = .ok (.dup, 1) := by decide +kernel
theorem J_MSquareRows_init_d1635 : decode J_MSquareRows_init.2.1 1635 = .ok (.bipush 111, 2) := by decide +kernel
theorem J_MSquareRows_init_d1637 : decode J_MSquareRows_init.2.1 1637 = .ok (.bipush 45, 2) := by decide +kernel
theorem J_MSquareRows_init_d1639 : decode J_MSquareRows_init.2.1 1639 = .ok (.iastore, 1) := by decide +kernel
theorem J_MSquareRows_init_d1640 : decode J_MSquareRows_init.2.1 1640 = .ok (.dup, 1) := by decide +kernel
theorem J_MSquareRows_init_d1641 : decode J_MSquareRows_init.2.1 1641 = .ok (.bipush 112, 2) := by decide +kernel
theorem J_MSquareRows_init_d1643 : decode J_MSquareRows_init.2.1 1643 = .ok (.bipush 48, 2) := by decide +kernel
theorem J_MSquareRows_init_d1645 : decode J_MSquareRows_init.2.1 1645 = .ok (.iastore, 1) := by decide +kernel
theorem J_MSquareRows_init_d1646 : decode J_MSquareRows_init.2.1 1646 = .ok (.dup, 1) := by decide +kernel
theorem J_MSquareRows_init_d1647 : decode J_MSquareRows_init.2.1 1647 = .ok (.bipush 113, 2) := by decide +kernel
theorem J_MSquareRows_init_d1649 : decode J_MSquareRows_init.2.1 1649 = .ok (.bipush 51, 2) := by decide +kernel
theorem J_MSquareRows_init_d1651 : decode J_MSquareRows_init.2.1 1651 = .ok (.iastore, 1) := by decide +kernel
theorem J_MSquareRows_init_d1652 : decode J_MSquareRows_init.2.1 1652 = .ok (.dup, 1) := by decide +kernel
theorem J_MSquareRows_init_d1653 : decode J_MSquareRows_init.2.1 1653 = .ok (.bipush 114, 2) := by decide +kernel
theorem J_MSquareRows_init_d1655 : decode J_MSquareRows_init.2.1 1655 = .ok (.bipush 53, 2) := by decide +kernel
theorem J_MSquareRows_init_d1657 : decode J_MSquareRows_init.2.1 1657 = .ok (.iastore, 1) := by decide +kernel
theorem J_MSquareRows_init_d1658 : decode J_MSquareRows_init.2.1 1658 = .ok (.dup, 1) := by decide +kernel
theorem J_MSquareRows_init_d1659 : decode J_MSquareRows_init.2.1 1659 = .ok (.bipush 115, 2) := by decide +kernel
theorem J_MSquareRows_init_d1661 : decode J_MSquareRows_init.2.1 1661 = .ok (.bipush 56, 2) := by decide +kernel
theorem J_MSquareRows_init_d1663 : decode J_MSquareRows_init.2.1 1663 = .ok (.iastore, 1) := by decide +kernel
theorem J_MSquareRows_init_d1664 : decode J_MSquareRows_init.2.1 1664 = .ok (.dup, 1) := by decide +kernel
theorem J_MSquareRows_init_d1665 : decode J_MSquareRows_init.2.1 1665 = .ok (.bipush 116, 2) := by decide +kernel
theorem J_MSquareRows_init_d1667 : decode J_MSquareRows_init.2.1 1667 = .ok (.bipush 59, 2) := by decide +kernel
theorem J_MSquareRows_init_d1669 : decode J_MSquareRows_init.2.1 1669 = .ok (.iastore, 1) := by decide +kernel
theorem J_MSquareRows_init_d1670 : decode J_MSquareRows_init.2.1 1670 = .ok (.dup, 1) := by decide +kernel
theorem J_MSquareRows_init_d1671 : decode J_MSquareRows_init.2.1 1671 = .ok (.bipush 117, 2) := by decide +kernel
theorem J_MSquareRows_init_d1673 : decode J_MSquareRows_init.2.1 1673 = .ok (.bipush 62, 2) := by decide +kernel
theorem J_MSquareRows_init_d1675 : decode J_MSquareRows_init.2.1 1675 = .ok (.iastore, 1) := by decide +kernel
theorem J_MSquareRows_init_d1676 : decode J_MSquareRows_init.2.1 1676 = .ok (.dup, 1) := by decide +kernel
theorem J_MSquareRows_init_d1677 : decode J_MSquareRows_init.2.1 1677 = .ok (.bipush 118, 2) := by decide +kernel
theorem J_MSquareRows_init_d1679 : decode J_MSquareRows_init.2.1 1679 = .ok (.bipush 65, 2) := by decide +kernel
theorem J_MSquareRows_init_d1681 : decode J_MSquareRows_init.2.1 1681 = .ok (.iastore, 1) := by decide +kernel
theorem J_MSquareRows_init_d1682 : decode J_MSquareRows_init.2.1 1682 = .ok (.dup, 1) := by decide +kernel
theorem J_MSquareRows_init_d1683 : decode J_MSquareRows_init.2.1 1683 = .ok (.bipush 119, 2) := by decide +kernel
theorem J_MSquareRows_init_d1685 : decode J_MSquareRows_init.2.1 1685 = .ok (.bipush 68, 2) := by decide +kernel
theorem J_MSquareRows_init_d1687 : decode J_MSquareRows_init.2.1 1687 = .ok (.iastore, 1) := by decide +kernel
theorem J_MSquareRows_init_d1688 : decode J_MSquareRows_init.2.1 1688 = .ok (.dup, 1) := by decide +kernel
theorem J_MSquareRows_init_d1689 : decode J_MSquareRows_init.2.1 1689 = .ok (.bipush 120, 2) := by decide +kernel
theorem J_MSquareRows_init_d1691 : decode J_MSquareRows_init.2.1 1691 = .ok (.iconst 1, 1) := by decide +kernel
theorem J_MSquareRows_init_d1692 : decode J_MSquareRows_init.2.1 1692 = .ok (.iastore, 1) := by decide +kernel
theorem J_MSquareRows_init_d1693 : decode J_MSquareRows_init.2.1 1693 = .ok (.dup, 1) := by decide +kernel
theorem J_MSquareRows_init_d1694 : decode J_MSquareRows_init.2.1 1694 = .ok (.bipush 121, 2) := by decide +kernel
theorem J_MSquareRows_init_d1696 : decode J_MSquareRows_init.2.1 1696 = .ok (.iconst 1, 1) := by decide +kernel
theorem J_MSquareRows_init_d1697 : decode J_MSquareRows_init.2.1 1697 = .ok (.iastore, 1) := by decide +kernel
theorem J_MSquareRows_init_d1698 : decode J_MSquareRows_init.2.1 1698 = .ok (.dup, 1) := by decide +kernel
theorem J_MSquareRows_init_d1699 : decode J_MSquareRows_init.2.1 1699 = .ok (.bipush 122, 2) := by decide +kernel
theorem J_MSquareRows_init_d1701 : decode J_MSquareRows_init.2.1 1701 = .ok (.iconst 2, 1) := by decide +kernel
theorem J_MSquareRows_init_d1702 : decode J_MSquareRows_init.2.1 1702 = .ok (.iastore, 1) := by decide +kernel
theorem J_MSquareRows_init_d1703 : decode J_MSquareRows_init.2.1 1703 = .ok (.dup, 1) := by decide +kernel
theorem J_MSquareRows_init_d1704 : decode J_MSquareRows_init.2.1 1704 = .ok (.bipush 123, 2) := by decide +kernel
theorem J_MSquareRows_init_d1706 : decode J_MSquareRows_init.2.1 1706 = .ok (.iconst 4, 1) := by decide +kernel
theorem J_MSquareRows_init_d1707 : decode J_MSquareRows_init.2.1 1707 = .ok (.iastore, 1) := by decide +kernel
theorem J_MSquareRows_init_d1708 : decode J_MSquareRows_init.2.1 1708 = .ok (.dup, 1) := by decide +kernel
theorem J_MSquareRows_init_d1709 : decode J_MSquareRows_init.2.1 1709 = .ok (.bipush 124, 2) := by decide +kernel
theorem J_MSquareRows_init_d1711 : decode J_MSquareRows_init.2.1 1711 = .ok (.iconst 4, 1) := by decide +kernel
theorem J_MSquareRows_init_d1712 : decode J_MSquareRows_init.2.1 1712 = .ok (.iastore, 1) := by decide +kernel
theorem J_MSquareRows_init_d1713 : decode J_MSquareRows_init.2.1 1713 = .ok (.dup, 1) := by decide +kernel
theorem J_MSquareRows_init_d1714 : decode J_MSquareRows_init.2.1 1714 = .ok (.bipush 125, 2) := by decide +kernel
theorem J_MSquareRows_init_d1716 : decode J_MSquareRows_init.2.1 1716 = .ok (.iconst 4, 1) := by decide +kernel
theorem J_MSquareRows_init_d1717 : decode J_MSquareRows_init.2.1 1717 = .ok (.iastore, 1) := by decide +kernel
theorem J_MSquareRows_init_d1718 : decode J_MSquareRows_init.2.1 1718 = .ok (.dup, 1) := by decide +kernel
theorem J_MSquareRows_init_d1719 : decode J_MSquareRows_init.2.1 1719 = .ok (.bipush 126, 2) := by decide +kernel
theorem J_MSquareRows_init_d1721 : decode J_MSquareRows_init.2.1 1721 = .ok (.iconst 5, 1) := by decide +kernel
theorem J_MSquareRows_init_d1722 : decode J_MSquareRows_init.2.1 1722 = .ok (.iastore, 1) := by decide +kernel
theorem J_MSquareRows_init_d1723 : decode J_MSquareRows_init.2.1 1723 = .ok (.dup, 1) := by decide +kernel
theorem J_MSquareRows_init_d1724 : decode J_MSquareRows_init.2.1 1724 = .ok (.bipush 127, 2) := by decide +kernel
theorem J_MSquareRows_init_d1726 : decode J_MSquareRows_init.2.1 1726 = .ok (.bipush 6, 2) := by decide +kernel
theorem J_MSquareRows_init_d1728 : decode J_MSquareRows_init.2.1 1728 = .ok (.iastore, 1) := by decide +kernel
theorem J_MSquareRows_init_d1729 : decode J_MSquareRows_init.2.1 1729 = .ok (.dup, 1) := by decide +kernel
theorem J_MSquareRows_init_d1730 : decode J_MSquareRows_init.2.1 1730 = .ok (.sipush 128, 3) := by decide +kernel
theorem J_MSquareRows_init_d1733 : decode J_MSquareRows_init.2.1 1733 = .ok (.bipush 8, 2) := by decide +kernel
theorem J_MSquareRows_init_d1735 : decode J_MSquareRows_init.2.1 1735 = .ok (.iastore, 1) := by decide +kernel
theorem J_MSquareRows_init_d1736 : decode J_MSquareRows_init.2.1 1736 = .ok (.dup, 1) := by decide +kernel
theorem J_MSquareRows_init_d1737 : decode J_MSquareRows_init.2.1 1737 = .ok (.sipush 129, 3) := by decide +kernel
theorem J_MSquareRows_init_d1740 : decode J_MSquareRows_init.2.1 1740 = .ok (.bipush 8, 2) := by decide +kernel
theorem J_MSquareRows_init_d1742 : decode J_MSquareRows_init.2.1 1742 = .ok (.iastore, 1) := by decide +kernel
theorem J_MSquareRows_init_d1743 : decode J_MSquareRows_init.2.1 1743 = .ok (.dup, 1) := by decide +kernel
theorem J_MSquareRows_init_d1744 : decode J_MSquareRows_init.2.1 1744 = .ok (.sipush 130, 3) := by decide +kernel
theorem J_MSquareRows_init_d1747 : decode J_MSquareRows_init.2.1 1747 = .ok (.bipush 11, 2) := by decide +kernel
theorem J_MSquareRows_init_d1749 : decode J_MSquareRows_init.2.1 1749 = .ok (.iastore, 1) := by decide +kernel
theorem J_MSquareRows_init_d1750 : decode J_MSquareRows_init.2.1 1750 = .ok (.dup, 1) := by decide +kernel
theorem J_MSquareRows_init_d1751 : decode J_MSquareRows_init.2.1 1751 = .ok (.sipush 131, 3) := by decide +kernel
theorem J_MSquareRows_init_d1754 : decode J_MSquareRows_init.2.1 1754 = .ok (.bipush 11, 2) := by decide +kernel
theorem J_MSquareRows_init_d1756 : decode J_MSquareRows_init.2.1 1756 = .ok (.iastore, 1) := by decide +kernel
theorem J_MSquareRows_init_d1757 : decode J_MSquareRows_init.2.1 1757 = .ok (.dup, 1) := by decide +kernel
theorem J_MSquareRows_init_d1758 : decode J_MSquareRows_init.2.1 1758 = .ok (.sipush 132, 3) := by decide +kernel
theorem J_MSquareRows_init_d1761 : decode J_MSquareRows_init.2.1 1761 = .ok (.bipush 16, 2) := by decide +kernel
theorem J_MSquareRows_init_d1763 : decode J_MSquareRows_init.2.1 1763 = .ok (.iastore, 1) := by decide +kernel
theorem J_MSquareRows_init_d1764 : decode J_MSquareRows_init.2.1 1764 = .ok (.dup, 1) := by decide +kernel
theorem J_MSquareRows_init_d1765 : decode J_MSquareRows_init.2.1 1765 = .ok (.sipush 133, 3) := by decide +kernel
theorem J_MSquareRows_init_d1768 : decode J_MSquareRows_init.2.1 1768 = .ok (.bipush 16, 2) := by decide +kernel
theorem J_MSquareRows_init_d1770 : decode J_MSquareRows_init.2.1 1770 = .ok (.iastore, 1) := by decide +kernel
theorem J_MSquareRows_init_d1771 : decode J_MSquareRows_init.2.1 1771 = .ok (.dup, 1) := by decide +kernel
theorem J_MSquareRows_init_d1772 : decode J_MSquareRows_init.2.1 1772 = .ok (.sipush 134, 3) := by decide +kernel
theorem J_MSquareRows_init_d1775 : decode J_MSquareRows_init.2.1 1775 = .ok (.bipush 18, 2) := by decide +kernel
theorem J_MSquareRows_init_d1777 : decode J_MSquareRows_init.2.1 1777 = .ok (.iastore, 1) := by decide +kernel
theorem J_MSquareRows_init_d1778 : decode J_MSquareRows_init.2.1 1778 = .ok (.dup, 1) := by decide +kernel
theorem J_MSquareRows_init_d1779 : decode J_MSquareRows_init.2.1 1779 = .ok (.sipush 135, 3) := by decide +kernel
theorem J_MSquareRows_init_d1782 : decode J_MSquareRows_init.2.1 1782 = .ok (.bipush 16, 2) := by decide +kernel
theorem J_MSquareRows_init_d1784 : decode J_MSquareRows_init.2.1 1784 = .ok (.iastore, 1) := by decide +kernel
theorem J_MSquareRows_init_d1785 : decode J_MSquareRows_init.2.1 1785 = .ok (.dup, 1) := by decide +kernel
theorem J_MSquareRows_init_d1786 : decode J_MSquareRows_init.2.1 1786 = .ok (.sipush 136, 3) := by decide +kernel
theorem J_MSquareRows_init_d1789 : decode J_MSquareRows_init.2.1 1789 = .ok (.bipush 19, 2) := by decide +kernel
theorem J_MSquareRows_init_d1791 : decode J_MSquareRows_init.2.1 1791 = .ok (.iastore, 1) := by decide +kernel
theorem J_MSquareRows_init_d1792 : decode J_MSquareRows_init.2.1 1792 = .ok (.dup, 1) := by decide +kernel
theorem J_MSquareRows_init_d1793 : decode J_MSquareRows_init.2.1 1793 = .ok (.sipush 137, 3) := by decide +kernel
theorem J_MSquareRows_init_d1796 : decode J_MSquareRows_init.2.1 1796 = .ok (.bipush 21, 2) := by decide +kernel
theorem J_MSquareRows_init_d1798 : decode J_MSquareRows_init.2.1 1798 = .ok (.iastore, 1) := by decide +kernel
theorem J_MSquareRows_init_d1799 : decode J_MSquareRows_init.2.1 1799 = .ok (.dup, 1) := by decide +kernel
theorem J_MSquareRows_init_d1800 : decode J_MSquareRows_init.2.1 1800 = .ok (.sipush 138, 3) := by decide +kernel
theorem J_MSquareRows_init_d1803 : decode J_MSquareRows_init.2.1 1803 = .ok (.bipush 25, 2) := by decide +kernel
theorem J_MSquareRows_init_d1805 : decode J_MSquareRows_init.2.1 1805 = .ok (.iastore, 1) := by decide +kernel
theorem J_MSquareRows_init_d1806 : decode J_MSquareRows_init.2.1 1806 = .ok (.dup, 1) := by decide +kernel
theorem J_MSquareRows_init_d1807 : decode J_MSquareRows_init.2.1 1807 = .ok (.sipush 139, 3) := by decide +kernel
theorem J_MSquareRows_init_d1810 : decode J_MSquareRows_init.2.1 1810 = .ok (.bipush 25, 2) := by decide +kernel
theorem J_MSquareRows_init_d1812 : decode J_MSquareRows_init.2.1 1812 = .ok (.iastore, 1) := by decide +kernel
theorem J_MSquareRows_init_d1813 : decode J_MSquareRows_init.2.1 1813 = .ok (.dup, 1) := by decide +kernel
theorem J_MSquareRows_init_d1814 : decode J_MSquareRows_init.2.1 1814 = .ok (.sipush 140, 3) := by decide +kernel
theorem J_MSquareRows_init_d1817 : decode J_MSquareRows_init.2.1 1817 = .ok (.bipush 25, 2) := by decide +kernel
theorem J_MSquareRows_init_d1819 : decode J_MSquareRows_init.2.1 1819 = .ok (.iastore, 1) := by decide +kernel
theorem J_MSquareRows_init_d1820 : decode J_MSquareRows_init.2.1 1820 = .ok (.dup, 1) := by decide +kernel
theorem J_MSquareRows_init_d1821 : decode J_MSquareRows_init.2.1 1821 = .ok (.sipush 141, 3) := by decide +kernel
theorem J_MSquareRows_init_d1824 : decode J_MSquareRows_init.2.1 1824 = .ok (.bipush 34, 2) := by decide +kernel
theorem J_MSquareRows_init_d1826 : decode J_MSquareRows_init.2.1 1826 = .ok (.iastore, 1) := by decide +kernel
theorem J_MSquareRows_init_d1827 : decode J_MSquareRows_init.2.1 1827 = .ok (.dup, 1) := by decide +kernel
theorem J_MSquareRows_init_d1828 : decode J_MSquareRows_init.2.1 1828 = .ok (.sipush 142, 3) := by decide +kernel
theorem J_MSquareRows_init_d1831 : decode J_MSquareRows_init.2.1 1831 = .ok (.bipush 30, 2) := by decide +kernel
theorem J_MSquareRows_init_d1833 : decode J_MSquareRows_init.2.1 1833 = .ok (.iastore, 1) := by decide +kernel
theorem J_MSquareRows_init_d1834 : decode J_MSquareRows_init.2.1 1834 = .ok (.dup, 1) := by decide +kernel
theorem J_MSquareRows_init_d1835 : decode J_MSquareRows_init.2.1 1835 = .ok (.sipush 143, 3) := by decide +kernel
theorem J_MSquareRows_init_d1838 : decode J_MSquareRows_init.2.1 1838 = .ok (.bipush 32, 2) := by decide +kernel
theorem J_MSquareRows_init_d1840 : decode J_MSquareRows_init.2.1 1840 = .ok (.iastore, 1) := by decide +kernel
theorem J_MSquareRows_init_d1841 : decode J_MSquareRows_init.2.1 1841 = .ok (.dup, 1) := by decide +kernel
theorem J_MSquareRows_init_d1842 : decode J_MSquareRows_init.2.1 1842 = .ok (.sipush 144, 3) := by decide +kernel
theorem J_MSquareRows_init_d1845 : decode J_MSquareRows_init.2.1 1845 = .ok (.bipush 35, 2) := by decide +kernel
theorem J_MSquareRows_init_d1847 : decode J_MSquareRows_init.2.1 1847 = .ok (.iastore, 1) := by decide +kernel
theorem J_MSquareRows_init_d1848 : decode J_MSquareRows_init.2.1 1848 = .ok (.dup, 1) := by decide +kernel
theorem J_MSquareRows_init_d1849 : decode J_MSquareRows_init.2.1 1849 = .ok (.sipush 145, 3) := by decide +kernel
theorem J_MSquareRows_init_d1852 : decode J_MSquareRows_init.2.1 1852 = .ok (.bipush 37, 2) := by decide +kernel
theorem J_MSquareRows_init_d1854 : decode J_MSquareRows_init.2.1 1854 = .ok (.iastore, 1) := by decide +kernel
theorem J_MSquareRows_init_d1855 : decode J_MSquareRows_init.2.1 1855 = .ok (.dup, 1) := by decide +kernel
theorem J_MSquareRows_init_d1856 : decode J_MSquareRows_init.2.1 1856 = .ok (.sipush 146, 3) := by decide +kernel
theorem J_MSquareRows_init_d1859 : decode J_MSquareRows_init.2.1 1859 = .ok (.bipush 40, 2) := by decide +kernel
theorem J_MSquareRows_init_d1861 : decode J_MSquareRows_init.2.1 1861 = .ok (.iastore, 1) := by decide +kernel
theorem J_MSquareRows_init_d1862 : decode J_MSquareRows_init.2.1 1862 = .ok (.dup, 1) := by decide +kernel
theorem J_MSquareRows_init_d1863 : decode J_MSquareRows_init.2.1 1863 = .ok (.sipush 147, 3) := by decide +kernel
theorem J_MSquareRows_init_d1866 : decode J_MSquareRows_init.2.1 1866 = .ok (.bipush 42, 2) := by decide +kernel
theorem J_MSquareRows_init_d1868 : decode J_MSquareRows_init.2.1 1868 = .ok (.iastore, 1) := by decide +kernel
theorem J_MSquareRows_init_d1869 : decode J_MSquareRows_init.2.1 1869 = .ok (.dup, 1) := by decide +kernel
theorem J_MSquareRows_init_d1870 : decode J_MSquareRows_init.2.1 1870 = .ok (.sipush 148, 3) := by decide +kernel
theorem J_MSquareRows_init_d1873 : decode J_MSquareRows_init.2.1 1873 = .ok (.bipush 45, 2) := by decide +kernel
theorem J_MSquareRows_init_d1875 : decode J_MSquareRows_init.2.1 1875 = .ok (.iastore, 1) := by decide +kernel
theorem J_MSquareRows_init_d1876 : decode J_MSquareRows_init.2.1 1876 = .ok (.dup, 1) := by decide +kernel
theorem J_MSquareRows_init_d1877 : decode J_MSquareRows_init.2.1 1877 = .ok (.sipush 149, 3) := by decide +kernel
theorem J_MSquareRows_init_d1880 : decode J_MSquareRows_init.2.1 1880 = .ok (.bipush 48, 2) := by decide +kernel
theorem J_MSquareRows_init_d1882 : decode J_MSquareRows_init.2.1 1882 = .ok (.iastore, 1) := by decide +kernel
theorem J_MSquareRows_init_d1883 : decode J_MSquareRows_init.2.1 1883 = .ok (.dup, 1) := by decide +kernel
theorem J_MSquareRows_init_d1884 : decode J_MSquareRows_init.2.1 1884 = .ok (.sipush 150, 3) := by decide +kernel
theorem J_MSquareRows_init_d1887 : decode J_MSquareRows_init.2.1 1887 = .ok (.bipush 51, 2) := by decide +kernel
theorem J_MSquareRows_init_d1889 : decode J_MSquareRows_init.2.1 1889 = .ok (.iastore, 1) := by decide +kernel
theorem J_MSquareRows_init_d1890 : decode J_MSquareRows_init.2.1 1890 = .ok (.dup, 1) := by decide +kernel
theorem J_MSquareRows_init_d1891 : decode J_MSquareRows_init.2.1 1891 = .ok (.sipush 151, 3) := by decide +kernel
theorem J_MSquareRows_init_d1894 : decode J_MSquareRows_init.2.1 1894 = .ok (.bipush 54, 2) := by decide +kernel
theorem J_MSquareRows_init_d1896 : decode J_MSquareRows_init.2.1 1896 = .ok (.iastore, 1) := by decide +kernel
theorem J_MSquareRows_init_d1897 : decode J_MSquareRows_init.2.1 1897 = .ok (.dup, 1) := by decide +kernel
theorem J_MSquareRows_init_d1898 : decode J_MSquareRows_init.2.1 1898 = .ok (.sipush 152, 3) := by decide +kernel
theorem J_MSquareRows_init_d1901 : decode J_MSquareRows_init.2.1 1901 = .ok (.bipush 57, 2) := by decide +kernel
theorem J_MSquareRows_init_d1903 : decode J_MSquareRows_init.2.1 1903 = .ok (.iastore, 1) := by decide +kernel
theorem J_MSquareRows_init_d1904 : decode J_MSquareRows_init.2.1 1904 = .ok (.dup, 1) := by decide +kernel
theorem J_MSquareRows_init_d1905 : decode J_MSquareRows_init.2.1 1905 = .ok (.sipush 153, 3) := by decide +kernel
theorem J_MSquareRows_init_d1908 : decode J_MSquareRows_init.2.1 1908 = .ok (.bipush 60, 2) := by decide +kernel
theorem J_MSquareRows_init_d1910 : decode J_MSquareRows_init.2.1 1910 = .ok (.iastore, 1) := by decide +kernel
theorem J_MSquareRows_init_d1911 : decode J_MSquareRows_init.2.1 1911 = .ok (.dup, 1) := by decide +kernel
theorem J_MSquareRows_init_d1912 : decode J_MSquareRows_init.2.1 1912 = .ok (.sipush 154, 3) := by decide +kernel
theorem J_MSquareRows_init_d1915 : decode J_MSquareRows_init.2.1 1915 = .ok (.bipush 63, 2) := by decide +kernel
theorem J_MSquareRows_init_d1917 : decode J_MSquareRows_init.2.1 1917 = .ok (.iastore, 1) := by decide +kernel
theorem J_MSquareRows_init_d1918 : decode J_MSquareRows_init.2.1 1918 = .ok (.dup, 1) := by decide +kernel
theorem J_MSquareRows_init_d1919 : decode J_MSquareRows_init.2.1 1919 = .ok (.sipush 155, 3) := by decide +kernel
theorem J_MSquareRows_init_d1922 : decode J_MSquareRows_init.2.1 1922 = .ok (.bipush 66, 2) := by decide +kernel
theorem J_MSquareRows_init_d1924 : decode J_MSquareRows_init.2.1 1924 = .ok (.iastore, 1) := by decide +kernel
theorem J_MSquareRows_init_d1925 : decode J_MSquareRows_init.2.1 1925 = .ok (.dup, 1) := by decide +kernel
theorem J_MSquareRows_init_d1926 : decode J_MSquareRows_init.2.1 1926 = .ok (.sipush 156, 3) := by decide +kernel
theorem J_MSquareRows_init_d1929 : decode J_MSquareRows_init.2.1 1929 = .ok (.bipush 70, 2) := by decide +kernel
theorem J_MSquareRows_init_d1931 : decode J_MSquareRows_init.2.1 1931 = .ok (.iastore, 1) := by decide +kernel
theorem J_MSquareRows_init_d1932 : decode J_MSquareRows_init.2.1 1932 = .ok (.dup, 1) := by decide +kernel
theorem J_MSquareRows_init_d1933 : decode J_MSquareRows_init.2.1 1933 = .ok (.sipush 157, 3) := by decide +kernel
theorem J_MSquareRows_init_d1936 : decode J_MSquareRows_init.2.1 1936 = .ok (.bipush 74, 2) := by decide +kernel
theorem J_MSquareRows_init_d1938 : decode J_MSquareRows_init.2.1 1938 = .ok (.iastore, 1) := by decide +kernel
theorem J_MSquareRows_init_d1939 : decode J_MSquareRows_init.2.1 1939 = .ok (.dup, 1) := by decide +kernel
theorem J_MSquareRows_init_d1940 : decode J_MSquareRows_init.2.1 1940 = .ok (.sipush 158, 3) := by decide +kernel
theorem J_MSquareRows_init_d1943 : decode J_MSquareRows_init.2.1 1943 = .ok (.bipush 77, 2) := by decide +kernel
theorem J_MSquareRows_init_d1945 : decode J_MSquareRows_init.2.1 1945 = .ok (.iastore, 1) := by decide +kernel
theorem J_MSquareRows_init_d1946 : decode J_MSquareRows_init.2.1 1946 = .ok (.dup, 1) := by decide +kernel
theorem J_MSquareRows_init_d1947 : decode J_MSquareRows_init.2.1 1947 = .ok (.sipush 159, 3) := by decide +kernel
theorem J_MSquareRows_init_d1950 : decode J_MSquareRows_init.2.1 1950 = .ok (.bipush 81, 2) := by decide +kernel
theorem J_MSquareRows_init_d1952 : decode J_MSquareRows_init.2.1 1952 = .ok (.iastore, 1) := by decide +kernel
theorem J_MSquareRows_init_d1953 : decode J_MSquareRows_init.2.1 1953 = .ok (.putfield 13, 3) := by decide +kernel
theorem J_MSquareRows_init_d1956 : decode J_MSquareRows_init.2.1 1956 = .ok (.aload_n 0, 1) := by decide +kernel
theorem J_MSquareRows_init_d1957 : decode J_MSquareRows_init.2.1 1957 = .ok (.sipush 3000, 3) := by decide +kernel
theorem J_MSquareRows_init_d1960 : decode J_MSquareRows_init.2.1 1960 = .ok (.newarray .int, 2) := by decide +kernel
theorem J_MSquareRows_init_d1962 : decode J_MSquareRows_init.2.1 1962 = .ok (.putfield 16, 3) := by decide +kernel
theorem J_MSquareRows_init_d1965 : decode J_MSquareRows_init.2.1 1965 = .ok (.aload_n 0, 1) := by decide +kernel
theorem J_MSquareRows_init_d1966 : decode J_MSquareRows_init.2.1 1966 = .ok (.sipush 31329, 3) := by decide +kernel
theorem J_MSquareRows_init_d1969 : decode J_MSquareRows_init.2.1 1969 = .ok (.newarray .int, 2) := by decide +kernel
theorem J_MSquareRows_init_d1971 : decode J_MSquareRows_init.2.1 1971 = .ok (.putfield 19, 3) := by decide +kernel
theorem J_MSquareRows_init_d1974 : decode J_MSquareRows_init.2.1 1974 = .ok (.aload_n 0, 1) := by decide +kernel
theorem J_MSquareRows_init_d1975 : decode J_MSquareRows_init.2.1 1975 = .ok (.sipush 31329, 3) := by decide +kernel
theorem J_MSquareRows_init_d1978 : decode J_MSquareRows_init.2.1 1978 = .ok (.newarray .int, 2) := by decide +kernel
theorem J_MSquareRows_init_d1980 : decode J_MSquareRows_init.2.1 1980 = .ok (.putfield 22, 3) := by decide +kernel
theorem J_MSquareRows_init_d1983 : decode J_MSquareRows_init.2.1 1983 = .ok (.aload_n 0, 1) := by decide +kernel
theorem J_MSquareRows_init_d1984 : decode J_MSquareRows_init.2.1 1984 = .ok (.bipush 6, 2) := by decide +kernel
theorem J_MSquareRows_init_d1986 : decode J_MSquareRows_init.2.1 1986 = .ok (.newarray .int, 2) := by decide +kernel
theorem J_MSquareRows_init_d1988 : decode J_MSquareRows_init.2.1 1988 = .ok (.putfield 25, 3) := by decide +kernel
theorem J_MSquareRows_init_d1991 : decode J_MSquareRows_init.2.1 1991 = .ok (.aload_n 0, 1) := by decide +kernel
theorem J_MSquareRows_init_d1992 : decode J_MSquareRows_init.2.1 1992 = .ok (.sipush 3000, 3) := by decide +kernel
theorem J_MSquareRows_init_d1995 : decode J_MSquareRows_init.2.1 1995 = .ok (.newarray .int, 2) := by decide +kernel
theorem J_MSquareRows_init_d1997 : decode J_MSquareRows_init.2.1 1997 = .ok (.putfield 28, 3) := by decide +kernel
theorem J_MSquareRows_init_d2000 : decode J_MSquareRows_init.2.1 2000 = .ok (.aload_n 0, 1) := by decide +kernel
theorem J_MSquareRows_init_d2001 : decode J_MSquareRows_init.2.1 2001 = .ok (.sipush 3000, 3) := by decide +kernel
theorem J_MSquareRows_init_d2004 : decode J_MSquareRows_init.2.1 2004 = .ok (.newarray .int, 2) := by decide +kernel
theorem J_MSquareRows_init_d2006 : decode J_MSquareRows_init.2.1 2006 = .ok (.putfield 31, 3) := by decide +kernel
theorem J_MSquareRows_init_d2009 : decode J_MSquareRows_init.2.1 2009 = .ok (.aload_n 0, 1) := by decide +kernel
theorem J_MSquareRows_init_d2010 : decode J_MSquareRows_init.2.1 2010 = .ok (.sipush 3000, 3) := by decide +kernel
theorem J_MSquareRows_init_d2013 : decode J_MSquareRows_init.2.1 2013 = .ok (.newarray .int, 2) := by decide +kernel
theorem J_MSquareRows_init_d2015 : decode J_MSquareRows_init.2.1 2015 = .ok (.putfield 34, 3) := by decide +kernel
theorem J_MSquareRows_init_d2018 : decode J_MSquareRows_init.2.1 2018 = .ok (.aload_n 0, 1) := by decide +kernel
theorem J_MSquareRows_init_d2019 : decode J_MSquareRows_init.2.1 2019 = .ok (.sipush 18006, 3) := by decide +kernel
theorem J_MSquareRows_init_d2022 : decode J_MSquareRows_init.2.1 2022 = .ok (.newarray .int, 2) := by decide +kernel
theorem J_MSquareRows_init_d2024 : decode J_MSquareRows_init.2.1 2024 = .ok (.putfield 37, 3) := by decide +kernel
theorem J_MSquareRows_init_d2027 : decode J_MSquareRows_init.2.1 2027 = .ok (.aload_n 0, 1) := by decide +kernel
theorem J_MSquareRows_init_d2028 : decode J_MSquareRows_init.2.1 2028 = .ok (.sipush 3800, 3) := by decide +kernel
theorem J_MSquareRows_init_d2031 : decode J_MSquareRows_init.2.1 2031 = .ok (.newarray .int, 2) := by decide +kernel
theorem J_MSquareRows_init_d2033 : decode J_MSquareRows_init.2.1 2033 = .ok (.putfield 40, 3) := by decide +kernel
theorem J_MSquareRows_init_d2036 : decode J_MSquareRows_init.2.1 2036 = .ok (.aload_n 0, 1) := by decide +kernel
theorem J_MSquareRows_init_d2037 : decode J_MSquareRows_init.2.1 2037 = .ok (.sipush 3800, 3) := by decide +kernel
theorem J_MSquareRows_init_d2040 : decode J_MSquareRows_init.2.1 2040 = .ok (.newarray .int, 2) := by decide +kernel
theorem J_MSquareRows_init_d2042 : decode J_MSquareRows_init.2.1 2042 = .ok (.putfield 43, 3) := by decide +kernel
theorem J_MSquareRows_init_d2045 : decode J_MSquareRows_init.2.1 2045 = .ok (.aload_n 0, 1) := by decide +kernel
theorem J_MSquareRows_init_d2046 : decode J_MSquareRows_init.2.1 2046 = .ok (.sipush 256, 3) := by decide +kernel
theorem J_MSquareRows_init_d2049 : decode J_MSquareRows_init.2.1 2049 = .ok (.newarray .int, 2) := by decide +kernel
theorem J_MSquareRows_init_d2051 : decode J_MSquareRows_init.2.1 2051 = .ok (.putfield 46, 3) := by decide +kernel
theorem J_MSquareRows_init_d2054 : decode J_MSquareRows_init.2.1 2054 = .ok (.aload_n 0, 1) := by decide +kernel
theorem J_MSquareRows_init_d2055 : decode J_MSquareRows_init.2.1 2055 = .ok (.sipush 256, 3) := by decide +kernel
theorem J_MSquareRows_init_d2058 : decode J_MSquareRows_init.2.1 2058 = .ok (.newarray .int, 2) := by decide +kernel
theorem J_MSquareRows_init_d2060 : decode J_MSquareRows_init.2.1 2060 = .ok (.putfield 49, 3) := by decide +kernel
theorem J_MSquareRows_init_d2063 : decode J_MSquareRows_init.2.1 2063 = .ok (.aload_n 0, 1) := by decide +kernel
theorem J_MSquareRows_init_d2064 : decode J_MSquareRows_init.2.1 2064 = .ok (.bipush 32, 2) := by decide +kernel
theorem J_MSquareRows_init_d2066 : decode J_MSquareRows_init.2.1 2066 = .ok (.newarray .int, 2) := by decide +kernel
theorem J_MSquareRows_init_d2068 : decode J_MSquareRows_init.2.1 2068 = .ok (.putfield 52, 3) := by decide +kernel
theorem J_MSquareRows_init_d2071 : decode J_MSquareRows_init.2.1 2071 = .ok (.aload_n 0, 1) := by decide +kernel
theorem J_MSquareRows_init_d2072 : decode J_MSquareRows_init.2.1 2072 = .ok (.sipush 272, 3) := by decide +kernel
theorem J_MSquareRows_init_d2075 : decode J_MSquareRows_init.2.1 2075 = .ok (.newarray .int, 2) := by decide +kernel
theorem J_MSquareRows_init_d2077 : decode J_MSquareRows_init.2.1 2077 = .ok (.putfield 55, 3) := by decide +kernel
theorem J_MSquareRows_init_d2080 : decode J_MSquareRows_init.2.1 2080 = .ok (.aload_n 0, 1) := by decide +kernel
theorem J_MSquareRows_init_d2081 : decode J_MSquareRows_init.2.1 2081 = .ok (.bipush 16, 2) := by decide +kernel
theorem J_MSquareRows_init_d2083 : decode J_MSquareRows_init.2.1 2083 = .ok (.newarray .int, 2) := by decide +kernel
theorem J_MSquareRows_init_d2085 : decode J_MSquareRows_init.2.1 2085 = .ok (.putfield 58, 3) := by decide +kernel
theorem J_MSquareRows_init_d2088 : decode J_MSquareRows_init.2.1 2088 = .ok (.aload_n 0, 1) := by decide +kernel
theorem J_MSquareRows_init_d2089 : decode J_MSquareRows_init.2.1 2089 = .ok (.bipush 16, 2) := by decide +kernel
theorem J_MSquareRows_init_d2091 : decode J_MSquareRows_init.2.1 2091 = .ok (.newarray .int, 2) := by decide +kernel
theorem J_MSquareRows_init_d2093 : decode J_MSquareRows_init.2.1 2093 = .ok (.putfield 61, 3) := by decide +kernel
theorem J_MSquareRows_init_d2096 : decode J_MSquareRows_init.2.1 2096 = .ok (.aload_n 0, 1) := by decide +kernel
theorem J_MSquareRows_init_d2097 : decode J_MSquareRows_init.2.1 2097 = .ok (.bipush 32, 2) := by decide +kernel
theorem J_MSquareRows_init_d2099 : decode J_MSquareRows_init.2.1 2099 = .ok (.newarray .int, 2) := by decide +kernel
theorem J_MSquareRows_init_d2101 : decode J_MSquareRows_init.2.1 2101 = .ok (.putfield 64, 3) := by decide +kernel
theorem J_MSquareRows_init_d2104 : decode J_MSquareRows_init.2.1 2104 = .ok (.aload_n 0, 1) := by decide +kernel
theorem J_MSquareRows_init_d2105 : decode J_MSquareRows_init.2.1 2105 = .ok (.sipush 3000, 3) := by decide +kernel
theorem J_MSquareRows_init_d2108 : decode J_MSquareRows_init.2.1 2108 = .ok (.newarray .int, 2) := by decide +kernel
theorem J_MSquareRows_init_d2110 : decode J_MSquareRows_init.2.1 2110 = .ok (.putfield 67, 3) := by decide +kernel
theorem J_MSquareRows_init_d2113 : decode J_MSquareRows_init.2.1 2113 = .ok (.aload_n 0, 1) := by decide +kernel
theorem J_MSquareRows_init_d2114 : decode J_MSquareRows_init.2.1 2114 = .ok (.iconst 4, 1) := by decide +kernel
theorem J_MSquareRows_init_d2115 : decode J_MSquareRows_init.2.1 2115 = .ok (.newarray .int, 2) := by decide +kernel
theorem J_MSquareRows_init_d2117 : decode J_MSquareRows_init.2.1 2117 = .ok (.putfield 70, 3) := by decide +kernel
theorem J_MSquareRows_init_d2120 : decode J_MSquareRows_init.2.1 2120 = .ok (.return_, 1) := by decide +kernel
set_option maxRecDepth 20000 in
set_option maxHeartbeats 40000000 in
theorem cs_16 {L : Nat} {xs : Nat → Int32} {dep : Nat} : ia (tb_G L xs) dep J_MSquareRows_init (fun v M1 => v = none ∧ M1 = mm_747) (0, lv_args 0 [.ref 108], [], mm_385) := by
  have hS : im_St (tb_G L xs) dep J_MSquareRows_init (ia (tb_G L xs) dep J_MSquareRows_init (fun v M1 => v = none ∧ M1 = mm_747)) := ia_St
  have h0 : im_lk (lv_args 0 [.ref 108]) 0 = some (.ref 108) := rfl
  refine iq_aload_n hS 1 J_MSquareRows_init_d0 h0 rfl ?_
  refine iq_oinit hS 4 J_MSquareRows_init_d1 (by decide +kernel) (Nat.le_of_ble_eq_true rfl) rfl ?_
  refine iq_aload_n hS 5 J_MSquareRows_init_d4 h0 rfl ?_
  refine iq_sipush hS 8 J_MSquareRows_init_d5 (v := 160) (by decide +kernel) rfl ?_
  refine iq_newa hS 10 J_MSquareRows_init_d8 (N := 160) rfl (by decide) (by decide) (by decide) (by decide) (by decide) rfl ?_
  change ia _ _ _ _ (_, _, .ref 109 :: _, mm_386)
  refine iq_dup hS 11 J_MSquareRows_init_d10 rfl rfl ?_
  refine iq_iconst hS 12 J_MSquareRows_init_d11 (v := 0) (by decide +kernel) rfl ?_
  refine iq_bipush hS 14 J_MSquareRows_init_d12 (v := 7) (by decide +kernel) rfl ?_
  refine iq_iastore hS 15 J_MSquareRows_init_d14 ⟨by decide, rfl, by decide +kernel, by decide +kernel⟩ rfl ?_
  change ia _ _ _ _ (_, _, _, mm_387)
  refine iq_dup hS 16 J_MSquareRows_init_d15 rfl rfl ?_
  refine iq_iconst hS 17 J_MSquareRows_init_d16 (v := 1) (by decide +kernel) rfl ?_
  refine iq_bipush hS 19 J_MSquareRows_init_d17 (v := 10) (by decide +kernel) rfl ?_
  refine iq_iastore hS 20 J_MSquareRows_init_d19 ⟨by decide, rfl, by decide +kernel, by decide +kernel⟩ rfl ?_
  change ia _ _ _ _ (_, _, _, mm_388)
  refine iq_dup hS 21 J_MSquareRows_init_d20 rfl rfl ?_
  refine iq_iconst hS 22 J_MSquareRows_init_d21 (v := 2) (by decide +kernel) rfl ?_
  refine iq_bipush hS 24 J_MSquareRows_init_d22 (v := 15) (by decide +kernel) rfl ?_
  refine iq_iastore hS 25 J_MSquareRows_init_d24 ⟨by decide, rfl, by decide +kernel, by decide +kernel⟩ rfl ?_
  change ia _ _ _ _ (_, _, _, mm_389)
  refine iq_dup hS 26 J_MSquareRows_init_d25 rfl rfl ?_
  refine iq_iconst hS 27 J_MSquareRows_init_d26 (v := 3) (by decide +kernel) rfl ?_
  refine iq_bipush hS 29 J_MSquareRows_init_d27 (v := 20) (by decide +kernel) rfl ?_
  refine iq_iastore hS 30 J_MSquareRows_init_d29 ⟨by decide, rfl, by decide +kernel, by decide +kernel⟩ rfl ?_
  change ia _ _ _ _ (_, _, _, mm_390)
  refine iq_dup hS 31 J_MSquareRows_init_d30 rfl rfl ?_
  refine iq_iconst hS 32 J_MSquareRows_init_d31 (v := 4) (by decide +kernel) rfl ?_
  refine iq_bipush hS 34 J_MSquareRows_init_d32 (v := 26) (by decide +kernel) rfl ?_
  refine iq_iastore hS 35 J_MSquareRows_init_d34 ⟨by decide, rfl, by decide +kernel, by decide +kernel⟩ rfl ?_
  change ia _ _ _ _ (_, _, _, mm_391)
  refine iq_dup hS 36 J_MSquareRows_init_d35 rfl rfl ?_
  refine iq_iconst hS 37 J_MSquareRows_init_d36 (v := 5) (by decide +kernel) rfl ?_
  refine iq_bipush hS 39 J_MSquareRows_init_d37 (v := 18) (by decide +kernel) rfl ?_
  refine iq_iastore hS 40 J_MSquareRows_init_d39 ⟨by decide, rfl, by decide +kernel, by decide +kernel⟩ rfl ?_
  change ia _ _ _ _ (_, _, _, mm_392)
  refine iq_dup hS 41 J_MSquareRows_init_d40 rfl rfl ?_
  refine iq_bipush hS 43 J_MSquareRows_init_d41 (v := 6) (by decide +kernel) rfl ?_
  refine iq_bipush hS 45 J_MSquareRows_init_d43 (v := 20) (by decide +kernel) rfl ?_
  refine iq_iastore hS 46 J_MSquareRows_init_d45 ⟨by decide, rfl, by decide +kernel, by decide +kernel⟩ rfl ?_
  change ia _ _ _ _ (_, _, _, mm_393)
  refine iq_dup hS 47 J_MSquareRows_init_d46 rfl rfl ?_
  refine iq_bipush hS 49 J_MSquareRows_init_d47 (v := 7) (by decide +kernel) rfl ?_
  refine iq_bipush hS 51 J_MSquareRows_init_d49 (v := 24) (by decide +kernel) rfl ?_
  refine iq_iastore hS 52 J_MSquareRows_init_d51 ⟨by decide, rfl, by decide +kernel, by decide +kernel⟩ rfl ?_
  change ia _ _ _ _ (_, _, _, mm_394)
  refine iq_dup hS 53 J_MSquareRows_init_d52 rfl rfl ?_
  refine iq_bipush hS 55 J_MSquareRows_init_d53 (v := 8) (by decide +kernel) rfl ?_
  refine iq_bipush hS 57 J_MSquareRows_init_d55 (v := 30) (by decide +kernel) rfl ?_
  refine iq_iastore hS 58 J_MSquareRows_init_d57 ⟨by decide, rfl, by decide +kernel, by decide +kernel⟩ rfl ?_
  change ia _ _ _ _ (_, _, _, mm_395)
  refine iq_dup hS 59 J_MSquareRows_init_d58 rfl rfl ?_
  refine iq_bipush hS 61 J_MSquareRows_init_d59 (v := 9) (by decide +kernel) rfl ?_
  refine iq_bipush hS 63 J_MSquareRows_init_d61 (v := 18) (by decide +kernel) rfl ?_
  refine iq_iastore hS 64 J_MSquareRows_init_d63 ⟨by decide, rfl, by decide +kernel, by decide +kernel⟩ rfl ?_
  change ia _ _ _ _ (_, _, _, mm_396)
  refine iq_dup hS 65 J_MSquareRows_init_d64 rfl rfl ?_
  refine iq_bipush hS 67 J_MSquareRows_init_d65 (v := 10) (by decide +kernel) rfl ?_
  refine iq_bipush hS 69 J_MSquareRows_init_d67 (v := 20) (by decide +kernel) rfl ?_
  refine iq_iastore hS 70 J_MSquareRows_init_d69 ⟨by decide, rfl, by decide +kernel, by decide +kernel⟩ rfl ?_
  change ia _ _ _ _ (_, _, _, mm_397)
  refine iq_dup hS 71 J_MSquareRows_init_d70 rfl rfl ?_
  refine iq_bipush hS 73 J_MSquareRows_init_d71 (v := 11) (by decide +kernel) rfl ?_
  refine iq_bipush hS 75 J_MSquareRows_init_d73 (v := 24) (by decide +kernel) rfl ?_
  refine iq_iastore hS 76 J_MSquareRows_init_d75 ⟨by decide, rfl, by decide +kernel, by decide +kernel⟩ rfl ?_
  change ia _ _ _ _ (_, _, _, mm_398)
  refine iq_dup hS 77 J_MSquareRows_init_d76 rfl rfl ?_
  refine iq_bipush hS 79 J_MSquareRows_init_d77 (v := 12) (by decide +kernel) rfl ?_
  refine iq_bipush hS 81 J_MSquareRows_init_d79 (v := 26) (by decide +kernel) rfl ?_
  refine iq_iastore hS 82 J_MSquareRows_init_d81 ⟨by decide, rfl, by decide +kernel, by decide +kernel⟩ rfl ?_
  change ia _ _ _ _ (_, _, _, mm_399)
  refine iq_dup hS 83 J_MSquareRows_init_d82 rfl rfl ?_
  refine iq_bipush hS 85 J_MSquareRows_init_d83 (v := 13) (by decide +kernel) rfl ?_
  refine iq_bipush hS 87 J_MSquareRows_init_d85 (v := 30) (by decide +kernel) rfl ?_
  refine iq_iastore hS 88 J_MSquareRows_init_d87 ⟨by decide, rfl, by decide +kernel, by decide +kernel⟩ rfl ?_
  change ia _ _ _ _ (_, _, _, mm_400)
  refine iq_dup hS 89 J_MSquareRows_init_d88 rfl rfl ?_
  refine iq_bipush hS 91 J_MSquareRows_init_d89 (v := 14) (by decide +kernel) rfl ?_
  refine iq_bipush hS 93 J_MSquareRows_init_d91 (v := 22) (by decide +kernel) rfl ?_
  refine iq_iastore hS 94 J_MSquareRows_init_d93 ⟨by decide, rfl, by decide +kernel, by decide +kernel⟩ rfl ?_
  change ia _ _ _ _ (_, _, _, mm_401)
  refine iq_dup hS 95 J_MSquareRows_init_d94 rfl rfl ?_
  refine iq_bipush hS 97 J_MSquareRows_init_d95 (v := 15) (by decide +kernel) rfl ?_
  refine iq_bipush hS 99 J_MSquareRows_init_d97 (v := 24) (by decide +kernel) rfl ?_
  refine iq_iastore hS 100 J_MSquareRows_init_d99 ⟨by decide, rfl, by decide +kernel, by decide +kernel⟩ rfl ?_
  change ia _ _ _ _ (_, _, _, mm_402)
  refine iq_dup hS 101 J_MSquareRows_init_d100 rfl rfl ?_
  refine iq_bipush hS 103 J_MSquareRows_init_d101 (v := 16) (by decide +kernel) rfl ?_
  refine iq_bipush hS 105 J_MSquareRows_init_d103 (v := 28) (by decide +kernel) rfl ?_
  refine iq_iastore hS 106 J_MSquareRows_init_d105 ⟨by decide, rfl, by decide +kernel, by decide +kernel⟩ rfl ?_
  change ia _ _ _ _ (_, _, _, mm_403)
  refine iq_dup hS 107 J_MSquareRows_init_d106 rfl rfl ?_
  refine iq_bipush hS 109 J_MSquareRows_init_d107 (v := 17) (by decide +kernel) rfl ?_
  refine iq_bipush hS 111 J_MSquareRows_init_d109 (v := 30) (by decide +kernel) rfl ?_
  refine iq_iastore hS 112 J_MSquareRows_init_d111 ⟨by decide, rfl, by decide +kernel, by decide +kernel⟩ rfl ?_
  change ia _ _ _ _ (_, _, _, mm_404)
  refine iq_dup hS 113 J_MSquareRows_init_d112 rfl rfl ?_
  refine iq_bipush hS 115 J_MSquareRows_init_d113 (v := 18) (by decide +kernel) rfl ?_
  refine iq_bipush hS 117 J_MSquareRows_init_d115 (v := 28) (by decide +kernel) rfl ?_
  refine iq_iastore hS 118 J_MSquareRows_init_d117 ⟨by decide, rfl, by decide +kernel, by decide +kernel⟩ rfl ?_
  change ia _ _ _ _ (_, _, _, mm_405)
  refine iq_dup hS 119 J_MSquareRows_init_d118 rfl rfl ?_
  refine iq_bipush hS 121 J_MSquareRows_init_d119 (v := 19) (by decide +kernel) rfl ?_
  refine iq_bipush hS 123 J_MSquareRows_init_d121 (v := 28) (by decide +kernel) rfl ?_
  refine iq_iastore hS 124 J_MSquareRows_init_d123 ⟨by decide, rfl, by decide +kernel, by decide +kernel⟩ rfl ?_
  change ia _ _ _ _ (_, _, _, mm_406)
  refine iq_dup hS 125 J_MSquareRows_init_d124 rfl rfl ?_
  refine iq_bipush hS 127 J_MSquareRows_init_d125 (v := 20) (by decide +kernel) rfl ?_
  refine iq_bipush hS 129 J_MSquareRows_init_d127 (v := 28) (by decide +kernel) rfl ?_
  refine iq_iastore hS 130 J_MSquareRows_init_d129 ⟨by decide, rfl, by decide +kernel, by decide +kernel⟩ rfl ?_
  change ia _ _ _ _ (_, _, _, mm_407)
  refine iq_dup hS 131 J_MSquareRows_init_d130 rfl rfl ?_
  refine iq_bipush hS 133 J_MSquareRows_init_d131 (v := 21) (by decide +kernel) rfl ?_
  refine iq_bipush hS 135 J_MSquareRows_init_d133 (v := 28) (by decide +kernel) rfl ?_
  refine iq_iastore hS 136 J_MSquareRows_init_d135 ⟨by decide, rfl, by decide +kernel, by decide +kernel⟩ rfl ?_
  change ia _ _ _ _ (_, _, _, mm_408)
  refine iq_dup hS 137 J_MSquareRows_init_d136 rfl rfl ?_
  refine iq_bipush hS 139 J_MSquareRows_init_d137 (v := 22) (by decide +kernel) rfl ?_
  refine iq_bipush hS 141 J_MSquareRows_init_d139 (v := 30) (by decide +kernel) rfl ?_
  refine iq_iastore hS 142 J_MSquareRows_init_d141 ⟨by decide, rfl, by decide +kernel, by decide +kernel⟩ rfl ?_
  change ia _ _ _ _ (_, _, _, mm_409)
  refine iq_dup hS 143 J_MSquareRows_init_d142 rfl rfl ?_
  refine iq_bipush hS 145 J_MSquareRows_init_d143 (v := 23) (by decide +kernel) rfl ?_
  refine iq_bipush hS 147 J_MSquareRows_init_d145 (v := 30) (by decide +kernel) rfl ?_
  refine iq_iastore hS 148 J_MSquareRows_init_d147 ⟨by decide, rfl, by decide +kernel, by decide +kernel⟩ rfl ?_
  change ia _ _ _ _ (_, _, _, mm_410)
  refine iq_dup hS 149 J_MSquareRows_init_d148 rfl rfl ?_
  refine iq_bipush hS 151 J_MSquareRows_init_d149 (v := 24) (by decide +kernel) rfl ?_
  refine iq_bipush hS 153 J_MSquareRows_init_d151 (v := 26) (by decide +kernel) rfl ?_
  refine iq_iastore hS 154 J_MSquareRows_init_d153 ⟨by decide, rfl, by decide +kernel, by decide +kernel⟩ rfl ?_
  change ia _ _ _ _ (_, _, _, mm_411)
  refine iq_dup hS 155 J_MSquareRows_init_d154 rfl rfl ?_
  refine iq_bipush hS 157 J_MSquareRows_init_d155 (v := 25) (by decide +kernel) rfl ?_
  refine iq_bipush hS 159 J_MSquareRows_init_d157 (v := 28) (by decide +kernel) rfl ?_
  refine iq_iastore hS 160 J_MSquareRows_init_d159 ⟨by decide, rfl, by decide +kernel, by decide +kernel⟩ rfl ?_
  change ia _ _ _ _ (_, _, _, mm_412)
  refine iq_dup hS 161 J_MSquareRows_init_d160 rfl rfl ?_
  refine iq_bipush hS 163 J_MSquareRows_init_d161 (v := 26) (by decide +kernel) rfl ?_
  refine iq_bipush hS 165 J_MSquareRows_init_d163 (v := 30) (by decide +kernel) rfl ?_
  refine iq_iastore hS 166 J_MSquareRows_init_d165 ⟨by decide, rfl, by decide +kernel, by decide +kernel⟩ rfl ?_
  change ia _ _ _ _ (_, _, _, mm_413)
  refine iq_dup hS 167 J_MSquareRows_init_d166 rfl rfl ?_
  refine iq_bipush hS 169 J_MSquareRows_init_d167 (v := 27) (by decide +kernel) rfl ?_
  refine iq_bipush hS 171 J_MSquareRows_init_d169 (v := 30) (by decide +kernel) rfl ?_
  refine iq_iastore hS 172 J_MSquareRows_init_d171 ⟨by decide, rfl, by decide +kernel, by decide +kernel⟩ rfl ?_
  change ia _ _ _ _ (_, _, _, mm_414)
  refine iq_dup hS 173 J_MSquareRows_init_d172 rfl rfl ?_
  refine iq_bipush hS 175 J_MSquareRows_init_d173 (v := 28) (by decide +kernel) rfl ?_
  refine iq_bipush hS 177 J_MSquareRows_init_d175 (v := 30) (by decide +kernel) rfl ?_
  refine iq_iastore hS 178 J_MSquareRows_init_d177 ⟨by decide, rfl, by decide +kernel, by decide +kernel⟩ rfl ?_
  change ia _ _ _ _ (_, _, _, mm_415)
  refine iq_dup hS 179 J_MSquareRows_init_d178 rfl rfl ?_
  refine iq_bipush hS 181 J_MSquareRows_init_d179 (v := 29) (by decide +kernel) rfl ?_
  refine iq_bipush hS 183 J_MSquareRows_init_d181 (v := 30) (by decide +kernel) rfl ?_
  refine iq_iastore hS 184 J_MSquareRows_init_d183 ⟨by decide, rfl, by decide +kernel, by decide +kernel⟩ rfl ?_
  change ia _ _ _ _ (_, _, _, mm_416)
  refine iq_dup hS 185 J_MSquareRows_init_d184 rfl rfl ?_
  refine iq_bipush hS 187 J_MSquareRows_init_d185 (v := 30) (by decide +kernel) rfl ?_
  refine iq_bipush hS 189 J_MSquareRows_init_d187 (v := 30) (by decide +kernel) rfl ?_
  refine iq_iastore hS 190 J_MSquareRows_init_d189 ⟨by decide, rfl, by decide +kernel, by decide +kernel⟩ rfl ?_
  change ia _ _ _ _ (_, _, _, mm_417)
  refine iq_dup hS 191 J_MSquareRows_init_d190 rfl rfl ?_
  refine iq_bipush hS 193 J_MSquareRows_init_d191 (v := 31) (by decide +kernel) rfl ?_
  refine iq_bipush hS 195 J_MSquareRows_init_d193 (v := 30) (by decide +kernel) rfl ?_
  refine iq_iastore hS 196 J_MSquareRows_init_d195 ⟨by decide, rfl, by decide +kernel, by decide +kernel⟩ rfl ?_
  change ia _ _ _ _ (_, _, _, mm_418)
  refine iq_dup hS 197 J_MSquareRows_init_d196 rfl rfl ?_
  refine iq_bipush hS 199 J_MSquareRows_init_d197 (v := 32) (by decide +kernel) rfl ?_
  refine iq_bipush hS 201 J_MSquareRows_init_d199 (v := 30) (by decide +kernel) rfl ?_
  refine iq_iastore hS 202 J_MSquareRows_init_d201 ⟨by decide, rfl, by decide +kernel, by decide +kernel⟩ rfl ?_
  change ia _ _ _ _ (_, _, _, mm_419)
  refine iq_dup hS 203 J_MSquareRows_init_d202 rfl rfl ?_
  refine iq_bipush hS 205 J_MSquareRows_init_d203 (v := 33) (by decide +kernel) rfl ?_
  refine iq_bipush hS 207 J_MSquareRows_init_d205 (v := 30) (by decide +kernel) rfl ?_
  refine iq_iastore hS 208 J_MSquareRows_init_d207 ⟨by decide, rfl, by decide +kernel, by decide +kernel⟩ rfl ?_
  change ia _ _ _ _ (_, _, _, mm_420)
  refine iq_dup hS 209 J_MSquareRows_init_d208 rfl rfl ?_
  refine iq_bipush hS 211 J_MSquareRows_init_d209 (v := 34) (by decide +kernel) rfl ?_
  refine iq_bipush hS 213 J_MSquareRows_init_d211 (v := 30) (by decide +kernel) rfl ?_
  refine iq_iastore hS 214 J_MSquareRows_init_d213 ⟨by decide, rfl, by decide +kernel, by decide +kernel⟩ rfl ?_
  change ia _ _ _ _ (_, _, _, mm_421)
  refine iq_dup hS 215 J_MSquareRows_init_d214 rfl rfl ?_
  refine iq_bipush hS 217 J_MSquareRows_init_d215 (v := 35) (by decide +kernel) rfl ?_
  refine iq_bipush hS 219 J_MSquareRows_init_d217 (v := 30) (by decide +kernel) rfl ?_
  refine iq_iastore hS 220 J_MSquareRows_init_d219 ⟨by decide, rfl, by decide +kernel, by decide +kernel⟩ rfl ?_
  change ia _ _ _ _ (_, _, _, mm_422)
  refine iq_dup hS 221 J_MSquareRows_init_d220 rfl rfl ?_
  refine iq_bipush hS 223 J_MSquareRows_init_d221 (v := 36) (by decide +kernel) rfl ?_
  refine iq_bipush hS 225 J_MSquareRows_init_d223 (v := 30) (by decide +kernel) rfl ?_
  refine iq_iastore hS 226 J_MSquareRows_init_d225 ⟨by decide, rfl, by decide +kernel, by decide +kernel⟩ rfl ?_
  change ia _ _ _ _ (_, _, _, mm_423)
  refine iq_dup hS 227 J_MSquareRows_init_d226 rfl rfl ?_
  refine iq_bipush hS 229 J_MSquareRows_init_d227 (v := 37) (by decide +kernel) rfl ?_
  refine iq_bipush hS 231 J_MSquareRows_init_d229 (v := 30) (by decide +kernel) rfl ?_
  refine iq_iastore hS 232 J_MSquareRows_init_d231 ⟨by decide, rfl, by decide +kernel, by decide +kernel⟩ rfl ?_
  change ia _ _ _ _ (_, _, _, mm_424)
  refine iq_dup hS 233 J_MSquareRows_init_d232 rfl rfl ?_
  refine iq_bipush hS 235 J_MSquareRows_init_d233 (v := 38) (by decide +kernel) rfl ?_
  refine iq_bipush hS 237 J_MSquareRows_init_d235 (v := 30) (by decide +kernel) rfl ?_
  refine iq_iastore hS 238 J_MSquareRows_init_d237 ⟨by decide, rfl, by decide +kernel, by decide +kernel⟩ rfl ?_
  change ia _ _ _ _ (_, _, _, mm_425)
  refine iq_dup hS 239 J_MSquareRows_init_d238 rfl rfl ?_
  refine iq_bipush hS 241 J_MSquareRows_init_d239 (v := 39) (by decide +kernel) rfl ?_
  refine iq_bipush hS 243 J_MSquareRows_init_d241 (v := 30) (by decide +kernel) rfl ?_
  refine iq_iastore hS 244 J_MSquareRows_init_d243 ⟨by decide, rfl, by decide +kernel, by decide +kernel⟩ rfl ?_
  change ia _ _ _ _ (_, _, _, mm_426)
  refine iq_dup hS 245 J_MSquareRows_init_d244 rfl rfl ?_
  refine iq_bipush hS 247 J_MSquareRows_init_d245 (v := 40) (by decide +kernel) rfl ?_
  refine iq_bipush hS 249 J_MSquareRows_init_d247 (v := 10) (by decide +kernel) rfl ?_
  refine iq_iastore hS 250 J_MSquareRows_init_d249 ⟨by decide, rfl, by decide +kernel, by decide +kernel⟩ rfl ?_
  change ia _ _ _ _ (_, _, _, mm_427)
  refine iq_dup hS 251 J_MSquareRows_init_d250 rfl rfl ?_
  refine iq_bipush hS 253 J_MSquareRows_init_d251 (v := 41) (by decide +kernel) rfl ?_
  refine iq_bipush hS 255 J_MSquareRows_init_d253 (v := 16) (by decide +kernel) rfl ?_
  refine iq_iastore hS 256 J_MSquareRows_init_d255 ⟨by decide, rfl, by decide +kernel, by decide +kernel⟩ rfl ?_
  change ia _ _ _ _ (_, _, _, mm_428)
  refine iq_dup hS 257 J_MSquareRows_init_d256 rfl rfl ?_
  refine iq_bipush hS 259 J_MSquareRows_init_d257 (v := 42) (by decide +kernel) rfl ?_
  refine iq_bipush hS 261 J_MSquareRows_init_d259 (v := 26) (by decide +kernel) rfl ?_
  refine iq_iastore hS 262 J_MSquareRows_init_d261 ⟨by decide, rfl, by decide +kernel, by decide +kernel⟩ rfl ?_
  change ia _ _ _ _ (_, _, _, mm_429)
  refine iq_dup hS 263 J_MSquareRows_init_d262 rfl rfl ?_
  refine iq_bipush hS 265 J_MSquareRows_init_d263 (v := 43) (by decide +kernel) rfl ?_
  refine iq_bipush hS 267 J_MSquareRows_init_d265 (v := 18) (by decide +kernel) rfl ?_
  refine iq_iastore hS 268 J_MSquareRows_init_d267 ⟨by decide, rfl, by decide +kernel, by decide +kernel⟩ rfl ?_
  change ia _ _ _ _ (_, _, _, mm_430)
  refine iq_dup hS 269 J_MSquareRows_init_d268 rfl rfl ?_
  refine iq_bipush hS 271 J_MSquareRows_init_d269 (v := 44) (by decide +kernel) rfl ?_
  refine iq_bipush hS 273 J_MSquareRows_init_d271 (v := 24) (by decide +kernel) rfl ?_
  refine iq_iastore hS 274 J_MSquareRows_init_d273 ⟨by decide, rfl, by decide +kernel, by decide +kernel⟩ rfl ?_
  change ia _ _ _ _ (_, _, _, mm_431)
  refine iq_dup hS 275 J_MSquareRows_init_d274 rfl rfl ?_
  refine iq_bipush hS 277 J_MSquareRows_init_d275 (v := 45) (by decide +kernel) rfl ?_
  refine iq_bipush hS 279 J_MSquareRows_init_d277 (v := 16) (by decide +kernel) rfl ?_
  refine iq_iastore hS 280 J_MSquareRows_init_d279 ⟨by decide, rfl, by decide +kernel, by decide +kernel⟩ rfl ?_
  change ia _ _ _ _ (_, _, _, mm_432)
  refine iq_dup hS 281 J_MSquareRows_init_d280 rfl rfl ?_
  refine iq_bipush hS 283 J_MSquareRows_init_d281 (v := 46) (by decide +kernel) rfl ?_
  refine iq_bipush hS 285 J_MSquareRows_init_d283 (v := 18) (by decide +kernel) rfl ?_
  refine iq_iastore hS 286 J_MSquareRows_init_d285 ⟨by decide, rfl, by decide +kernel, by decide +kernel⟩ rfl ?_
  change ia _ _ _ _ (_, _, _, mm_433)
  refine iq_dup hS 287 J_MSquareRows_init_d286 rfl rfl ?_
  refine iq_bipush hS 289 J_MSquareRows_init_d287 (v := 47) (by decide +kernel) rfl ?_
  refine iq_bipush hS 291 J_MSquareRows_init_d289 (v := 22) (by decide +kernel) rfl ?_
  refine iq_iastore hS 292 J_MSquareRows_init_d291 ⟨by decide, rfl, by decide +kernel, by decide +kernel⟩ rfl ?_
  change ia _ _ _ _ (_, _, _, mm_434)
  refine iq_dup hS 293 J_MSquareRows_init_d292 rfl rfl ?_
  refine iq_bipush hS 295 J_MSquareRows_init_d293 (v := 48) (by decide +kernel) rfl ?_
  refine iq_bipush hS 297 J_MSquareRows_init_d295 (v := 22) (by decide +kernel) rfl ?_
  refine iq_iastore hS 298 J_MSquareRows_init_d297 ⟨by decide, rfl, by decide +kernel, by decide +kernel⟩ rfl ?_
  change ia _ _ _ _ (_, _, _, mm_435)
  refine iq_dup hS 299 J_MSquareRows_init_d298 rfl rfl ?_
  refine iq_bipush hS 301 J_MSquareRows_init_d299 (v := 49) (by decide +kernel) rfl ?_
  refine iq_bipush hS 303 J_MSquareRows_init_d301 (v := 26) (by decide +kernel) rfl ?_
  refine iq_iastore hS 304 J_MSquareRows_init_d303 ⟨by decide, rfl, by decide +kernel, by decide +kernel⟩ rfl ?_
  change ia _ _ _ _ (_, _, _, mm_436)
  refine iq_dup hS 305 J_MSquareRows_init_d304 rfl rfl ?_
  refine iq_bipush hS 307 J_MSquareRows_init_d305 (v := 50) (by decide +kernel) rfl ?_
  refine iq_bipush hS 309 J_MSquareRows_init_d307 (v := 30) (by decide +kernel) rfl ?_
  refine iq_iastore hS 310 J_MSquareRows_init_d309 ⟨by decide, rfl, by decide +kernel, by decide +kernel⟩ rfl ?_
  change ia _ _ _ _ (_, _, _, mm_437)
  refine iq_dup hS 311 J_MSquareRows_init_d310 rfl rfl ?_
  refine iq_bipush hS 313 J_MSquareRows_init_d311 (v := 51) (by decide +kernel) rfl ?_
  refine iq_bipush hS 315 J_MSquareRows_init_d313 (v := 22) (by decide +kernel) rfl ?_
  refine iq_iastore hS 316 J_MSquareRows_init_d315 ⟨by decide, rfl, by decide +kernel, by decide +kernel⟩ rfl ?_
  change ia _ _ _ _ (_, _, _, mm_438)
  refine iq_dup hS 317 J_MSquareRows_init_d316 rfl rfl ?_
  refine iq_bipush hS 319 J_MSquareRows_init_d317 (v := 52) (by decide +kernel) rfl ?_
  refine iq_bipush hS 321 J_MSquareRows_init_d319 (v := 22) (by decide +kernel) rfl ?_
  refine iq_iastore hS 322 J_MSquareRows_init_d321 ⟨by decide, rfl, by decide +kernel, by decide +kernel⟩ rfl ?_
  change ia _ _ _ _ (_, _, _, mm_439)
  refine iq_dup hS 323 J_MSquareRows_init_d322 rfl rfl ?_
  refine iq_bipush hS 325 J_MSquareRows_init_d323 (v := 53) (by decide +kernel) rfl ?_
  refine iq_bipush hS 327 J_MSquareRows_init_d325 (v := 24) (by decide +kernel) rfl ?_
  refine iq_iastore hS 328 J_MSquareRows_init_d327 ⟨by decide, rfl, by decide +kernel, by decide +kernel⟩ rfl ?_
  change ia _ _ _ _ (_, _, _, mm_440)
  refine iq_dup hS 329 J_MSquareRows_init_d328 rfl rfl ?_
  refine iq_bipush hS 331 J_MSquareRows_init_d329 (v := 54) (by decide +kernel) rfl ?_
  refine iq_bipush hS 333 J_MSquareRows_init_d331 (v := 24) (by decide +kernel) rfl ?_
  refine iq_iastore hS 334 J_MSquareRows_init_d333 ⟨by decide, rfl, by decide +kernel, by decide +kernel⟩ rfl ?_
  change ia _ _ _ _ (_, _, _, mm_441)
  refine iq_dup hS 335 J_MSquareRows_init_d334 rfl rfl ?_
  refine iq_bipush hS 337 J_MSquareRows_init_d335 (v := 55) (by decide +kernel) rfl ?_
  refine iq_bipush hS 339 J_MSquareRows_init_d337 (v := 28) (by decide +kernel) rfl ?_
  refine iq_iastore hS 340 J_MSquareRows_init_d339 ⟨by decide, rfl, by decide +kernel, by decide +kernel⟩ rfl ?_
  change ia _ _ _ _ (_, _, _, mm_442)
  refine iq_dup hS 341 J_MSquareRows_init_d340 rfl rfl ?_
  refine iq_bipush hS 343 J_MSquareRows_init_d341 (v := 56) (by decide +kernel) rfl ?_
  refine iq_bipush hS 345 J_MSquareRows_init_d343 (v := 28) (by decide +kernel) rfl ?_
  refine iq_iastore hS 346 J_MSquareRows_init_d345 ⟨by decide, rfl, by decide +kernel, by decide +kernel⟩ rfl ?_
  change ia _ _ _ _ (_, _, _, mm_443)
  refine iq_dup hS 347 J_MSquareRows_init_d346 rfl rfl ?_
  refine iq_bipush hS 349 J_MSquareRows_init_d347 (v := 57) (by decide +kernel) rfl ?_
  refine iq_bipush hS 351 J_MSquareRows_init_d349 (v := 26) (by decide +kernel) rfl ?_
  refine iq_iastore hS 352 J_MSquareRows_init_d351 ⟨by decide, rfl, by decide +kernel, by decide +kernel⟩ rfl ?_
  change ia _ _ _ _ (_, _, _, mm_444)
  refine iq_dup hS 353 J_MSquareRows_init_d352 rfl rfl ?_
  refine iq_bipush hS 355 J_MSquareRows_init_d353 (v := 58) (by decide +kernel) rfl ?_
  refine iq_bipush hS 357 J_MSquareRows_init_d355 (v := 26) (by decide +kernel) rfl ?_
  refine iq_iastore hS 358 J_MSquareRows_init_d357 ⟨by decide, rfl, by decide +kernel, by decide +kernel⟩ rfl ?_
  change ia _ _ _ _ (_, _, _, mm_445)
  refine iq_dup hS 359 J_MSquareRows_init_d358 rfl rfl ?_
  refine iq_bipush hS 361 J_MSquareRows_init_d359 (v := 59) (by decide +kernel) rfl ?_
  refine iq_bipush hS 363 J_MSquareRows_init_d361 (v := 26) (by decide +kernel) rfl ?_
  refine iq_iastore hS 364 J_MSquareRows_init_d363 ⟨by decide, rfl, by decide +kernel, by decide +kernel⟩ rfl ?_
  change ia _ _ _ _ (_, _, _, mm_446)
  refine iq_dup hS 365 J_MSquareRows_init_d364 rfl rfl ?_
  refine iq_bipush hS 367 J_MSquareRows_init_d365 (v := 60) (by decide +kernel) rfl ?_
  refine iq_bipush hS 369 J_MSquareRows_init_d367 (v := 26) (by decide +kernel) rfl ?_
  refine iq_iastore hS 370 J_MSquareRows_init_d369 ⟨by decide, rfl, by decide +kernel, by decide +kernel⟩ rfl ?_
  change ia _ _ _ _ (_, _, _, mm_447)
  refine iq_dup hS 371 J_MSquareRows_init_d370 rfl rfl ?_
  refine iq_bipush hS 373 J_MSquareRows_init_d371 (v := 61) (by decide +kernel) rfl ?_
  refine iq_bipush hS 375 J_MSquareRows_init_d373 (v := 28) (by decide +kernel) rfl ?_
  refine iq_iastore hS 376 J_MSquareRows_init_d375 ⟨by decide, rfl, by decide +kernel, by decide +kernel⟩ rfl ?_
  change ia _ _ _ _ (_, _, _, mm_448)
  refine iq_dup hS 377 J_MSquareRows_init_d376 rfl rfl ?_
  refine iq_bipush hS 379 J_MSquareRows_init_d377 (v := 62) (by decide +kernel) rfl ?_
  refine iq_bipush hS 381 J_MSquareRows_init_d379 (v := 28) (by decide +kernel) rfl ?_
  refine iq_iastore hS 382 J_MSquareRows_init_d381 ⟨by decide, rfl, by decide +kernel, by decide +kernel⟩ rfl ?_
  change ia _ _ _ _ (_, _, _, mm_449)
  refine iq_dup hS 383 J_MSquareRows_init_d382 rfl rfl ?_
  refine iq_bipush hS 385 J_MSquareRows_init_d383 (v := 63) (by decide +kernel) rfl ?_
  refine iq_bipush hS 387 J_MSquareRows_init_d385 (v := 28) (by decide +kernel) rfl ?_
  refine iq_iastore hS 388 J_MSquareRows_init_d387 ⟨by decide, rfl, by decide +kernel, by decide +kernel⟩ rfl ?_
  change ia _ _ _ _ (_, _, _, mm_450)
  refine iq_dup hS 389 J_MSquareRows_init_d388 rfl rfl ?_
  refine iq_bipush hS 391 J_MSquareRows_init_d389 (v := 64) (by decide +kernel) rfl ?_
  refine iq_bipush hS 393 J_MSquareRows_init_d391 (v := 28) (by decide +kernel) rfl ?_
  refine iq_iastore hS 394 J_MSquareRows_init_d393 ⟨by decide, rfl, by decide +kernel, by decide +kernel⟩ rfl ?_
  change ia _ _ _ _ (_, _, _, mm_451)
  refine iq_dup hS 395 J_MSquareRows_init_d394 rfl rfl ?_
  refine iq_bipush hS 397 J_MSquareRows_init_d395 (v := 65) (by decide +kernel) rfl ?_
  refine iq_bipush hS 399 J_MSquareRows_init_d397 (v := 28) (by decide +kernel) rfl ?_
  refine iq_iastore hS 400 J_MSquareRows_init_d399 ⟨by decide, rfl, by decide +kernel, by decide +kernel⟩ rfl ?_
  change ia _ _ _ _ (_, _, _, mm_452)
  refine iq_dup hS 401 J_MSquareRows_init_d400 rfl rfl ?_
  refine iq_bipush hS 403 J_MSquareRows_init_d401 (v := 66) (by decide +kernel) rfl ?_
  refine iq_bipush hS 405 J_MSquareRows_init_d403 (v := 28) (by decide +kernel) rfl ?_
  refine iq_iastore hS 406 J_MSquareRows_init_d405 ⟨by decide, rfl, by decide +kernel, by decide +kernel⟩ rfl ?_
  change ia _ _ _ _ (_, _, _, mm_453)
  refine iq_dup hS 407 J_MSquareRows_init_d406 rfl rfl ?_
  refine iq_bipush hS 409 J_MSquareRows_init_d407 (v := 67) (by decide +kernel) rfl ?_
  refine iq_bipush hS 411 J_MSquareRows_init_d409 (v := 28) (by decide +kernel) rfl ?_
  refine iq_iastore hS 412 J_MSquareRows_init_d411 ⟨by decide, rfl, by decide +kernel, by decide +kernel⟩ rfl ?_
  change ia _ _ _ _ (_, _, _, mm_454)
  refine iq_dup hS 413 J_MSquareRows_init_d412 rfl rfl ?_
  refine iq_bipush hS 415 J_MSquareRows_init_d413 (v := 68) (by decide +kernel) rfl ?_
  refine iq_bipush hS 417 J_MSquareRows_init_d415 (v := 28) (by decide +kernel) rfl ?_
  refine iq_iastore hS 418 J_MSquareRows_init_d417 ⟨by decide, rfl, by decide +kernel, by decide +kernel⟩ rfl ?_
  change ia _ _ _ _ (_, _, _, mm_455)
  refine iq_dup hS 419 J_MSquareRows_init_d418 rfl rfl ?_
  refine iq_bipush hS 421 J_MSquareRows_init_d419 (v := 69) (by decide +kernel) rfl ?_
  refine iq_bipush hS 423 J_MSquareRows_init_d421 (v := 28) (by decide +kernel) rfl ?_
  refine iq_iastore hS 424 J_MSquareRows_init_d423 ⟨by decide, rfl, by decide +kernel, by decide +kernel⟩ rfl ?_
  change ia _ _ _ _ (_, _, _, mm_456)
  refine iq_dup hS 425 J_MSquareRows_init_d424 rfl rfl ?_
  refine iq_bipush hS 427 J_MSquareRows_init_d425 (v := 70) (by decide +kernel) rfl ?_
  refine iq_bipush hS 429 J_MSquareRows_init_d427 (v := 28) (by decide +kernel) rfl ?_
  refine iq_iastore hS 430 J_MSquareRows_init_d429 ⟨by decide, rfl, by decide +kernel, by decide +kernel⟩ rfl ?_
  change ia _ _ _ _ (_, _, _, mm_457)
  refine iq_dup hS 431 J_MSquareRows_init_d430 rfl rfl ?_
  refine iq_bipush hS 433 J_MSquareRows_init_d431 (v := 71) (by decide +kernel) rfl ?_
  refine iq_bipush hS 435 J_MSquareRows_init_d433 (v := 28) (by decide +kernel) rfl ?_
  refine iq_iastore hS 436 J_MSquareRows_init_d435 ⟨by decide, rfl, by decide +kernel, by decide +kernel⟩ rfl ?_
  change ia _ _ _ _ (_, _, _, mm_458)
  refine iq_dup hS 437 J_MSquareRows_init_d436 rfl rfl ?_
  refine iq_bipush hS 439 J_MSquareRows_init_d437 (v := 72) (by decide +kernel) rfl ?_
  refine iq_bipush hS 441 J_MSquareRows_init_d439 (v := 28) (by decide +kernel) rfl ?_
  refine iq_iastore hS 442 J_MSquareRows_init_d441 ⟨by decide, rfl, by decide +kernel, by decide +kernel⟩ rfl ?_
  change ia _ _ _ _ (_, _, _, mm_459)
  refine iq_dup hS 443 J_MSquareRows_init_d442 rfl rfl ?_
  refine iq_bipush hS 445 J_MSquareRows_init_d443 (v := 73) (by decide +kernel) rfl ?_
  refine iq_bipush hS 447 J_MSquareRows_init_d445 (v := 28) (by decide +kernel) rfl ?_
  refine iq_iastore hS 448 J_MSquareRows_init_d447 ⟨by decide, rfl, by decide +kernel, by decide +kernel⟩ rfl ?_
  change ia _ _ _ _ (_, _, _, mm_460)
  refine iq_dup hS 449 J_MSquareRows_init_d448 rfl rfl ?_
  refine iq_bipush hS 451 J_MSquareRows_init_d449 (v := 74) (by decide +kernel) rfl ?_
  refine iq_bipush hS 453 J_MSquareRows_init_d451 (v := 28) (by decide +kernel) rfl ?_
  refine iq_iastore hS 454 J_MSquareRows_init_d453 ⟨by decide, rfl, by decide +kernel, by decide +kernel⟩ rfl ?_
  change ia _ _ _ _ (_, _, _, mm_461)
  refine iq_dup hS 455 J_MSquareRows_init_d454 rfl rfl ?_
  refine iq_bipush hS 457 J_MSquareRows_init_d455 (v := 75) (by decide +kernel) rfl ?_
  refine iq_bipush hS 459 J_MSquareRows_init_d457 (v := 28) (by decide +kernel) rfl ?_
  refine iq_iastore hS 460 J_MSquareRows_init_d459 ⟨by decide, rfl, by decide +kernel, by decide +kernel⟩ rfl ?_
  change ia _ _ _ _ (_, _, _, mm_462)
  refine iq_dup hS 461 J_MSquareRows_init_d460 rfl rfl ?_
  refine iq_bipush hS 463 J_MSquareRows_init_d461 (v := 76) (by decide +kernel) rfl ?_
  refine iq_bipush hS 465 J_MSquareRows_init_d463 (v := 28) (by decide +kernel) rfl ?_
  refine iq_iastore hS 466 J_MSquareRows_init_d465 ⟨by decide, rfl, by decide +kernel, by decide +kernel⟩ rfl ?_
  change ia _ _ _ _ (_, _, _, mm_463)
  refine iq_dup hS 467 J_MSquareRows_init_d466 rfl rfl ?_
  refine iq_bipush hS 469 J_MSquareRows_init_d467 (v := 77) (by decide +kernel) rfl ?_
  refine iq_bipush hS 471 J_MSquareRows_init_d469 (v := 28) (by decide +kernel) rfl ?_
  refine iq_iastore hS 472 J_MSquareRows_init_d471 ⟨by decide, rfl, by decide +kernel, by decide +kernel⟩ rfl ?_
  change ia _ _ _ _ (_, _, _, mm_464)
  refine iq_dup hS 473 J_MSquareRows_init_d472 rfl rfl ?_
  refine iq_bipush hS 475 J_MSquareRows_init_d473 (v := 78) (by decide +kernel) rfl ?_
  refine iq_bipush hS 477 J_MSquareRows_init_d475 (v := 28) (by decide +kernel) rfl ?_
  refine iq_iastore hS 478 J_MSquareRows_init_d477 ⟨by decide, rfl, by decide +kernel, by decide +kernel⟩ rfl ?_
  change ia _ _ _ _ (_, _, _, mm_465)
  refine iq_dup hS 479 J_MSquareRows_init_d478 rfl rfl ?_
  refine iq_bipush hS 481 J_MSquareRows_init_d479 (v := 79) (by decide +kernel) rfl ?_
  refine iq_bipush hS 483 J_MSquareRows_init_d481 (v := 28) (by decide +kernel) rfl ?_
  refine iq_iastore hS 484 J_MSquareRows_init_d483 ⟨by decide, rfl, by decide +kernel, by decide +kernel⟩ rfl ?_
  change ia _ _ _ _ (_, _, _, mm_466)
  refine iq_dup hS 485 J_MSquareRows_init_d484 rfl rfl ?_
  refine iq_bipush hS 487 J_MSquareRows_init_d485 (v := 80) (by decide +kernel) rfl ?_
  refine iq_bipush hS 489 J_MSquareRows_init_d487 (v := 13) (by decide +kernel) rfl ?_
  refine iq_iastore hS 490 J_MSquareRows_init_d489 ⟨by decide, rfl, by decide +kernel, by decide +kernel⟩ rfl ?_
  change ia _ _ _ _ (_, _, _, mm_467)
  refine iq_dup hS 491 J_MSquareRows_init_d490 rfl rfl ?_
  refine iq_bipush hS 493 J_MSquareRows_init_d491 (v := 81) (by decide +kernel) rfl ?_
  refine iq_bipush hS 495 J_MSquareRows_init_d493 (v := 22) (by decide +kernel) rfl ?_
  refine iq_iastore hS 496 J_MSquareRows_init_d495 ⟨by decide, rfl, by decide +kernel, by decide +kernel⟩ rfl ?_
  change ia _ _ _ _ (_, _, _, mm_468)
  refine iq_dup hS 497 J_MSquareRows_init_d496 rfl rfl ?_
  refine iq_bipush hS 499 J_MSquareRows_init_d497 (v := 82) (by decide +kernel) rfl ?_
  refine iq_bipush hS 501 J_MSquareRows_init_d499 (v := 18) (by decide +kernel) rfl ?_
  refine iq_iastore hS 502 J_MSquareRows_init_d501 ⟨by decide, rfl, by decide +kernel, by decide +kernel⟩ rfl ?_
  change ia _ _ _ _ (_, _, _, mm_469)
  refine iq_dup hS 503 J_MSquareRows_init_d502 rfl rfl ?_
  refine iq_bipush hS 505 J_MSquareRows_init_d503 (v := 83) (by decide +kernel) rfl ?_
  refine iq_bipush hS 507 J_MSquareRows_init_d505 (v := 26) (by decide +kernel) rfl ?_
  refine iq_iastore hS 508 J_MSquareRows_init_d507 ⟨by decide, rfl, by decide +kernel, by decide +kernel⟩ rfl ?_
  change ia _ _ _ _ (_, _, _, mm_470)
  refine iq_dup hS 509 J_MSquareRows_init_d508 rfl rfl ?_
  refine iq_bipush hS 511 J_MSquareRows_init_d509 (v := 84) (by decide +kernel) rfl ?_
  refine iq_bipush hS 513 J_MSquareRows_init_d511 (v := 18) (by decide +kernel) rfl ?_
  refine iq_iastore hS 514 J_MSquareRows_init_d513 ⟨by decide, rfl, by decide +kernel, by decide +kernel⟩ rfl ?_
  change ia _ _ _ _ (_, _, _, mm_471)
  refine iq_dup hS 515 J_MSquareRows_init_d514 rfl rfl ?_
  refine iq_bipush hS 517 J_MSquareRows_init_d515 (v := 85) (by decide +kernel) rfl ?_
  refine iq_bipush hS 519 J_MSquareRows_init_d517 (v := 24) (by decide +kernel) rfl ?_
  refine iq_iastore hS 520 J_MSquareRows_init_d519 ⟨by decide, rfl, by decide +kernel, by decide +kernel⟩ rfl ?_
  change ia _ _ _ _ (_, _, _, mm_472)
  refine iq_dup hS 521 J_MSquareRows_init_d520 rfl rfl ?_
  refine iq_bipush hS 523 J_MSquareRows_init_d521 (v := 86) (by decide +kernel) rfl ?_
  refine iq_bipush hS 525 J_MSquareRows_init_d523 (v := 18) (by decide +kernel) rfl ?_
  refine iq_iastore hS 526 J_MSquareRows_init_d525 ⟨by decide, rfl, by decide +kernel, by decide +kernel⟩ rfl ?_
  change ia _ _ _ _ (_, _, _, mm_473)
  refine iq_dup hS 527 J_MSquareRows_init_d526 rfl rfl ?_
  refine iq_bipush hS 529 J_MSquareRows_init_d527 (v := 87) (by decide +kernel) rfl ?_
  refine iq_bipush hS 531 J_MSquareRows_init_d529 (v := 22) (by decide +kernel) rfl ?_
  refine iq_iastore hS 532 J_MSquareRows_init_d531 ⟨by decide, rfl, by decide +kernel, by decide +kernel⟩ rfl ?_
  change ia _ _ _ _ (_, _, _, mm_474)
  refine iq_dup hS 533 J_MSquareRows_init_d532 rfl rfl ?_
  refine iq_bipush hS 535 J_MSquareRows_init_d533 (v := 88) (by decide +kernel) rfl ?_
  refine iq_bipush hS 537 J_MSquareRows_init_d535 (v := 20) (by decide +kernel) rfl ?_
  refine iq_iastore hS 538 J_MSquareRows_init_d537 ⟨by decide, rfl, by decide +kernel, by decide +kernel⟩ rfl ?_
  change ia _ _ _ _ (_, _, _, mm_475)
  refine iq_dup hS 539 J_MSquareRows_init_d538 rfl rfl ?_
  refine iq_bipush hS 541 J_MSquareRows_init_d539 (v := 89) (by decide +kernel) rfl ?_
  refine iq_bipush hS 543 J_MSquareRows_init_d541 (v := 24) (by decide +kernel) rfl ?_
  refine iq_iastore hS 544 J_MSquareRows_init_d543 ⟨by decide, rfl, by decide +kernel, by decide +kernel⟩ rfl ?_
  change ia _ _ _ _ (_, _, _, mm_476)
  refine iq_dup hS 545 J_MSquareRows_init_d544 rfl rfl ?_
  refine iq_bipush hS 547 J_MSquareRows_init_d545 (v := 90) (by decide +kernel) rfl ?_
  refine iq_bipush hS 549 J_MSquareRows_init_d547 (v := 28) (by decide +kernel) rfl ?_
  refine iq_iastore hS 550 J_MSquareRows_init_d549 ⟨by decide, rfl, by decide +kernel, by decide +kernel⟩ rfl ?_
  change ia _ _ _ _ (_, _, _, mm_477)
  refine iq_dup hS 551 J_MSquareRows_init_d550 rfl rfl ?_
  refine iq_bipush hS 553 J_MSquareRows_init_d551 (v := 91) (by decide +kernel) rfl ?_
  refine iq_bipush hS 555 J_MSquareRows_init_d553 (v := 26) (by decide +kernel) rfl ?_
  refine iq_iastore hS 556 J_MSquareRows_init_d555 ⟨by decide, rfl, by decide +kernel, by decide +kernel⟩ rfl ?_
  change ia _ _ _ _ (_, _, _, mm_478)
  refine iq_dup hS 557 J_MSquareRows_init_d556 rfl rfl ?_
  refine iq_bipush hS 559 J_MSquareRows_init_d557 (v := 92) (by decide +kernel) rfl ?_
  refine iq_bipush hS 561 J_MSquareRows_init_d559 (v := 24) (by decide +kernel) rfl ?_
  refine iq_iastore hS 562 J_MSquareRows_init_d561 ⟨by decide, rfl, by decide +kernel, by decide +kernel⟩ rfl ?_
  change ia _ _ _ _ (_, _, _, mm_479)
  refine iq_dup hS 563 J_MSquareRows_init_d562 rfl rfl ?_
  refine iq_bipush hS 565 J_MSquareRows_init_d563 (v := 93) (by decide +kernel) rfl ?_
  refine iq_bipush hS 567 J_MSquareRows_init_d565 (v := 20) (by decide +kernel) rfl ?_
  refine iq_iastore hS 568 J_MSquareRows_init_d567 ⟨by decide, rfl, by decide +kernel, by decide +kernel⟩ rfl ?_
  change ia _ _ _ _ (_, _, _, mm_480)
  refine iq_dup hS 569 J_MSquareRows_init_d568 rfl rfl ?_
  refine iq_bipush hS 571 J_MSquareRows_init_d569 (v := 94) (by decide +kernel) rfl ?_
  refine iq_bipush hS 573 J_MSquareRows_init_d571 (v := 30) (by decide +kernel) rfl ?_
  refine iq_iastore hS 574 J_MSquareRows_init_d573 ⟨by decide, rfl, by decide +kernel, by decide +kernel⟩ rfl ?_
  change ia _ _ _ _ (_, _, _, mm_481)
  refine iq_dup hS 575 J_MSquareRows_init_d574 rfl rfl ?_
  refine iq_bipush hS 577 J_MSquareRows_init_d575 (v := 95) (by decide +kernel) rfl ?_
  refine iq_bipush hS 579 J_MSquareRows_init_d577 (v := 24) (by decide +kernel) rfl ?_
  refine iq_iastore hS 580 J_MSquareRows_init_d579 ⟨by decide, rfl, by decide +kernel, by decide +kernel⟩ rfl ?_
  change ia _ _ _ _ (_, _, _, mm_482)
  refine iq_dup hS 581 J_MSquareRows_init_d580 rfl rfl ?_
  refine iq_bipush hS 583 J_MSquareRows_init_d581 (v := 96) (by decide +kernel) rfl ?_
  refine iq_bipush hS 585 J_MSquareRows_init_d583 (v := 28) (by decide +kernel) rfl ?_
  refine iq_iastore hS 586 J_MSquareRows_init_d585 ⟨by decide, rfl, by decide +kernel, by decide +kernel⟩ rfl ?_
  change ia _ _ _ _ (_, _, _, mm_483)
  refine iq_dup hS 587 J_MSquareRows_init_d586 rfl rfl ?_
  refine iq_bipush hS 589 J_MSquareRows_init_d587 (v := 97) (by decide +kernel) rfl ?_
  refine iq_bipush hS 591 J_MSquareRows_init_d589 (v := 28) (by decide +kernel) rfl ?_
  refine iq_iastore hS 592 J_MSquareRows_init_d591 ⟨by decide, rfl, by decide +kernel, by decide +kernel⟩ rfl ?_
  change ia _ _ _ _ (_, _, _, mm_484)
  refine iq_dup hS 593 J_MSquareRows_init_d592 rfl rfl ?_
  refine iq_bipush hS 595 J_MSquareRows_init_d593 (v := 98) (by decide +kernel) rfl ?_
  refine iq_bipush hS 597 J_MSquareRows_init_d595 (v := 26) (by decide +kernel) rfl ?_
  refine iq_iastore hS 598 J_MSquareRows_init_d597 ⟨by decide, rfl, by decide +kernel, by decide +kernel⟩ rfl ?_
  change ia _ _ _ _ (_, _, _, mm_485)
  refine iq_dup hS 599 J_MSquareRows_init_d598 rfl rfl ?_
  refine iq_bipush hS 601 J_MSquareRows_init_d599 (v := 99) (by decide +kernel) rfl ?_
  refine iq_bipush hS 603 J_MSquareRows_init_d601 (v := 30) (by decide +kernel) rfl ?_
  refine iq_iastore hS 604 J_MSquareRows_init_d603 ⟨by decide, rfl, by decide +kernel, by decide +kernel⟩ rfl ?_
  change ia _ _ _ _ (_, _, _, mm_486)
  refine iq_dup hS 605 J_MSquareRows_init_d604 rfl rfl ?_
  refine iq_bipush hS 607 J_MSquareRows_init_d605 (v := 100) (by decide +kernel) rfl ?_
  refine iq_bipush hS 609 J_MSquareRows_init_d607 (v := 28) (by decide +kernel) rfl ?_
  refine iq_iastore hS 610 J_MSquareRows_init_d609 ⟨by decide, rfl, by decide +kernel, by decide +kernel⟩ rfl ?_
  change ia _ _ _ _ (_, _, _, mm_487)
  refine iq_dup hS 611 J_MSquareRows_init_d610 rfl rfl ?_
  refine iq_bipush hS 613 J_MSquareRows_init_d611 (v := 101) (by decide +kernel) rfl ?_
  refine iq_bipush hS 615 J_MSquareRows_init_d613 (v := 30) (by decide +kernel) rfl ?_
  refine iq_iastore hS 616 J_MSquareRows_init_d615 ⟨by decide, rfl, by decide +kernel, by decide +kernel⟩ rfl ?_
  change ia _ _ _ _ (_, _, _, mm_488)
  refine iq_dup hS 617 J_MSquareRows_init_d616 rfl rfl ?_
  refine iq_bipush hS 619 J_MSquareRows_init_d617 (v := 102) (by decide +kernel) rfl ?_
  refine iq_bipush hS 621 J_MSquareRows_init_d619 (v := 30) (by decide +kernel) rfl ?_
  refine iq_iastore hS 622 J_MSquareRows_init_d621 ⟨by decide, rfl, by decide +kernel, by decide +kernel⟩ rfl ?_
  change ia _ _ _ _ (_, _, _, mm_489)
  refine iq_dup hS 623 J_MSquareRows_init_d622 rfl rfl ?_
  refine iq_bipush hS 625 J_MSquareRows_init_d623 (v := 103) (by decide +kernel) rfl ?_
  refine iq_bipush hS 627 J_MSquareRows_init_d625 (v := 30) (by decide +kernel) rfl ?_
  refine iq_iastore hS 628 J_MSquareRows_init_d627 ⟨by decide, rfl, by decide +kernel, by decide +kernel⟩ rfl ?_
  change ia _ _ _ _ (_, _, _, mm_490)
  refine iq_dup hS 629 J_MSquareRows_init_d628 rfl rfl ?_
  refine iq_bipush hS 631 J_MSquareRows_init_d629 (v := 104) (by decide +kernel) rfl ?_
  refine iq_bipush hS 633 J_MSquareRows_init_d631 (v := 30) (by decide +kernel) rfl ?_
  refine iq_iastore hS 634 J_MSquareRows_init_d633 ⟨by decide, rfl, by decide +kernel, by decide +kernel⟩ rfl ?_
  change ia _ _ _ _ (_, _, _, mm_491)
  refine iq_dup hS 635 J_MSquareRows_init_d634 rfl rfl ?_
  refine iq_bipush hS 637 J_MSquareRows_init_d635 (v := 105) (by decide +kernel) rfl ?_
  refine iq_bipush hS 639 J_MSquareRows_init_d637 (v := 28) (by decide +kernel) rfl ?_
  refine iq_iastore hS 640 J_MSquareRows_init_d639 ⟨by decide, rfl, by decide +kernel, by decide +kernel⟩ rfl ?_
  change ia _ _ _ _ (_, _, _, mm_492)
  refine iq_dup hS 641 J_MSquareRows_init_d640 rfl rfl ?_
  refine iq_bipush hS 643 J_MSquareRows_init_d641 (v := 106) (by decide +kernel) rfl ?_
  refine iq_bipush hS 645 J_MSquareRows_init_d643 (v := 30) (by decide +kernel) rfl ?_
  refine iq_iastore hS 646 J_MSquareRows_init_d645 ⟨by decide, rfl, by decide +kernel, by decide +kernel⟩ rfl ?_
  change ia _ _ _ _ (_, _, _, mm_493)
  refine iq_dup hS 647 J_MSquareRows_init_d646 rfl rfl ?_
  refine iq_bipush hS 649 J_MSquareRows_init_d647 (v := 107) (by decide +kernel) rfl ?_
  refine iq_bipush hS 651 J_MSquareRows_init_d649 (v := 30) (by decide +kernel) rfl ?_
  refine iq_iastore hS 652 J_MSquareRows_init_d651 ⟨by decide, rfl, by decide +kernel, by decide +kernel⟩ rfl ?_
  change ia _ _ _ _ (_, _, _, mm_494)
  refine iq_dup hS 653 J_MSquareRows_init_d652 rfl rfl ?_
  refine iq_bipush hS 655 J_MSquareRows_init_d653 (v := 108) (by decide +kernel) rfl ?_
  refine iq_bipush hS 657 J_MSquareRows_init_d655 (v := 30) (by decide +kernel) rfl ?_
  refine iq_iastore hS 658 J_MSquareRows_init_d657 ⟨by decide, rfl, by decide +kernel, by decide +kernel⟩ rfl ?_
  change ia _ _ _ _ (_, _, _, mm_495)
  refine iq_dup hS 659 J_MSquareRows_init_d658 rfl rfl ?_
  refine iq_bipush hS 661 J_MSquareRows_init_d659 (v := 109) (by decide +kernel) rfl ?_
  refine iq_bipush hS 663 J_MSquareRows_init_d661 (v := 30) (by decide +kernel) rfl ?_
  refine iq_iastore hS 664 J_MSquareRows_init_d663 ⟨by decide, rfl, by decide +kernel, by decide +kernel⟩ rfl ?_
  change ia _ _ _ _ (_, _, _, mm_496)
  refine iq_dup hS 665 J_MSquareRows_init_d664 rfl rfl ?_
  refine iq_bipush hS 667 J_MSquareRows_init_d665 (v := 110) (by decide +kernel) rfl ?_
  refine iq_bipush hS 669 J_MSquareRows_init_d667 (v := 30) (by decide +kernel) rfl ?_
  refine iq_iastore hS 670 J_MSquareRows_init_d669 ⟨by decide, rfl, by decide +kernel, by decide +kernel⟩ rfl ?_
  change ia _ _ _ _ (_, _, _, mm_497)
  refine iq_dup hS 671 J_MSquareRows_init_d670 rfl rfl ?_
  refine iq_bipush hS 673 J_MSquareRows_init_d671 (v := 111) (by decide +kernel) rfl ?_
  refine iq_bipush hS 675 J_MSquareRows_init_d673 (v := 30) (by decide +kernel) rfl ?_
  refine iq_iastore hS 676 J_MSquareRows_init_d675 ⟨by decide, rfl, by decide +kernel, by decide +kernel⟩ rfl ?_
  change ia _ _ _ _ (_, _, _, mm_498)
  refine iq_dup hS 677 J_MSquareRows_init_d676 rfl rfl ?_
  refine iq_bipush hS 679 J_MSquareRows_init_d677 (v := 112) (by decide +kernel) rfl ?_
  refine iq_bipush hS 681 J_MSquareRows_init_d679 (v := 30) (by decide +kernel) rfl ?_
  refine iq_iastore hS 682 J_MSquareRows_init_d681 ⟨by decide, rfl, by decide +kernel, by decide +kernel⟩ rfl ?_
  change ia _ _ _ _ (_, _, _, mm_499)
  refine iq_dup hS 683 J_MSquareRows_init_d682 rfl rfl ?_
  refine iq_bipush hS 685 J_MSquareRows_init_d683 (v := 113) (by decide +kernel) rfl ?_
  refine iq_bipush hS 687 J_MSquareRows_init_d685 (v := 30) (by decide +kernel) rfl ?_
  refine iq_iastore hS 688 J_MSquareRows_init_d687 ⟨by decide, rfl, by decide +kernel, by decide +kernel⟩ rfl ?_
  change ia _ _ _ _ (_, _, _, mm_500)
  refine iq_dup hS 689 J_MSquareRows_init_d688 rfl rfl ?_
  refine iq_bipush hS 691 J_MSquareRows_init_d689 (v := 114) (by decide +kernel) rfl ?_
  refine iq_bipush hS 693 J_MSquareRows_init_d691 (v := 30) (by decide +kernel) rfl ?_
  refine iq_iastore hS 694 J_MSquareRows_init_d693 ⟨by decide, rfl, by decide +kernel, by decide +kernel⟩ rfl ?_
  change ia _ _ _ _ (_, _, _, mm_501)
  refine iq_dup hS 695 J_MSquareRows_init_d694 rfl rfl ?_
  refine iq_bipush hS 697 J_MSquareRows_init_d695 (v := 115) (by decide +kernel) rfl ?_
  refine iq_bipush hS 699 J_MSquareRows_init_d697 (v := 30) (by decide +kernel) rfl ?_
  refine iq_iastore hS 700 J_MSquareRows_init_d699 ⟨by decide, rfl, by decide +kernel, by decide +kernel⟩ rfl ?_
  change ia _ _ _ _ (_, _, _, mm_502)
  refine iq_dup hS 701 J_MSquareRows_init_d700 rfl rfl ?_
  refine iq_bipush hS 703 J_MSquareRows_init_d701 (v := 116) (by decide +kernel) rfl ?_
  refine iq_bipush hS 705 J_MSquareRows_init_d703 (v := 30) (by decide +kernel) rfl ?_
  refine iq_iastore hS 706 J_MSquareRows_init_d705 ⟨by decide, rfl, by decide +kernel, by decide +kernel⟩ rfl ?_
  change ia _ _ _ _ (_, _, _, mm_503)
  refine iq_dup hS 707 J_MSquareRows_init_d706 rfl rfl ?_
  refine iq_bipush hS 709 J_MSquareRows_init_d707 (v := 117) (by decide +kernel) rfl ?_
  refine iq_bipush hS 711 J_MSquareRows_init_d709 (v := 30) (by decide +kernel) rfl ?_
  refine iq_iastore hS 712 J_MSquareRows_init_d711 ⟨by decide, rfl, by decide +kernel, by decide +kernel⟩ rfl ?_
  change ia _ _ _ _ (_, _, _, mm_504)
  refine iq_dup hS 713 J_MSquareRows_init_d712 rfl rfl ?_
  refine iq_bipush hS 715 J_MSquareRows_init_d713 (v := 118) (by decide +kernel) rfl ?_
  refine iq_bipush hS 717 J_MSquareRows_init_d715 (v := 30) (by decide +kernel) rfl ?_
  refine iq_iastore hS 718 J_MSquareRows_init_d717 ⟨by decide, rfl, by decide +kernel, by decide +kernel⟩ rfl ?_
  change ia _ _ _ _ (_, _, _, mm_505)
  refine iq_dup hS 719 J_MSquareRows_init_d718 rfl rfl ?_
  refine iq_bipush hS 721 J_MSquareRows_init_d719 (v := 119) (by decide +kernel) rfl ?_
  refine iq_bipush hS 723 J_MSquareRows_init_d721 (v := 30) (by decide +kernel) rfl ?_
  refine iq_iastore hS 724 J_MSquareRows_init_d723 ⟨by decide, rfl, by decide +kernel, by decide +kernel⟩ rfl ?_
  change ia _ _ _ _ (_, _, _, mm_506)
  refine iq_dup hS 725 J_MSquareRows_init_d724 rfl rfl ?_
  refine iq_bipush hS 727 J_MSquareRows_init_d725 (v := 120) (by decide +kernel) rfl ?_
  refine iq_bipush hS 729 J_MSquareRows_init_d727 (v := 17) (by decide +kernel) rfl ?_
  refine iq_iastore hS 730 J_MSquareRows_init_d729 ⟨by decide, rfl, by decide +kernel, by decide +kernel⟩ rfl ?_
  change ia _ _ _ _ (_, _, _, mm_507)
  refine iq_dup hS 731 J_MSquareRows_init_d730 rfl rfl ?_
  refine iq_bipush hS 733 J_MSquareRows_init_d731 (v := 121) (by decide +kernel) rfl ?_
  refine iq_bipush hS 735 J_MSquareRows_init_d733 (v := 28) (by decide +kernel) rfl ?_
  refine iq_iastore hS 736 J_MSquareRows_init_d735 ⟨by decide, rfl, by decide +kernel, by decide +kernel⟩ rfl ?_
  change ia _ _ _ _ (_, _, _, mm_508)
  refine iq_dup hS 737 J_MSquareRows_init_d736 rfl rfl ?_
  refine iq_bipush hS 739 J_MSquareRows_init_d737 (v := 122) (by decide +kernel) rfl ?_
  refine iq_bipush hS 741 J_MSquareRows_init_d739 (v := 22) (by decide +kernel) rfl ?_
  refine iq_iastore hS 742 J_MSquareRows_init_d741 ⟨by decide, rfl, by decide +kernel, by decide +kernel⟩ rfl ?_
  change ia _ _ _ _ (_, _, _, mm_509)
  refine iq_dup hS 743 J_MSquareRows_init_d742 rfl rfl ?_
  refine iq_bipush hS 745 J_MSquareRows_init_d743 (v := 123) (by decide +kernel) rfl ?_
  refine iq_bipush hS 747 J_MSquareRows_init_d745 (v := 16) (by decide +kernel) rfl ?_
  refine iq_iastore hS 748 J_MSquareRows_init_d747 ⟨by decide, rfl, by decide +kernel, by decide +kernel⟩ rfl ?_
  change ia _ _ _ _ (_, _, _, mm_510)
  refine iq_dup hS 749 J_MSquareRows_init_d748 rfl rfl ?_
  refine iq_bipush hS 751 J_MSquareRows_init_d749 (v := 124) (by decide +kernel) rfl ?_
  refine iq_bipush hS 753 J_MSquareRows_init_d751 (v := 22) (by decide +kernel) rfl ?_
  refine iq_iastore hS 754 J_MSquareRows_init_d753 ⟨by decide, rfl, by decide +kernel, by decide +kernel⟩ rfl ?_
  change ia _ _ _ _ (_, _, _, mm_511)
  refine iq_dup hS 755 J_MSquareRows_init_d754 rfl rfl ?_
  refine iq_bipush hS 757 J_MSquareRows_init_d755 (v := 125) (by decide +kernel) rfl ?_
  refine iq_bipush hS 759 J_MSquareRows_init_d757 (v := 28) (by decide +kernel) rfl ?_
  refine iq_iastore hS 760 J_MSquareRows_init_d759 ⟨by decide, rfl, by decide +kernel, by decide +kernel⟩ rfl ?_
  change ia _ _ _ _ (_, _, _, mm_512)
  refine iq_dup hS 761 J_MSquareRows_init_d760 rfl rfl ?_
  refine iq_bipush hS 763 J_MSquareRows_init_d761 (v := 126) (by decide +kernel) rfl ?_
  refine iq_bipush hS 765 J_MSquareRows_init_d763 (v := 26) (by decide +kernel) rfl ?_
  refine iq_iastore hS 766 J_MSquareRows_init_d765 ⟨by decide, rfl, by decide +kernel, by decide +kernel⟩ rfl ?_
  change ia _ _ _ _ (_, _, _, mm_513)
  refine iq_dup hS 767 J_MSquareRows_init_d766 rfl rfl ?_
  refine iq_bipush hS 769 J_MSquareRows_init_d767 (v := 127) (by decide +kernel) rfl ?_
  refine iq_bipush hS 771 J_MSquareRows_init_d769 (v := 26) (by decide +kernel) rfl ?_
  refine iq_iastore hS 772 J_MSquareRows_init_d771 ⟨by decide, rfl, by decide +kernel, by decide +kernel⟩ rfl ?_
  change ia _ _ _ _ (_, _, _, mm_514)
  refine iq_dup hS 773 J_MSquareRows_init_d772 rfl rfl ?_
  refine iq_sipush hS 776 J_MSquareRows_init_d773 (v := 128) (by decide +kernel) rfl ?_
  refine iq_bipush hS 778 J_MSquareRows_init_d776 (v := 24) (by decide +kernel) rfl ?_
  refine iq_iastore hS 779 J_MSquareRows_init_d778 ⟨by decide, rfl, by decide +kernel, by decide +kernel⟩ rfl ?_
  change ia _ _ _ _ (_, _, _, mm_515)
  refine iq_dup hS 780 J_MSquareRows_init_d779 rfl rfl ?_
  refine iq_sipush hS 783 J_MSquareRows_init_d780 (v := 129) (by decide +kernel) rfl ?_
  refine iq_bipush hS 785 J_MSquareRows_init_d783 (v := 28) (by decide +kernel) rfl ?_
  refine iq_iastore hS 786 J_MSquareRows_init_d785 ⟨by decide, rfl, by decide +kernel, by decide +kernel⟩ rfl ?_
  change ia _ _ _ _ (_, _, _, mm_516)
  refine iq_dup hS 787 J_MSquareRows_init_d786 rfl rfl ?_
  refine iq_sipush hS 790 J_MSquareRows_init_d787 (v := 130) (by decide +kernel) rfl ?_
  refine iq_bipush hS 792 J_MSquareRows_init_d790 (v := 24) (by decide +kernel) rfl ?_
  refine iq_iastore hS 793 J_MSquareRows_init_d792 ⟨by decide, rfl, by decide +kernel, by decide +kernel⟩ rfl ?_
  change ia _ _ _ _ (_, _, _, mm_517)
  refine iq_dup hS 794 J_MSquareRows_init_d793 rfl rfl ?_
  refine iq_sipush hS 797 J_MSquareRows_init_d794 (v := 131) (by decide +kernel) rfl ?_
  refine iq_bipush hS 799 J_MSquareRows_init_d797 (v := 28) (by decide +kernel) rfl ?_
  refine iq_iastore hS 800 J_MSquareRows_init_d799 ⟨by decide, rfl, by decide +kernel, by decide +kernel⟩ rfl ?_
  change ia _ _ _ _ (_, _, _, mm_518)
  refine iq_dup hS 801 J_MSquareRows_init_d800 rfl rfl ?_
  refine iq_sipush hS 804 J_MSquareRows_init_d801 (v := 132) (by decide +kernel) rfl ?_
  refine iq_bipush hS 806 J_MSquareRows_init_d804 (v := 22) (by decide +kernel) rfl ?_
  refine iq_iastore hS 807 J_MSquareRows_init_d806 ⟨by decide, rfl, by decide +kernel, by decide +kernel⟩ rfl ?_
  change ia _ _ _ _ (_, _, _, mm_519)
  refine iq_dup hS 808 J_MSquareRows_init_d807 rfl rfl ?_
  refine iq_sipush hS 811 J_MSquareRows_init_d808 (v := 133) (by decide +kernel) rfl ?_
  refine iq_bipush hS 813 J_MSquareRows_init_d811 (v := 24) (by decide +kernel) rfl ?_
  refine iq_iastore hS 814 J_MSquareRows_init_d813 ⟨by decide, rfl, by decide +kernel, by decide +kernel⟩ rfl ?_
  change ia _ _ _ _ (_, _, _, mm_520)
  refine iq_dup hS 815 J_MSquareRows_init_d814 rfl rfl ?_
  refine iq_sipush hS 818 J_MSquareRows_init_d815 (v := 134) (by decide +kernel) rfl ?_
  refine iq_bipush hS 820 J_MSquareRows_init_d818 (v := 24) (by decide +kernel) rfl ?_
  refine iq_iastore hS 821 J_MSquareRows_init_d820 ⟨by decide, rfl, by decide +kernel, by decide +kernel⟩ rfl ?_
  change ia _ _ _ _ (_, _, _, mm_521)
  refine iq_dup hS 822 J_MSquareRows_init_d821 rfl rfl ?_
  refine iq_sipush hS 825 J_MSquareRows_init_d822 (v := 135) (by decide +kernel) rfl ?_
  refine iq_bipush hS 827 J_MSquareRows_init_d825 (v := 30) (by decide +kernel) rfl ?_
  refine iq_iastore hS 828 J_MSquareRows_init_d827 ⟨by decide, rfl, by decide +kernel, by decide +kernel⟩ rfl ?_
  change ia _ _ _ _ (_, _, _, mm_522)
  refine iq_dup hS 829 J_MSquareRows_init_d828 rfl rfl ?_
  refine iq_sipush hS 832 J_MSquareRows_init_d829 (v := 136) (by decide +kernel) rfl ?_
  refine iq_bipush hS 834 J_MSquareRows_init_d832 (v := 28) (by decide +kernel) rfl ?_
  refine iq_iastore hS 835 J_MSquareRows_init_d834 ⟨by decide, rfl, by decide +kernel, by decide +kernel⟩ rfl ?_
  change ia _ _ _ _ (_, _, _, mm_523)
  refine iq_dup hS 836 J_MSquareRows_init_d835 rfl rfl ?_
  refine iq_sipush hS 839 J_MSquareRows_init_d836 (v := 137) (by decide +kernel) rfl ?_
  refine iq_bipush hS 841 J_MSquareRows_init_d839 (v := 28) (by decide +kernel) rfl ?_
  refine iq_iastore hS 842 J_MSquareRows_init_d841 ⟨by decide, rfl, by decide +kernel, by decide +kernel⟩ rfl ?_
  change ia _ _ _ _ (_, _, _, mm_524)
  refine iq_dup hS 843 J_MSquareRows_init_d842 rfl rfl ?_
  refine iq_sipush hS 846 J_MSquareRows_init_d843 (v := 138) (by decide +kernel) rfl ?_
  refine iq_bipush hS 848 J_MSquareRows_init_d846 (v := 26) (by decide +kernel) rfl ?_
  refine iq_iastore hS 849 J_MSquareRows_init_d848 ⟨by decide, rfl, by decide +kernel, by decide +kernel⟩ rfl ?_
  change ia _ _ _ _ (_, _, _, mm_525)
  refine iq_dup hS 850 J_MSquareRows_init_d849 rfl rfl ?_
  refine iq_sipush hS 853 J_MSquareRows_init_d850 (v := 139) (by decide +kernel) rfl ?_
  refine iq_bipush hS 855 J_MSquareRows_init_d853 (v := 28) (by decide +kernel) rfl ?_
  refine iq_iastore hS 856 J_MSquareRows_init_d855 ⟨by decide, rfl, by decide +kernel, by decide +kernel⟩ rfl ?_
  change ia _ _ _ _ (_, _, _, mm_526)
  refine iq_dup hS 857 J_MSquareRows_init_d856 rfl rfl ?_
  refine iq_sipush hS 860 J_MSquareRows_init_d857 (v := 140) (by decide +kernel) rfl ?_
  refine iq_bipush hS 862 J_MSquareRows_init_d860 (v := 30) (by decide +kernel) rfl ?_
  refine iq_iastore hS 863 J_MSquareRows_init_d862 ⟨by decide, rfl, by decide +kernel, by decide +kernel⟩ rfl ?_
  change ia _ _ _ _ (_, _, _, mm_527)
  refine iq_dup hS 864 J_MSquareRows_init_d863 rfl rfl ?_
  refine iq_sipush hS 867 J_MSquareRows_init_d864 (v := 141) (by decide +kernel) rfl ?_
  refine iq_bipush hS 869 J_MSquareRows_init_d867 (v := 24) (by decide +kernel) rfl ?_
  refine iq_iastore hS 870 J_MSquareRows_init_d869 ⟨by decide, rfl, by decide +kernel, by decide +kernel⟩ rfl ?_
  change ia _ _ _ _ (_, _, _, mm_528)
  refine iq_dup hS 871 J_MSquareRows_init_d870 rfl rfl ?_
  refine iq_sipush hS 874 J_MSquareRows_init_d871 (v := 142) (by decide +kernel) rfl ?_
  refine iq_bipush hS 876 J_MSquareRows_init_d874 (v := 30) (by decide +kernel) rfl ?_
  refine iq_iastore hS 877 J_MSquareRows_init_d876 ⟨by decide, rfl, by decide +kernel, by decide +kernel⟩ rfl ?_
  change ia _ _ _ _ (_, _, _, mm_529)
  refine iq_dup hS 878 J_MSquareRows_init_d877 rfl rfl ?_
  refine iq_sipush hS 881 J_MSquareRows_init_d878 (v := 143) (by decide +kernel) rfl ?_
  refine iq_bipush hS 883 J_MSquareRows_init_d881 (v := 30) (by decide +kernel) rfl ?_
  refine iq_iastore hS 884 J_MSquareRows_init_d883 ⟨by decide, rfl, by decide +kernel, by decide +kernel⟩ rfl ?_
  change ia _ _ _ _ (_, _, _, mm_530)
  refine iq_dup hS 885 J_MSquareRows_init_d884 rfl rfl ?_
  refine iq_sipush hS 888 J_MSquareRows_init_d885 (v := 144) (by decide +kernel) rfl ?_
  refine iq_bipush hS 890 J_MSquareRows_init_d888 (v := 30) (by decide +kernel) rfl ?_
  refine iq_iastore hS 891 J_MSquareRows_init_d890 ⟨by decide, rfl, by decide +kernel, by decide +kernel⟩ rfl ?_
  change ia _ _ _ _ (_, _, _, mm_531)
  refine iq_dup hS 892 J_MSquareRows_init_d891 rfl rfl ?_
  refine iq_sipush hS 895 J_MSquareRows_init_d892 (v := 145) (by decide +kernel) rfl ?_
  refine iq_bipush hS 897 J_MSquareRows_init_d895 (v := 30) (by decide +kernel) rfl ?_
  refine iq_iastore hS 898 J_MSquareRows_init_d897 ⟨by decide, rfl, by decide +kernel, by decide +kernel⟩ rfl ?_
  change ia _ _ _ _ (_, _, _, mm_532)
  refine iq_dup hS 899 J_MSquareRows_init_d898 rfl rfl ?_
  refine iq_sipush hS 902 J_MSquareRows_init_d899 (v := 146) (by decide +kernel) rfl ?_
  refine iq_bipush hS 904 J_MSquareRows_init_d902 (v := 30) (by decide +kernel) rfl ?_
  refine iq_iastore hS 905 J_MSquareRows_init_d904 ⟨by decide, rfl, by decide +kernel, by decide +kernel⟩ rfl ?_
  change ia _ _ _ _ (_, _, _, mm_533)
  refine iq_dup hS 906 J_MSquareRows_init_d905 rfl rfl ?_
  refine iq_sipush hS 909 J_MSquareRows_init_d906 (v := 147) (by decide +kernel) rfl ?_
  refine iq_bipush hS 911 J_MSquareRows_init_d909 (v := 30) (by decide +kernel) rfl ?_
  refine iq_iastore hS 912 J_MSquareRows_init_d911 ⟨by decide, rfl, by decide +kernel, by decide +kernel⟩ rfl ?_
  change ia _ _ _ _ (_, _, _, mm_534)
  refine iq_dup hS 913 J_MSquareRows_init_d912 rfl rfl ?_
  refine iq_sipush hS 916 J_MSquareRows_init_d913 (v := 148) (by decide +kernel) rfl ?_
  refine iq_bipush hS 918 J_MSquareRows_init_d916 (v := 30) (by decide +kernel) rfl ?_
  refine iq_iastore hS 919 J_MSquareRows_init_d918 ⟨by decide, rfl, by decide +kernel, by decide +kernel⟩ rfl ?_
  change ia _ _ _ _ (_, _, _, mm_535)
  refine iq_dup hS 920 J_MSquareRows_init_d919 rfl rfl ?_
  refine iq_sipush hS 923 J_MSquareRows_init_d920 (v := 149) (by decide +kernel) rfl ?_
  refine iq_bipush hS 925 J_MSquareRows_init_d923 (v := 30) (by decide +kernel) rfl ?_
  refine iq_iastore hS 926 J_MSquareRows_init_d925 ⟨by decide, rfl, by decide +kernel, by decide +kernel⟩ rfl ?_
  change ia _ _ _ _ (_, _, _, mm_536)
  refine iq_dup hS 927 J_MSquareRows_init_d926 rfl rfl ?_
  refine iq_sipush hS 930 J_MSquareRows_init_d927 (v := 150) (by decide +kernel) rfl ?_
  refine iq_bipush hS 932 J_MSquareRows_init_d930 (v := 30) (by decide +kernel) rfl ?_
  refine iq_iastore hS 933 J_MSquareRows_init_d932 ⟨by decide, rfl, by decide +kernel, by decide +kernel⟩ rfl ?_
  change ia _ _ _ _ (_, _, _, mm_537)
  refine iq_dup hS 934 J_MSquareRows_init_d933 rfl rfl ?_
  refine iq_sipush hS 937 J_MSquareRows_init_d934 (v := 151) (by decide +kernel) rfl ?_
  refine iq_bipush hS 939 J_MSquareRows_init_d937 (v := 30) (by decide +kernel) rfl ?_
  refine iq_iastore hS 940 J_MSquareRows_init_d939 ⟨by decide, rfl, by decide +kernel, by decide +kernel⟩ rfl ?_
  change ia _ _ _ _ (_, _, _, mm_538)
  refine iq_dup hS 941 J_MSquareRows_init_d940 rfl rfl ?_
  refine iq_sipush hS 944 J_MSquareRows_init_d941 (v := 152) (by decide +kernel) rfl ?_
  refine iq_bipush hS 946 J_MSquareRows_init_d944 (v := 30) (by decide +kernel) rfl ?_
  refine iq_iastore hS 947 J_MSquareRows_init_d946 ⟨by decide, rfl, by decide +kernel, by decide +kernel⟩ rfl ?_
  change ia _ _ _ _ (_, _, _, mm_539)
  refine iq_dup hS 948 J_MSquareRows_init_d947 rfl rfl ?_
  refine iq_sipush hS 951 J_MSquareRows_init_d948 (v := 153) (by decide +kernel) rfl ?_
  refine iq_bipush hS 953 J_MSquareRows_init_d951 (v := 30) (by decide +kernel) rfl ?_
  refine iq_iastore hS 954 J_MSquareRows_init_d953 ⟨by decide, rfl, by decide +kernel, by decide +kernel⟩ rfl ?_
  change ia _ _ _ _ (_, _, _, mm_540)
  refine iq_dup hS 955 J_MSquareRows_init_d954 rfl rfl ?_
  refine iq_sipush hS 958 J_MSquareRows_init_d955 (v := 154) (by decide +kernel) rfl ?_
  refine iq_bipush hS 960 J_MSquareRows_init_d958 (v := 30) (by decide +kernel) rfl ?_
  refine iq_iastore hS 961 J_MSquareRows_init_d960 ⟨by decide, rfl, by decide +kernel, by decide +kernel⟩ rfl ?_
  change ia _ _ _ _ (_, _, _, mm_541)
  refine iq_dup hS 962 J_MSquareRows_init_d961 rfl rfl ?_
  refine iq_sipush hS 965 J_MSquareRows_init_d962 (v := 155) (by decide +kernel) rfl ?_
  refine iq_bipush hS 967 J_MSquareRows_init_d965 (v := 30) (by decide +kernel) rfl ?_
  refine iq_iastore hS 968 J_MSquareRows_init_d967 ⟨by decide, rfl, by decide +kernel, by decide +kernel⟩ rfl ?_
  change ia _ _ _ _ (_, _, _, mm_542)
  refine iq_dup hS 969 J_MSquareRows_init_d968 rfl rfl ?_
  refine iq_sipush hS 972 J_MSquareRows_init_d969 (v := 156) (by decide +kernel) rfl ?_
  refine iq_bipush hS 974 J_MSquareRows_init_d972 (v := 30) (by decide +kernel) rfl ?_
  refine iq_iastore hS 975 J_MSquareRows_init_d974 ⟨by decide, rfl, by decide +kernel, by decide +kernel⟩ rfl ?_
  change ia _ _ _ _ (_, _, _, mm_543)
  refine iq_dup hS 976 J_MSquareRows_init_d975 rfl rfl ?_
  refine iq_sipush hS 979 J_MSquareRows_init_d976 (v := 157) (by decide +kernel) rfl ?_
  refine iq_bipush hS 981 J_MSquareRows_init_d979 (v := 30) (by decide +kernel) rfl ?_
  refine iq_iastore hS 982 J_MSquareRows_init_d981 ⟨by decide, rfl, by decide +kernel, by decide +kernel⟩ rfl ?_
  change ia _ _ _ _ (_, _, _, mm_544)
  refine iq_dup hS 983 J_MSquareRows_init_d982 rfl rfl ?_
  refine iq_sipush hS 986 J_MSquareRows_init_d983 (v := 158) (by decide +kernel) rfl ?_
  refine iq_bipush hS 988 J_MSquareRows_init_d986 (v := 30) (by decide +kernel) rfl ?_
  refine iq_iastore hS 989 J_MSquareRows_init_d988 ⟨by decide, rfl, by decide +kernel, by decide +kernel⟩ rfl ?_
  change ia _ _ _ _ (_, _, _, mm_545)
  refine iq_dup hS 990 J_MSquareRows_init_d989 rfl rfl ?_
  refine iq_sipush hS 993 J_MSquareRows_init_d990 (v := 159) (by decide +kernel) rfl ?_
  refine iq_bipush hS 995 J_MSquareRows_init_d993 (v := 30) (by decide +kernel) rfl ?_
  refine iq_iastore hS 996 J_MSquareRows_init_d995 ⟨by decide, rfl, by decide +kernel, by decide +kernel⟩ rfl ?_
  change ia _ _ _ _ (_, _, _, mm_546)
  refine iq_putR hS 999 J_MSquareRows_init_d996 lf_16_7 (Or.inr ⟨rfl, rfl⟩) (Or.inr ⟨_, rfl⟩) ⟨by decide, rfl⟩ rfl ?_
  change ia _ _ _ _ (_, _, _, mm_547)
  refine iq_aload_n hS 1000 J_MSquareRows_init_d999 h0 rfl ?_
  refine iq_sipush hS 1003 J_MSquareRows_init_d1000 (v := 160) (by decide +kernel) rfl ?_
  refine iq_newa hS 1005 J_MSquareRows_init_d1003 (N := 160) rfl (by decide) (by decide) (by decide) (by decide) (by decide) rfl ?_
  change ia _ _ _ _ (_, _, .ref 110 :: _, mm_548)
  refine iq_dup hS 1006 J_MSquareRows_init_d1005 rfl rfl ?_
  refine iq_iconst hS 1007 J_MSquareRows_init_d1006 (v := 0) (by decide +kernel) rfl ?_
  refine iq_iconst hS 1008 J_MSquareRows_init_d1007 (v := 1) (by decide +kernel) rfl ?_
  refine iq_iastore hS 1009 J_MSquareRows_init_d1008 ⟨by decide, rfl, by decide +kernel, by decide +kernel⟩ rfl ?_
  change ia _ _ _ _ (_, _, _, mm_549)
  refine iq_dup hS 1010 J_MSquareRows_init_d1009 rfl rfl ?_
  refine iq_iconst hS 1011 J_MSquareRows_init_d1010 (v := 1) (by decide +kernel) rfl ?_
  refine iq_iconst hS 1012 J_MSquareRows_init_d1011 (v := 1) (by decide +kernel) rfl ?_
  refine iq_iastore hS 1013 J_MSquareRows_init_d1012 ⟨by decide, rfl, by decide +kernel, by decide +kernel⟩ rfl ?_
  change ia _ _ _ _ (_, _, _, mm_550)
  refine iq_dup hS 1014 J_MSquareRows_init_d1013 rfl rfl ?_
  refine iq_iconst hS 1015 J_MSquareRows_init_d1014 (v := 2) (by decide +kernel) rfl ?_
  refine iq_iconst hS 1016 J_MSquareRows_init_d1015 (v := 1) (by decide +kernel) rfl ?_
  refine iq_iastore hS 1017 J_MSquareRows_init_d1016 ⟨by decide, rfl, by decide +kernel, by decide +kernel⟩ rfl ?_
  change ia _ _ _ _ (_, _, _, mm_551)
  refine iq_dup hS 1018 J_MSquareRows_init_d1017 rfl rfl ?_
  refine iq_iconst hS 1019 J_MSquareRows_init_d1018 (v := 3) (by decide +kernel) rfl ?_
  refine iq_iconst hS 1020 J_MSquareRows_init_d1019 (v := 1) (by decide +kernel) rfl ?_
  refine iq_iastore hS 1021 J_MSquareRows_init_d1020 ⟨by decide, rfl, by decide +kernel, by decide +kernel⟩ rfl ?_
  change ia _ _ _ _ (_, _, _, mm_552)
  refine iq_dup hS 1022 J_MSquareRows_init_d1021 rfl rfl ?_
  refine iq_iconst hS 1023 J_MSquareRows_init_d1022 (v := 4) (by decide +kernel) rfl ?_
  refine iq_iconst hS 1024 J_MSquareRows_init_d1023 (v := 1) (by decide +kernel) rfl ?_
  refine iq_iastore hS 1025 J_MSquareRows_init_d1024 ⟨by decide, rfl, by decide +kernel, by decide +kernel⟩ rfl ?_
  change ia _ _ _ _ (_, _, _, mm_553)
  refine iq_dup hS 1026 J_MSquareRows_init_d1025 rfl rfl ?_
  refine iq_iconst hS 1027 J_MSquareRows_init_d1026 (v := 5) (by decide +kernel) rfl ?_
  refine iq_iconst hS 1028 J_MSquareRows_init_d1027 (v := 2) (by decide +kernel) rfl ?_
  refine iq_iastore hS 1029 J_MSquareRows_init_d1028 ⟨by decide, rfl, by decide +kernel, by decide +kernel⟩ rfl ?_
  change ia _ _ _ _ (_, _, _, mm_554)
  refine iq_dup hS 1030 J_MSquareRows_init_d1029 rfl rfl ?_
  refine iq_bipush hS 1032 J_MSquareRows_init_d1030 (v := 6) (by decide +kernel) rfl ?_
  refine iq_iconst hS 1033 J_MSquareRows_init_d1032 (v := 2) (by decide +kernel) rfl ?_
  refine iq_iastore hS 1034 J_MSquareRows_init_d1033 ⟨by decide, rfl, by decide +kernel, by decide +kernel⟩ rfl ?_
  change ia _ _ _ _ (_, _, _, mm_555)
  refine iq_dup hS 1035 J_MSquareRows_init_d1034 rfl rfl ?_
  refine iq_bipush hS 1037 J_MSquareRows_init_d1035 (v := 7) (by decide +kernel) rfl ?_
  refine iq_iconst hS 1038 J_MSquareRows_init_d1037 (v := 2) (by decide +kernel) rfl ?_
  refine iq_iastore hS 1039 J_MSquareRows_init_d1038 ⟨by decide, rfl, by decide +kernel, by decide +kernel⟩ rfl ?_
  change ia _ _ _ _ (_, _, _, mm_556)
  refine iq_dup hS 1040 J_MSquareRows_init_d1039 rfl rfl ?_
  refine iq_bipush hS 1042 J_MSquareRows_init_d1040 (v := 8) (by decide +kernel) rfl ?_
  refine iq_iconst hS 1043 J_MSquareRows_init_d1042 (v := 2) (by decide +kernel) rfl ?_
  refine iq_iastore hS 1044 J_MSquareRows_init_d1043 ⟨by decide, rfl, by decide +kernel, by decide +kernel⟩ rfl ?_
  change ia _ _ _ _ (_, _, _, mm_557)
  refine iq_dup hS 1045 J_MSquareRows_init_d1044 rfl rfl ?_
  refine iq_bipush hS 1047 J_MSquareRows_init_d1045 (v := 9) (by decide +kernel) rfl ?_
  refine iq_iconst hS 1048 J_MSquareRows_init_d1047 (v := 4) (by decide +kernel) rfl ?_
  refine iq_iastore hS 1049 J_MSquareRows_init_d1048 ⟨by decide, rfl, by decide +kernel, by decide +kernel⟩ rfl ?_
  change ia _ _ _ _ (_, _, _, mm_558)
  refine iq_dup hS 1050 J_MSquareRows_init_d1049 rfl rfl ?_
  refine iq_bipush hS 1052 J_MSquareRows_init_d1050 (v := 10) (by decide +kernel) rfl ?_
  refine iq_iconst hS 1053 J_MSquareRows_init_d1052 (v := 4) (by decide +kernel) rfl ?_
  refine iq_iastore hS 1054 J_MSquareRows_init_d1053 ⟨by decide, rfl, by decide +kernel, by decide +kernel⟩ rfl ?_
  change ia _ _ _ _ (_, _, _, mm_559)
  refine iq_dup hS 1055 J_MSquareRows_init_d1054 rfl rfl ?_
  refine iq_bipush hS 1057 J_MSquareRows_init_d1055 (v := 11) (by decide +kernel) rfl ?_
  refine iq_iconst hS 1058 J_MSquareRows_init_d1057 (v := 4) (by decide +kernel) rfl ?_
  refine iq_iastore hS 1059 J_MSquareRows_init_d1058 ⟨by decide, rfl, by decide +kernel, by decide +kernel⟩ rfl ?_
  change ia _ _ _ _ (_, _, _, mm_560)
  refine iq_dup hS 1060 J_MSquareRows_init_d1059 rfl rfl ?_
  refine iq_bipush hS 1062 J_MSquareRows_init_d1060 (v := 12) (by decide +kernel) rfl ?_
  refine iq_iconst hS 1063 J_MSquareRows_init_d1062 (v := 4) (by decide +kernel) rfl ?_
  refine iq_iastore hS 1064 J_MSquareRows_init_d1063 ⟨by decide, rfl, by decide +kernel, by decide +kernel⟩ rfl ?_
  change ia _ _ _ _ (_, _, _, mm_561)
  refine iq_dup hS 1065 J_MSquareRows_init_d1064 rfl rfl ?_
  refine iq_bipush hS 1067 J_MSquareRows_init_d1065 (v := 13) (by decide +kernel) rfl ?_
  refine iq_iconst hS 1068 J_MSquareRows_init_d1067 (v := 4) (by decide +kernel) rfl ?_
  refine iq_iastore hS 1069 J_MSquareRows_init_d1068 ⟨by decide, rfl, by decide +kernel, by decide +kernel⟩ rfl ?_
  change ia _ _ _ _ (_, _, _, mm_562)
  refine iq_dup hS 1070 J_MSquareRows_init_d1069 rfl rfl ?_
  refine iq_bipush hS 1072 J_MSquareRows_init_d1070 (v := 14) (by decide +kernel) rfl ?_
  refine iq_bipush hS 1074 J_MSquareRows_init_d1072 (v := 6) (by decide +kernel) rfl ?_
  refine iq_iastore hS 1075 J_MSquareRows_init_d1074 ⟨by decide, rfl, by decide +kernel, by decide +kernel⟩ rfl ?_
  change ia _ _ _ _ (_, _, _, mm_563)
  refine iq_dup hS 1076 J_MSquareRows_init_d1075 rfl rfl ?_
  refine iq_bipush hS 1078 J_MSquareRows_init_d1076 (v := 15) (by decide +kernel) rfl ?_
  refine iq_bipush hS 1080 J_MSquareRows_init_d1078 (v := 6) (by decide +kernel) rfl ?_
  refine iq_iastore hS 1081 J_MSquareRows_init_d1080 ⟨by decide, rfl, by decide +kernel, by decide +kernel⟩ rfl ?_
  change ia _ _ _ _ (_, _, _, mm_564)
  refine iq_dup hS 1082 J_MSquareRows_init_d1081 rfl rfl ?_
  refine iq_bipush hS 1084 J_MSquareRows_init_d1082 (v := 16) (by decide +kernel) rfl ?_
  refine iq_bipush hS 1086 J_MSquareRows_init_d1084 (v := 6) (by decide +kernel) rfl ?_
  refine iq_iastore hS 1087 J_MSquareRows_init_d1086 ⟨by decide, rfl, by decide +kernel, by decide +kernel⟩ rfl ?_
  change ia _ _ _ _ (_, _, _, mm_565)
  refine iq_dup hS 1088 J_MSquareRows_init_d1087 rfl rfl ?_
  refine iq_bipush hS 1090 J_MSquareRows_init_d1088 (v := 17) (by decide +kernel) rfl ?_
  refine iq_bipush hS 1092 J_MSquareRows_init_d1090 (v := 6) (by decide +kernel) rfl ?_
  refine iq_iastore hS 1093 J_MSquareRows_init_d1092 ⟨by decide, rfl, by decide +kernel, by decide +kernel⟩ rfl ?_
  change ia _ _ _ _ (_, _, _, mm_566)
  refine iq_dup hS 1094 J_MSquareRows_init_d1093 rfl rfl ?_
  refine iq_bipush hS 1096 J_MSquareRows_init_d1094 (v := 18) (by decide +kernel) rfl ?_
  refine iq_bipush hS 1098 J_MSquareRows_init_d1096 (v := 7) (by decide +kernel) rfl ?_
  refine iq_iastore hS 1099 J_MSquareRows_init_d1098 ⟨by decide, rfl, by decide +kernel, by decide +kernel⟩ rfl ?_
  change ia _ _ _ _ (_, _, _, mm_567)
  refine iq_dup hS 1100 J_MSquareRows_init_d1099 rfl rfl ?_
  refine iq_bipush hS 1102 J_MSquareRows_init_d1100 (v := 19) (by decide +kernel) rfl ?_
  refine iq_bipush hS 1104 J_MSquareRows_init_d1102 (v := 8) (by decide +kernel) rfl ?_
  refine iq_iastore hS 1105 J_MSquareRows_init_d1104 ⟨by decide, rfl, by decide +kernel, by decide +kernel⟩ rfl ?_
  change ia _ _ _ _ (_, _, _, mm_568)
  refine iq_dup hS 1106 J_MSquareRows_init_d1105 rfl rfl ?_
  refine iq_bipush hS 1108 J_MSquareRows_init_d1106 (v := 20) (by decide +kernel) rfl ?_
  refine iq_bipush hS 1110 J_MSquareRows_init_d1108 (v := 8) (by decide +kernel) rfl ?_
  refine iq_iastore hS 1111 J_MSquareRows_init_d1110 ⟨by decide, rfl, by decide +kernel, by decide +kernel⟩ rfl ?_
  change ia _ _ _ _ (_, _, _, mm_569)
  refine iq_dup hS 1112 J_MSquareRows_init_d1111 rfl rfl ?_
  refine iq_bipush hS 1114 J_MSquareRows_init_d1112 (v := 21) (by decide +kernel) rfl ?_
  refine iq_bipush hS 1116 J_MSquareRows_init_d1114 (v := 9) (by decide +kernel) rfl ?_
  refine iq_iastore hS 1117 J_MSquareRows_init_d1116 ⟨by decide, rfl, by decide +kernel, by decide +kernel⟩ rfl ?_
  change ia _ _ _ _ (_, _, _, mm_570)
  refine iq_dup hS 1118 J_MSquareRows_init_d1117 rfl rfl ?_
  refine iq_bipush hS 1120 J_MSquareRows_init_d1118 (v := 22) (by decide +kernel) rfl ?_
  refine iq_bipush hS 1122 J_MSquareRows_init_d1120 (v := 9) (by decide +kernel) rfl ?_
  refine iq_iastore hS 1123 J_MSquareRows_init_d1122 ⟨by decide, rfl, by decide +kernel, by decide +kernel⟩ rfl ?_
  change ia _ _ _ _ (_, _, _, mm_571)
  refine iq_dup hS 1124 J_MSquareRows_init_d1123 rfl rfl ?_
  refine iq_bipush hS 1126 J_MSquareRows_init_d1124 (v := 23) (by decide +kernel) rfl ?_
  refine iq_bipush hS 1128 J_MSquareRows_init_d1126 (v := 10) (by decide +kernel) rfl ?_
  refine iq_iastore hS 1129 J_MSquareRows_init_d1128 ⟨by decide, rfl, by decide +kernel, by decide +kernel⟩ rfl ?_
  change ia _ _ _ _ (_, _, _, mm_572)
  refine iq_dup hS 1130 J_MSquareRows_init_d1129 rfl rfl ?_
  refine iq_bipush hS 1132 J_MSquareRows_init_d1130 (v := 24) (by decide +kernel) rfl ?_
  refine iq_bipush hS 1134 J_MSquareRows_init_d1132 (v := 12) (by decide +kernel) rfl ?_
  refine iq_iastore hS 1135 J_MSquareRows_init_d1134 ⟨by decide, rfl, by decide +kernel, by decide +kernel⟩ rfl ?_
  change ia _ _ _ _ (_, _, _, mm_573)
  refine iq_dup hS 1136 J_MSquareRows_init_d1135 rfl rfl ?_
  refine iq_bipush hS 1138 J_MSquareRows_init_d1136 (v := 25) (by decide +kernel) rfl ?_
  refine iq_bipush hS 1140 J_MSquareRows_init_d1138 (v := 12) (by decide +kernel) rfl ?_
  refine iq_iastore hS 1141 J_MSquareRows_init_d1140 ⟨by decide, rfl, by decide +kernel, by decide +kernel⟩ rfl ?_
  change ia _ _ _ _ (_, _, _, mm_574)
  refine iq_dup hS 1142 J_MSquareRows_init_d1141 rfl rfl ?_
  refine iq_bipush hS 1144 J_MSquareRows_init_d1142 (v := 26) (by decide +kernel) rfl ?_
  refine iq_bipush hS 1146 J_MSquareRows_init_d1144 (v := 12) (by decide +kernel) rfl ?_
  refine iq_iastore hS 1147 J_MSquareRows_init_d1146 ⟨by decide, rfl, by decide +kernel, by decide +kernel⟩ rfl ?_
  change ia _ _ _ _ (_, _, _, mm_575)
  refine iq_dup hS 1148 J_MSquareRows_init_d1147 rfl rfl ?_
  refine iq_bipush hS 1150 J_MSquareRows_init_d1148 (v := 27) (by decide +kernel) rfl ?_
  refine iq_bipush hS 1152 J_MSquareRows_init_d1150 (v := 13) (by decide +kernel) rfl ?_
  refine iq_iastore hS 1153 J_MSquareRows_init_d1152 ⟨by decide, rfl, by decide +kernel, by decide +kernel⟩ rfl ?_
  change ia _ _ _ _ (_, _, _, mm_576)
  refine iq_dup hS 1154 J_MSquareRows_init_d1153 rfl rfl ?_
  refine iq_bipush hS 1156 J_MSquareRows_init_d1154 (v := 28) (by decide +kernel) rfl ?_
  refine iq_bipush hS 1158 J_MSquareRows_init_d1156 (v := 14) (by decide +kernel) rfl ?_
  refine iq_iastore hS 1159 J_MSquareRows_init_d1158 ⟨by decide, rfl, by decide +kernel, by decide +kernel⟩ rfl ?_
  change ia _ _ _ _ (_, _, _, mm_577)
  refine iq_dup hS 1160 J_MSquareRows_init_d1159 rfl rfl ?_
  refine iq_bipush hS 1162 J_MSquareRows_init_d1160 (v := 29) (by decide +kernel) rfl ?_
  refine iq_bipush hS 1164 J_MSquareRows_init_d1162 (v := 15) (by decide +kernel) rfl ?_
  refine iq_iastore hS 1165 J_MSquareRows_init_d1164 ⟨by decide, rfl, by decide +kernel, by decide +kernel⟩ rfl ?_
  change ia _ _ _ _ (_, _, _, mm_578)
  refine iq_dup hS 1166 J_MSquareRows_init_d1165 rfl rfl ?_
  refine iq_bipush hS 1168 J_MSquareRows_init_d1166 (v := 30) (by decide +kernel) rfl ?_
  refine iq_bipush hS 1170 J_MSquareRows_init_d1168 (v := 16) (by decide +kernel) rfl ?_
  refine iq_iastore hS 1171 J_MSquareRows_init_d1170 ⟨by decide, rfl, by decide +kernel, by decide +kernel⟩ rfl ?_
  change ia _ _ _ _ (_, _, _, mm_579)
  refine iq_dup hS 1172 J_MSquareRows_init_d1171 rfl rfl ?_
  refine iq_bipush hS 1174 J_MSquareRows_init_d1172 (v := 31) (by decide +kernel) rfl ?_
  refine iq_bipush hS 1176 J_MSquareRows_init_d1174 (v := 17) (by decide +kernel) rfl ?_
  refine iq_iastore hS 1177 J_MSquareRows_init_d1176 ⟨by decide, rfl, by decide +kernel, by decide +kernel⟩ rfl ?_
  change ia _ _ _ _ (_, _, _, mm_580)
  refine iq_dup hS 1178 J_MSquareRows_init_d1177 rfl rfl ?_
  refine iq_bipush hS 1180 J_MSquareRows_init_d1178 (v := 32) (by decide +kernel) rfl ?_
  refine iq_bipush hS 1182 J_MSquareRows_init_d1180 (v := 18) (by decide +kernel) rfl ?_
  refine iq_iastore hS 1183 J_MSquareRows_init_d1182 ⟨by decide, rfl, by decide +kernel, by decide +kernel⟩ rfl ?_
  change ia _ _ _ _ (_, _, _, mm_581)
  refine iq_dup hS 1184 J_MSquareRows_init_d1183 rfl rfl ?_
  refine iq_bipush hS 1186 J_MSquareRows_init_d1184 (v := 33) (by decide +kernel) rfl ?_
  refine iq_bipush hS 1188 J_MSquareRows_init_d1186 (v := 19) (by decide +kernel) rfl ?_
  refine iq_iastore hS 1189 J_MSquareRows_init_d1188 ⟨by decide, rfl, by decide +kernel, by decide +kernel⟩ rfl ?_
  change ia _ _ _ _ (_, _, _, mm_582)
  refine iq_dup hS 1190 J_MSquareRows_init_d1189 rfl rfl ?_
  refine iq_bipush hS 1192 J_MSquareRows_init_d1190 (v := 34) (by decide +kernel) rfl ?_
  refine iq_bipush hS 1194 J_MSquareRows_init_d1192 (v := 19) (by decide +kernel) rfl ?_
  refine iq_iastore hS 1195 J_MSquareRows_init_d1194 ⟨by decide, rfl, by decide +kernel, by decide +kernel⟩ rfl ?_
  change ia _ _ _ _ (_, _, _, mm_583)
  refine iq_dup hS 1196 J_MSquareRows_init_d1195 rfl rfl ?_
  refine iq_bipush hS 1198 J_MSquareRows_init_d1196 (v := 35) (by decide +kernel) rfl ?_
  refine iq_bipush hS 1200 J_MSquareRows_init_d1198 (v := 20) (by decide +kernel) rfl ?_
  refine iq_iastore hS 1201 J_MSquareRows_init_d1200 ⟨by decide, rfl, by decide +kernel, by decide +kernel⟩ rfl ?_
  change ia _ _ _ _ (_, _, _, mm_584)
  refine iq_dup hS 1202 J_MSquareRows_init_d1201 rfl rfl ?_
  refine iq_bipush hS 1204 J_MSquareRows_init_d1202 (v := 36) (by decide +kernel) rfl ?_
  refine iq_bipush hS 1206 J_MSquareRows_init_d1204 (v := 21) (by decide +kernel) rfl ?_
  refine iq_iastore hS 1207 J_MSquareRows_init_d1206 ⟨by decide, rfl, by decide +kernel, by decide +kernel⟩ rfl ?_
  change ia _ _ _ _ (_, _, _, mm_585)
  refine iq_dup hS 1208 J_MSquareRows_init_d1207 rfl rfl ?_
  refine iq_bipush hS 1210 J_MSquareRows_init_d1208 (v := 37) (by decide +kernel) rfl ?_
  refine iq_bipush hS 1212 J_MSquareRows_init_d1210 (v := 22) (by decide +kernel) rfl ?_
  refine iq_iastore hS 1213 J_MSquareRows_init_d1212 ⟨by decide, rfl, by decide +kernel, by decide +kernel⟩ rfl ?_
  change ia _ _ _ _ (_, _, _, mm_586)
  refine iq_dup hS 1214 J_MSquareRows_init_d1213 rfl rfl ?_
  refine iq_bipush hS 1216 J_MSquareRows_init_d1214 (v := 38) (by decide +kernel) rfl ?_
  refine iq_bipush hS 1218 J_MSquareRows_init_d1216 (v := 24) (by decide +kernel) rfl ?_
  refine iq_iastore hS 1219 J_MSquareRows_init_d1218 ⟨by decide, rfl, by decide +kernel, by decide +kernel⟩ rfl ?_
  change ia _ _ _ _ (_, _, _, mm_587)
  refine iq_dup hS 1220 J_MSquareRows_init_d1219 rfl rfl ?_
  refine iq_bipush hS 1222 J_MSquareRows_init_d1220 (v := 39) (by decide +kernel) rfl ?_
  refine iq_bipush hS 1224 J_MSquareRows_init_d1222 (v := 25) (by decide +kernel) rfl ?_
  refine iq_iastore hS 1225 J_MSquareRows_init_d1224 ⟨by decide, rfl, by decide +kernel, by decide +kernel⟩ rfl ?_
  change ia _ _ _ _ (_, _, _, mm_588)
  refine iq_dup hS 1226 J_MSquareRows_init_d1225 rfl rfl ?_
  refine iq_bipush hS 1228 J_MSquareRows_init_d1226 (v := 40) (by decide +kernel) rfl ?_
  refine iq_iconst hS 1229 J_MSquareRows_init_d1228 (v := 1) (by decide +kernel) rfl ?_
  refine iq_iastore hS 1230 J_MSquareRows_init_d1229 ⟨by decide, rfl, by decide +kernel, by decide +kernel⟩ rfl ?_
  change ia _ _ _ _ (_, _, _, mm_589)
  refine iq_dup hS 1231 J_MSquareRows_init_d1230 rfl rfl ?_
  refine iq_bipush hS 1233 J_MSquareRows_init_d1231 (v := 41) (by decide +kernel) rfl ?_
  refine iq_iconst hS 1234 J_MSquareRows_init_d1233 (v := 1) (by decide +kernel) rfl ?_
  refine iq_iastore hS 1235 J_MSquareRows_init_d1234 ⟨by decide, rfl, by decide +kernel, by decide +kernel⟩ rfl ?_
  change ia _ _ _ _ (_, _, _, mm_590)
  refine iq_dup hS 1236 J_MSquareRows_init_d1235 rfl rfl ?_
  refine iq_bipush hS 1238 J_MSquareRows_init_d1236 (v := 42) (by decide +kernel) rfl ?_
  refine iq_iconst hS 1239 J_MSquareRows_init_d1238 (v := 1) (by decide +kernel) rfl ?_
  refine iq_iastore hS 1240 J_MSquareRows_init_d1239 ⟨by decide, rfl, by decide +kernel, by decide +kernel⟩ rfl ?_
  change ia _ _ _ _ (_, _, _, mm_591)
  refine iq_dup hS 1241 J_MSquareRows_init_d1240 rfl rfl ?_
  refine iq_bipush hS 1243 J_MSquareRows_init_d1241 (v := 43) (by decide +kernel) rfl ?_
  refine iq_iconst hS 1244 J_MSquareRows_init_d1243 (v := 2) (by decide +kernel) rfl ?_
  refine iq_iastore hS 1245 J_MSquareRows_init_d1244 ⟨by decide, rfl, by decide +kernel, by decide +kernel⟩ rfl ?_
  change ia _ _ _ _ (_, _, _, mm_592)
  refine iq_dup hS 1246 J_MSquareRows_init_d1245 rfl rfl ?_
  refine iq_bipush hS 1248 J_MSquareRows_init_d1246 (v := 44) (by decide +kernel) rfl ?_
  refine iq_iconst hS 1249 J_MSquareRows_init_d1248 (v := 2) (by decide +kernel) rfl ?_
  refine iq_iastore hS 1250 J_MSquareRows_init_d1249 ⟨by decide, rfl, by decide +kernel, by decide +kernel⟩ rfl ?_
  change ia _ _ _ _ (_, _, _, mm_593)
  refine iq_dup hS 1251 J_MSquareRows_init_d1250 rfl rfl ?_
  refine iq_bipush hS 1253 J_MSquareRows_init_d1251 (v := 45) (by decide +kernel) rfl ?_
  refine iq_iconst hS 1254 J_MSquareRows_init_d1253 (v := 4) (by decide +kernel) rfl ?_
  refine iq_iastore hS 1255 J_MSquareRows_init_d1254 ⟨by decide, rfl, by decide +kernel, by decide +kernel⟩ rfl ?_
  change ia _ _ _ _ (_, _, _, mm_594)
  refine iq_dup hS 1256 J_MSquareRows_init_d1255 rfl rfl ?_
  refine iq_bipush hS 1258 J_MSquareRows_init_d1256 (v := 46) (by decide +kernel) rfl ?_
  refine iq_iconst hS 1259 J_MSquareRows_init_d1258 (v := 4) (by decide +kernel) rfl ?_
  refine iq_iastore hS 1260 J_MSquareRows_init_d1259 ⟨by decide, rfl, by decide +kernel, by decide +kernel⟩ rfl ?_
  change ia _ _ _ _ (_, _, _, mm_595)
  refine iq_dup hS 1261 J_MSquareRows_init_d1260 rfl rfl ?_
  refine iq_bipush hS 1263 J_MSquareRows_init_d1261 (v := 47) (by decide +kernel) rfl ?_
  refine iq_iconst hS 1264 J_MSquareRows_init_d1263 (v := 4) (by decide +kernel) rfl ?_
  refine iq_iastore hS 1265 J_MSquareRows_init_d1264 ⟨by decide, rfl, by decide +kernel, by decide +kernel⟩ rfl ?_
  change ia _ _ _ _ (_, _, _, mm_596)
  refine iq_dup hS 1266 J_MSquareRows_init_d1265 rfl rfl ?_
  refine iq_bipush hS 1268 J_MSquareRows_init_d1266 (v := 48) (by decide +kernel) rfl ?_
  refine iq_iconst hS 1269 J_MSquareRows_init_d1268 (v := 5) (by decide +kernel) rfl ?_
  refine iq_iastore hS 1270 J_MSquareRows_init_d1269 ⟨by decide, rfl, by decide +kernel, by decide +kernel⟩ rfl ?_
  change ia _ _ _ _ (_, _, _, mm_597)
  refine iq_dup hS 1271 J_MSquareRows_init_d1270 rfl rfl ?_
  refine iq_bipush hS 1273 J_MSquareRows_init_d1271 (v := 49) (by decide +kernel) rfl ?_
  refine iq_iconst hS 1274 J_MSquareRows_init_d1273 (v := 5) (by decide +kernel) rfl ?_
  refine iq_iastore hS 1275 J_MSquareRows_init_d1274 ⟨by decide, rfl, by decide +kernel, by decide +kernel⟩ rfl ?_
  change ia _ _ _ _ (_, _, _, mm_598)
  refine iq_dup hS 1276 J_MSquareRows_init_d1275 rfl rfl ?_
  refine iq_bipush hS 1278 J_MSquareRows_init_d1276 (v := 50) (by decide +kernel) rfl ?_
  refine iq_iconst hS 1279 J_MSquareRows_init_d1278 (v := 5) (by decide +kernel) rfl ?_
  refine iq_iastore hS 1280 J_MSquareRows_init_d1279 ⟨by decide, rfl, by decide +kernel, by decide +kernel⟩ rfl ?_
  change ia _ _ _ _ (_, _, _, mm_599)
  refine iq_dup hS 1281 J_MSquareRows_init_d1280 rfl rfl ?_
  refine iq_bipush hS 1283 J_MSquareRows_init_d1281 (v := 51) (by decide +kernel) rfl ?_
  refine iq_bipush hS 1285 J_MSquareRows_init_d1283 (v := 8) (by decide +kernel) rfl ?_
  refine iq_iastore hS 1286 J_MSquareRows_init_d1285 ⟨by decide, rfl, by decide +kernel, by decide +kernel⟩ rfl ?_
  change ia _ _ _ _ (_, _, _, mm_600)
  refine iq_dup hS 1287 J_MSquareRows_init_d1286 rfl rfl ?_
  refine iq_bipush hS 1289 J_MSquareRows_init_d1287 (v := 52) (by decide +kernel) rfl ?_
  refine iq_bipush hS 1291 J_MSquareRows_init_d1289 (v := 9) (by decide +kernel) rfl ?_
  refine iq_iastore hS 1292 J_MSquareRows_init_d1291 ⟨by decide, rfl, by decide +kernel, by decide +kernel⟩ rfl ?_
  change ia _ _ _ _ (_, _, _, mm_601)
  refine iq_dup hS 1293 J_MSquareRows_init_d1292 rfl rfl ?_
  refine iq_bipush hS 1295 J_MSquareRows_init_d1293 (v := 53) (by decide +kernel) rfl ?_
  refine iq_bipush hS 1297 J_MSquareRows_init_d1295 (v := 9) (by decide +kernel) rfl ?_
  refine iq_iastore hS 1298 J_MSquareRows_init_d1297 ⟨by decide, rfl, by decide +kernel, by decide +kernel⟩ rfl ?_
  change ia _ _ _ _ (_, _, _, mm_602)
  refine iq_dup hS 1299 J_MSquareRows_init_d1298 rfl rfl ?_
  refine iq_bipush hS 1301 J_MSquareRows_init_d1299 (v := 54) (by decide +kernel) rfl ?_
  refine iq_bipush hS 1303 J_MSquareRows_init_d1301 (v := 10) (by decide +kernel) rfl ?_
  refine iq_iastore hS 1304 J_MSquareRows_init_d1303 ⟨by decide, rfl, by decide +kernel, by decide +kernel⟩ rfl ?_
  change ia _ _ _ _ (_, _, _, mm_603)
  refine iq_dup hS 1305 J_MSquareRows_init_d1304 rfl rfl ?_
  refine iq_bipush hS 1307 J_MSquareRows_init_d1305 (v := 55) (by decide +kernel) rfl ?_
  refine iq_bipush hS 1309 J_MSquareRows_init_d1307 (v := 10) (by decide +kernel) rfl ?_
  refine iq_iastore hS 1310 J_MSquareRows_init_d1309 ⟨by decide, rfl, by decide +kernel, by decide +kernel⟩ rfl ?_
  change ia _ _ _ _ (_, _, _, mm_604)
  refine iq_dup hS 1311 J_MSquareRows_init_d1310 rfl rfl ?_
  refine iq_bipush hS 1313 J_MSquareRows_init_d1311 (v := 56) (by decide +kernel) rfl ?_
  refine iq_bipush hS 1315 J_MSquareRows_init_d1313 (v := 11) (by decide +kernel) rfl ?_
  refine iq_iastore hS 1316 J_MSquareRows_init_d1315 ⟨by decide, rfl, by decide +kernel, by decide +kernel⟩ rfl ?_
  change ia _ _ _ _ (_, _, _, mm_605)
  refine iq_dup hS 1317 J_MSquareRows_init_d1316 rfl rfl ?_
  refine iq_bipush hS 1319 J_MSquareRows_init_d1317 (v := 57) (by decide +kernel) rfl ?_
  refine iq_bipush hS 1321 J_MSquareRows_init_d1319 (v := 13) (by decide +kernel) rfl ?_
  refine iq_iastore hS 1322 J_MSquareRows_init_d1321 ⟨by decide, rfl, by decide +kernel, by decide +kernel⟩ rfl ?_
  change ia _ _ _ _ (_, _, _, mm_606)
  refine iq_dup hS 1323 J_MSquareRows_init_d1322 rfl rfl ?_
  refine iq_bipush hS 1325 J_MSquareRows_init_d1323 (v := 58) (by decide +kernel) rfl ?_
  refine iq_bipush hS 1327 J_MSquareRows_init_d1325 (v := 14) (by decide +kernel) rfl ?_
  refine iq_iastore hS 1328 J_MSquareRows_init_d1327 ⟨by decide, rfl, by decide +kernel, by decide +kernel⟩ rfl ?_
  change ia _ _ _ _ (_, _, _, mm_607)
  refine iq_dup hS 1329 J_MSquareRows_init_d1328 rfl rfl ?_
  refine iq_bipush hS 1331 J_MSquareRows_init_d1329 (v := 59) (by decide +kernel) rfl ?_
  refine iq_bipush hS 1333 J_MSquareRows_init_d1331 (v := 16) (by decide +kernel) rfl ?_
  refine iq_iastore hS 1334 J_MSquareRows_init_d1333 ⟨by decide, rfl, by decide +kernel, by decide +kernel⟩ rfl ?_
  change ia _ _ _ _ (_, _, _, mm_608)
  refine iq_dup hS 1335 J_MSquareRows_init_d1334 rfl rfl ?_
  refine iq_bipush hS 1337 J_MSquareRows_init_d1335 (v := 60) (by decide +kernel) rfl ?_
  refine iq_bipush hS 1339 J_MSquareRows_init_d1337 (v := 17) (by decide +kernel) rfl ?_
  refine iq_iastore hS 1340 J_MSquareRows_init_d1339 ⟨by decide, rfl, by decide +kernel, by decide +kernel⟩ rfl ?_
  change ia _ _ _ _ (_, _, _, mm_609)
  refine iq_dup hS 1341 J_MSquareRows_init_d1340 rfl rfl ?_
  refine iq_bipush hS 1343 J_MSquareRows_init_d1341 (v := 61) (by decide +kernel) rfl ?_
  refine iq_bipush hS 1345 J_MSquareRows_init_d1343 (v := 17) (by decide +kernel) rfl ?_
  refine iq_iastore hS 1346 J_MSquareRows_init_d1345 ⟨by decide, rfl, by decide +kernel, by decide +kernel⟩ rfl ?_
  change ia _ _ _ _ (_, _, _, mm_610)
  refine iq_dup hS 1347 J_MSquareRows_init_d1346 rfl rfl ?_
  refine iq_bipush hS 1349 J_MSquareRows_init_d1347 (v := 62) (by decide +kernel) rfl ?_
  refine iq_bipush hS 1351 J_MSquareRows_init_d1349 (v := 18) (by decide +kernel) rfl ?_
  refine iq_iastore hS 1352 J_MSquareRows_init_d1351 ⟨by decide, rfl, by decide +kernel, by decide +kernel⟩ rfl ?_
  change ia _ _ _ _ (_, _, _, mm_611)
  refine iq_dup hS 1353 J_MSquareRows_init_d1352 rfl rfl ?_
  refine iq_bipush hS 1355 J_MSquareRows_init_d1353 (v := 63) (by decide +kernel) rfl ?_
  refine iq_bipush hS 1357 J_MSquareRows_init_d1355 (v := 20) (by decide +kernel) rfl ?_
  refine iq_iastore hS 1358 J_MSquareRows_init_d1357 ⟨by decide, rfl, by decide +kernel, by decide +kernel⟩ rfl ?_
  change ia _ _ _ _ (_, _, _, mm_612)
  refine iq_dup hS 1359 J_MSquareRows_init_d1358 rfl rfl ?_
  refine iq_bipush hS 1361 J_MSquareRows_init_d1359 (v := 64) (by decide +kernel) rfl ?_
  refine iq_bipush hS 1363 J_MSquareRows_init_d1361 (v := 21) (by decide +kernel) rfl ?_
  refine iq_iastore hS 1364 J_MSquareRows_init_d1363 ⟨by decide, rfl, by decide +kernel, by decide +kernel⟩ rfl ?_
  change ia _ _ _ _ (_, _, _, mm_613)
  refine iq_dup hS 1365 J_MSquareRows_init_d1364 rfl rfl ?_
  refine iq_bipush hS 1367 J_MSquareRows_init_d1365 (v := 65) (by decide +kernel) rfl ?_
  refine iq_bipush hS 1369 J_MSquareRows_init_d1367 (v := 23) (by decide +kernel) rfl ?_
  refine iq_iastore hS 1370 J_MSquareRows_init_d1369 ⟨by decide, rfl, by decide +kernel, by decide +kernel⟩ rfl ?_
  change ia _ _ _ _ (_, _, _, mm_614)
  refine iq_dup hS 1371 J_MSquareRows_init_d1370 rfl rfl ?_
  refine iq_bipush hS 1373 J_MSquareRows_init_d1371 (v := 66) (by decide +kernel) rfl ?_
  refine iq_bipush hS 1375 J_MSquareRows_init_d1373 (v := 25) (by decide +kernel) rfl ?_
  refine iq_iastore hS 1376 J_MSquareRows_init_d1375 ⟨by decide, rfl, by decide +kernel, by decide +kernel⟩ rfl ?_
  change ia _ _ _ _ (_, _, _, mm_615)
  refine iq_dup hS 1377 J_MSquareRows_init_d1376 rfl rfl ?_
  refine iq_bipush hS 1379 J_MSquareRows_init_d1377 (v := 67) (by decide +kernel) rfl ?_
  refine iq_bipush hS 1381 J_MSquareRows_init_d1379 (v := 26) (by decide +kernel) rfl ?_
  refine iq_iastore hS 1382 J_MSquareRows_init_d1381 ⟨by decide, rfl, by decide +kernel, by decide +kernel⟩ rfl ?_
  change ia _ _ _ _ (_, _, _, mm_616)
  refine iq_dup hS 1383 J_MSquareRows_init_d1382 rfl rfl ?_
  refine iq_bipush hS 1385 J_MSquareRows_init_d1383 (v := 68) (by decide +kernel) rfl ?_
  refine iq_bipush hS 1387 J_MSquareRows_init_d1385 (v := 28) (by decide +kernel) rfl ?_
  refine iq_iastore hS 1388 J_MSquareRows_init_d1387 ⟨by decide, rfl, by decide +kernel, by decide +kernel⟩ rfl ?_
  change ia _ _ _ _ (_, _, _, mm_617)
  refine iq_dup hS 1389 J_MSquareRows_init_d1388 rfl rfl ?_
  refine iq_bipush hS 1391 J_MSquareRows_init_d1389 (v := 69) (by decide +kernel) rfl ?_
  refine iq_bipush hS 1393 J_MSquareRows_init_d1391 (v := 29) (by decide +kernel) rfl ?_
  refine iq_iastore hS 1394 J_MSquareRows_init_d1393 ⟨by decide, rfl, by decide +kernel, by decide +kernel⟩ rfl ?_
  change ia _ _ _ _ (_, _, _, mm_618)
  refine iq_dup hS 1395 J_MSquareRows_init_d1394 rfl rfl ?_
  refine iq_bipush hS 1397 J_MSquareRows_init_d1395 (v := 70) (by decide +kernel) rfl ?_
  refine iq_bipush hS 1399 J_MSquareRows_init_d1397 (v := 31) (by decide +kernel) rfl ?_
  refine iq_iastore hS 1400 J_MSquareRows_init_d1399 ⟨by decide, rfl, by decide +kernel, by decide +kernel⟩ rfl ?_
  change ia _ _ _ _ (_, _, _, mm_619)
  refine iq_dup hS 1401 J_MSquareRows_init_d1400 rfl rfl ?_
  refine iq_bipush hS 1403 J_MSquareRows_init_d1401 (v := 71) (by decide +kernel) rfl ?_
  refine iq_bipush hS 1405 J_MSquareRows_init_d1403 (v := 33) (by decide +kernel) rfl ?_
  refine iq_iastore hS 1406 J_MSquareRows_init_d1405 ⟨by decide, rfl, by decide +kernel, by decide +kernel⟩ rfl ?_
  change ia _ _ _ _ (_, _, _, mm_620)
  refine iq_dup hS 1407 J_MSquareRows_init_d1406 rfl rfl ?_
  refine iq_bipush hS 1409 J_MSquareRows_init_d1407 (v := 72) (by decide +kernel) rfl ?_
  refine iq_bipush hS 1411 J_MSquareRows_init_d1409 (v := 35) (by decide +kernel) rfl ?_
  refine iq_iastore hS 1412 J_MSquareRows_init_d1411 ⟨by decide, rfl, by decide +kernel, by decide +kernel⟩ rfl ?_
  change ia _ _ _ _ (_, _, _, mm_621)
  refine iq_dup hS 1413 J_MSquareRows_init_d1412 rfl rfl ?_
  refine iq_bipush hS 1415 J_MSquareRows_init_d1413 (v := 73) (by decide +kernel) rfl ?_
  refine iq_bipush hS 1417 J_MSquareRows_init_d1415 (v := 37) (by decide +kernel) rfl ?_
  refine iq_iastore hS 1418 J_MSquareRows_init_d1417 ⟨by decide, rfl, by decide +kernel, by decide +kernel⟩ rfl ?_
  change ia _ _ _ _ (_, _, _, mm_622)
  refine iq_dup hS 1419 J_MSquareRows_init_d1418 rfl rfl ?_
  refine iq_bipush hS 1421 J_MSquareRows_init_d1419 (v := 74) (by decide +kernel) rfl ?_
  refine iq_bipush hS 1423 J_MSquareRows_init_d1421 (v := 38) (by decide +kernel) rfl ?_
  refine iq_iastore hS 1424 J_MSquareRows_init_d1423 ⟨by decide, rfl, by decide +kernel, by decide +kernel⟩ rfl ?_
  change ia _ _ _ _ (_, _, _, mm_623)
  refine iq_dup hS 1425 J_MSquareRows_init_d1424 rfl rfl ?_
  refine iq_bipush hS 1427 J_MSquareRows_init_d1425 (v := 75) (by decide +kernel) rfl ?_
  refine iq_bipush hS 1429 J_MSquareRows_init_d1427 (v := 40) (by decide +kernel) rfl ?_
  refine iq_iastore hS 1430 J_MSquareRows_init_d1429 ⟨by decide, rfl, by decide +kernel, by decide +kernel⟩ rfl ?_
  change ia _ _ _ _ (_, _, _, mm_624)
  refine iq_dup hS 1431 J_MSquareRows_init_d1430 rfl rfl ?_
  refine iq_bipush hS 1433 J_MSquareRows_init_d1431 (v := 76) (by decide +kernel) rfl ?_
  refine iq_bipush hS 1435 J_MSquareRows_init_d1433 (v := 43) (by decide +kernel) rfl ?_
  refine iq_iastore hS 1436 J_MSquareRows_init_d1435 ⟨by decide, rfl, by decide +kernel, by decide +kernel⟩ rfl ?_
  change ia _ _ _ _ (_, _, _, mm_625)
  refine iq_dup hS 1437 J_MSquareRows_init_d1436 rfl rfl ?_
  refine iq_bipush hS 1439 J_MSquareRows_init_d1437 (v := 77) (by decide +kernel) rfl ?_
  refine iq_bipush hS 1441 J_MSquareRows_init_d1439 (v := 45) (by decide +kernel) rfl ?_
  refine iq_iastore hS 1442 J_MSquareRows_init_d1441 ⟨by decide, rfl, by decide +kernel, by decide +kernel⟩ rfl ?_
  change ia _ _ _ _ (_, _, _, mm_626)
  refine iq_dup hS 1443 J_MSquareRows_init_d1442 rfl rfl ?_
  refine iq_bipush hS 1445 J_MSquareRows_init_d1443 (v := 78) (by decide +kernel) rfl ?_
  refine iq_bipush hS 1447 J_MSquareRows_init_d1445 (v := 47) (by decide +kernel) rfl ?_
  refine iq_iastore hS 1448 J_MSquareRows_init_d1447 ⟨by decide, rfl, by decide +kernel, by decide +kernel⟩ rfl ?_
  change ia _ _ _ _ (_, _, _, mm_627)
  refine iq_dup hS 1449 J_MSquareRows_init_d1448 rfl rfl ?_
  refine iq_bipush hS 1451 J_MSquareRows_init_d1449 (v := 79) (by decide +kernel) rfl ?_
  refine iq_bipush hS 1453 J_MSquareRows_init_d1451 (v := 49) (by decide +kernel) rfl ?_
  refine iq_iastore hS 1454 J_MSquareRows_init_d1453 ⟨by decide, rfl, by decide +kernel, by decide +kernel⟩ rfl ?_
  change ia _ _ _ _ (_, _, _, mm_628)
  refine iq_dup hS 1455 J_MSquareRows_init_d1454 rfl rfl ?_
  refine iq_bipush hS 1457 J_MSquareRows_init_d1455 (v := 80) (by decide +kernel) rfl ?_
  refine iq_iconst hS 1458 J_MSquareRows_init_d1457 (v := 1) (by decide +kernel) rfl ?_
  refine iq_iastore hS 1459 J_MSquareRows_init_d1458 ⟨by decide, rfl, by decide +kernel, by decide +kernel⟩ rfl ?_
  change ia _ _ _ _ (_, _, _, mm_629)
  refine iq_dup hS 1460 J_MSquareRows_init_d1459 rfl rfl ?_
  refine iq_bipush hS 1462 J_MSquareRows_init_d1460 (v := 81) (by decide +kernel) rfl ?_
  refine iq_iconst hS 1463 J_MSquareRows_init_d1462 (v := 1) (by decide +kernel) rfl ?_
  refine iq_iastore hS 1464 J_MSquareRows_init_d1463 ⟨by decide, rfl, by decide +kernel, by decide +kernel⟩ rfl ?_
  change ia _ _ _ _ (_, _, _, mm_630)
  refine iq_dup hS 1465 J_MSquareRows_init_d1464 rfl rfl ?_
  refine iq_bipush hS 1467 J_MSquareRows_init_d1465 (v := 82) (by decide +kernel) rfl ?_
  refine iq_iconst hS 1468 J_MSquareRows_init_d1467 (v := 2) (by decide +kernel) rfl ?_
  refine iq_iastore hS 1469 J_MSquareRows_init_d1468 ⟨by decide, rfl, by decide +kernel, by decide +kernel⟩ rfl ?_
  change ia _ _ _ _ (_, _, _, mm_631)
  refine iq_dup hS 1470 J_MSquareRows_init_d1469 rfl rfl ?_
  refine iq_bipush hS 1472 J_MSquareRows_init_d1470 (v := 83) (by decide +kernel) rfl ?_
  refine iq_iconst hS 1473 J_MSquareRows_init_d1472 (v := 2) (by decide +kernel) rfl ?_
  refine iq_iastore hS 1474 J_MSquareRows_init_d1473 ⟨by decide, rfl, by decide +kernel, by decide +kernel⟩ rfl ?_
  change ia _ _ _ _ (_, _, _, mm_632)
  refine iq_dup hS 1475 J_MSquareRows_init_d1474 rfl rfl ?_
  refine iq_bipush hS 1477 J_MSquareRows_init_d1475 (v := 84) (by decide +kernel) rfl ?_
  refine iq_iconst hS 1478 J_MSquareRows_init_d1477 (v := 4) (by decide +kernel) rfl ?_
  refine iq_iastore hS 1479 J_MSquareRows_init_d1478 ⟨by decide, rfl, by decide +kernel, by decide +kernel⟩ rfl ?_
  change ia _ _ _ _ (_, _, _, mm_633)
  refine iq_dup hS 1480 J_MSquareRows_init_d1479 rfl rfl ?_
  refine iq_bipush hS 1482 J_MSquareRows_init_d1480 (v := 85) (by decide +kernel) rfl ?_
  refine iq_iconst hS 1483 J_MSquareRows_init_d1482 (v := 4) (by decide +kernel) rfl ?_
  refine iq_iastore hS 1484 J_MSquareRows_init_d1483 ⟨by decide, rfl, by decide +kernel, by decide +kernel⟩ rfl ?_
  change ia _ _ _ _ (_, _, _, mm_634)
  refine iq_dup hS 1485 J_MSquareRows_init_d1484 rfl rfl ?_
  refine iq_bipush hS 1487 J_MSquareRows_init_d1485 (v := 86) (by decide +kernel) rfl ?_
  refine iq_bipush hS 1489 J_MSquareRows_init_d1487 (v := 6) (by decide +kernel) rfl ?_
  refine iq_iastore hS 1490 J_MSquareRows_init_d1489 ⟨by decide, rfl, by decide +kernel, by decide +kernel⟩ rfl ?_
  change ia _ _ _ _ (_, _, _, mm_635)
  refine iq_dup hS 1491 J_MSquareRows_init_d1490 rfl rfl ?_
  refine iq_bipush hS 1493 J_MSquareRows_init_d1491 (v := 87) (by decide +kernel) rfl ?_
  refine iq_bipush hS 1495 J_MSquareRows_init_d1493 (v := 6) (by decide +kernel) rfl ?_
  refine iq_iastore hS 1496 J_MSquareRows_init_d1495 ⟨by decide, rfl, by decide +kernel, by decide +kernel⟩ rfl ?_
  change ia _ _ _ _ (_, _, _, mm_636)
  refine iq_dup hS 1497 J_MSquareRows_init_d1496 rfl rfl ?_
  refine iq_bipush hS 1499 J_MSquareRows_init_d1497 (v := 88) (by decide +kernel) rfl ?_
  refine iq_bipush hS 1501 J_MSquareRows_init_d1499 (v := 8) (by decide +kernel) rfl ?_
  refine iq_iastore hS 1502 J_MSquareRows_init_d1501 ⟨by decide, rfl, by decide +kernel, by decide +kernel⟩ rfl ?_
  change ia _ _ _ _ (_, _, _, mm_637)
  refine iq_dup hS 1503 J_MSquareRows_init_d1502 rfl rfl ?_
  refine iq_bipush hS 1505 J_MSquareRows_init_d1503 (v := 89) (by decide +kernel) rfl ?_
  refine iq_bipush hS 1507 J_MSquareRows_init_d1505 (v := 8) (by decide +kernel) rfl ?_
  refine iq_iastore hS 1508 J_MSquareRows_init_d1507 ⟨by decide, rfl, by decide +kernel, by decide +kernel⟩ rfl ?_
  change ia _ _ _ _ (_, _, _, mm_638)
  refine iq_dup hS 1509 J_MSquareRows_init_d1508 rfl rfl ?_
  refine iq_bipush hS 1511 J_MSquareRows_init_d1509 (v := 90) (by decide +kernel) rfl ?_
  refine iq_bipush hS 1513 J_MSquareRows_init_d1511 (v := 8) (by decide +kernel) rfl ?_
  refine iq_iastore hS 1514 J_MSquareRows_init_d1513 ⟨by decide, rfl, by decide +kernel, by decide +kernel⟩ rfl ?_
  change ia _ _ _ _ (_, _, _, mm_639)
  refine iq_dup hS 1515 J_MSquareRows_init_d1514 rfl rfl ?_
  refine iq_bipush hS 1517 J_MSquareRows_init_d1515 (v := 91) (by decide +kernel) rfl ?_
  refine iq_bipush hS 1519 J_MSquareRows_init_d1517 (v := 10) (by decide +kernel) rfl ?_
  refine iq_iastore hS 1520 J_MSquareRows_init_d1519 ⟨by decide, rfl, by decide +kernel, by decide +kernel⟩ rfl ?_
  change ia _ _ _ _ (_, _, _, mm_640)
  refine iq_dup hS 1521 J_MSquareRows_init_d1520 rfl rfl ?_
  refine iq_bipush hS 1523 J_MSquareRows_init_d1521 (v := 92) (by decide +kernel) rfl ?_
  refine iq_bipush hS 1525 J_MSquareRows_init_d1523 (v := 12) (by decide +kernel) rfl ?_
  refine iq_iastore hS 1526 J_MSquareRows_init_d1525 ⟨by decide, rfl, by decide +kernel, by decide +kernel⟩ rfl ?_
  change ia _ _ _ _ (_, _, _, mm_641)
  refine iq_dup hS 1527 J_MSquareRows_init_d1526 rfl rfl ?_
  refine iq_bipush hS 1529 J_MSquareRows_init_d1527 (v := 93) (by decide +kernel) rfl ?_
  refine iq_bipush hS 1531 J_MSquareRows_init_d1529 (v := 16) (by decide +kernel) rfl ?_
  refine iq_iastore hS 1532 J_MSquareRows_init_d1531 ⟨by decide, rfl, by decide +kernel, by decide +kernel⟩ rfl ?_
  change ia _ _ _ _ (_, _, _, mm_642)
  refine iq_dup hS 1533 J_MSquareRows_init_d1532 rfl rfl ?_
  refine iq_bipush hS 1535 J_MSquareRows_init_d1533 (v := 94) (by decide +kernel) rfl ?_
  refine iq_bipush hS 1537 J_MSquareRows_init_d1535 (v := 12) (by decide +kernel) rfl ?_
  refine iq_iastore hS 1538 J_MSquareRows_init_d1537 ⟨by decide, rfl, by decide +kernel, by decide +kernel⟩ rfl ?_
  change ia _ _ _ _ (_, _, _, mm_643)
  refine iq_dup hS 1539 J_MSquareRows_init_d1538 rfl rfl ?_
  refine iq_bipush hS 1541 J_MSquareRows_init_d1539 (v := 95) (by decide +kernel) rfl ?_
  refine iq_bipush hS 1543 J_MSquareRows_init_d1541 (v := 17) (by decide +kernel) rfl ?_
  refine iq_iastore hS 1544 J_MSquareRows_init_d1543 ⟨by decide, rfl, by decide +kernel, by decide +kernel⟩ rfl ?_
  change ia _ _ _ _ (_, _, _, mm_644)
  refine iq_dup hS 1545 J_MSquareRows_init_d1544 rfl rfl ?_
  refine iq_bipush hS 1547 J_MSquareRows_init_d1545 (v := 96) (by decide +kernel) rfl ?_
  refine iq_bipush hS 1549 J_MSquareRows_init_d1547 (v := 16) (by decide +kernel) rfl ?_
  refine iq_iastore hS 1550 J_MSquareRows_init_d1549 ⟨by decide, rfl, by decide +kernel, by decide +kernel⟩ rfl ?_
  change ia _ _ _ _ (_, _, _, mm_645)
  refine iq_dup hS 1551 J_MSquareRows_init_d1550 rfl rfl ?_
  refine iq_bipush hS 1553 J_MSquareRows_init_d1551 (v := 97) (by decide +kernel) rfl ?_
  refine iq_bipush hS 1555 J_MSquareRows_init_d1553 (v := 18) (by decide +kernel) rfl ?_
  refine iq_iastore hS 1556 J_MSquareRows_init_d1555 ⟨by decide, rfl, by decide +kernel, by decide +kernel⟩ rfl ?_
  change ia _ _ _ _ (_, _, _, mm_646)
  refine iq_dup hS 1557 J_MSquareRows_init_d1556 rfl rfl ?_
  refine iq_bipush hS 1559 J_MSquareRows_init_d1557 (v := 98) (by decide +kernel) rfl ?_
  refine iq_bipush hS 1561 J_MSquareRows_init_d1559 (v := 21) (by decide +kernel) rfl ?_
  refine iq_iastore hS 1562 J_MSquareRows_init_d1561 ⟨by decide, rfl, by decide +kernel, by decide +kernel⟩ rfl ?_
  change ia _ _ _ _ (_, _, _, mm_647)
  refine iq_dup hS 1563 J_MSquareRows_init_d1562 rfl rfl ?_
  refine iq_bipush hS 1565 J_MSquareRows_init_d1563 (v := 99) (by decide +kernel) rfl ?_
  refine iq_bipush hS 1567 J_MSquareRows_init_d1565 (v := 20) (by decide +kernel) rfl ?_
  refine iq_iastore hS 1568 J_MSquareRows_init_d1567 ⟨by decide, rfl, by decide +kernel, by decide +kernel⟩ rfl ?_
  change ia _ _ _ _ (_, _, _, mm_648)
  refine iq_dup hS 1569 J_MSquareRows_init_d1568 rfl rfl ?_
  refine iq_bipush hS 1571 J_MSquareRows_init_d1569 (v := 100) (by decide +kernel) rfl ?_
  refine iq_bipush hS 1573 J_MSquareRows_init_d1571 (v := 23) (by decide +kernel) rfl ?_
  refine iq_iastore hS 1574 J_MSquareRows_init_d1573 ⟨by decide, rfl, by decide +kernel, by decide +kernel⟩ rfl ?_
  change ia _ _ _ _ (_, _, _, mm_649)
  refine iq_dup hS 1575 J_MSquareRows_init_d1574 rfl rfl ?_
  refine iq_bipush hS 1577 J_MSquareRows_init_d1575 (v := 101) (by decide +kernel) rfl ?_
  refine iq_bipush hS 1579 J_MSquareRows_init_d1577 (v := 23) (by decide +kernel) rfl ?_
  refine iq_iastore hS 1580 J_MSquareRows_init_d1579 ⟨by decide, rfl, by decide +kernel, by decide +kernel⟩ rfl ?_
  change ia _ _ _ _ (_, _, _, mm_650)
  refine iq_dup hS 1581 J_MSquareRows_init_d1580 rfl rfl ?_
  refine iq_bipush hS 1583 J_MSquareRows_init_d1581 (v := 102) (by decide +kernel) rfl ?_
  refine iq_bipush hS 1585 J_MSquareRows_init_d1583 (v := 25) (by decide +kernel) rfl ?_
  refine iq_iastore hS 1586 J_MSquareRows_init_d1585 ⟨by decide, rfl, by decide +kernel, by decide +kernel⟩ rfl ?_
  change ia _ _ _ _ (_, _, _, mm_651)
  refine iq_dup hS 1587 J_MSquareRows_init_d1586 rfl rfl ?_
  refine iq_bipush hS 1589 J_MSquareRows_init_d1587 (v := 103) (by decide +kernel) rfl ?_
  refine iq_bipush hS 1591 J_MSquareRows_init_d1589 (v := 27) (by decide +kernel) rfl ?_
  refine iq_iastore hS 1592 J_MSquareRows_init_d1591 ⟨by decide, rfl, by decide +kernel, by decide +kernel⟩ rfl ?_
  change ia _ _ _ _ (_, _, _, mm_652)
  refine iq_dup hS 1593 J_MSquareRows_init_d1592 rfl rfl ?_
  refine iq_bipush hS 1595 J_MSquareRows_init_d1593 (v := 104) (by decide +kernel) rfl ?_
  refine iq_bipush hS 1597 J_MSquareRows_init_d1595 (v := 29) (by decide +kernel) rfl ?_
  refine iq_iastore hS 1598 J_MSquareRows_init_d1597 ⟨by decide, rfl, by decide +kernel, by decide +kernel⟩ rfl ?_
  change ia _ _ _ _ (_, _, _, mm_653)
  refine iq_dup hS 1599 J_MSquareRows_init_d1598 rfl rfl ?_
  refine iq_bipush hS 1601 J_MSquareRows_init_d1599 (v := 105) (by decide +kernel) rfl ?_
  refine iq_bipush hS 1603 J_MSquareRows_init_d1601 (v := 34) (by decide +kernel) rfl ?_
  refine iq_iastore hS 1604 J_MSquareRows_init_d1603 ⟨by decide, rfl, by decide +kernel, by decide +kernel⟩ rfl ?_
  change ia _ _ _ _ (_, _, _, mm_654)
  refine iq_dup hS 1605 J_MSquareRows_init_d1604 rfl rfl ?_
  refine iq_bipush hS 1607 J_MSquareRows_init_d1605 (v := 106) (by decide +kernel) rfl ?_
  refine iq_bipush hS 1609 J_MSquareRows_init_d1607 (v := 34) (by decide +kernel) rfl ?_
  refine iq_iastore hS 1610 J_MSquareRows_init_d1609 ⟨by decide, rfl, by decide +kernel, by decide +kernel⟩ rfl ?_
  change ia _ _ _ _ (_, _, _, mm_655)
  refine iq_dup hS 1611 J_MSquareRows_init_d1610 rfl rfl ?_
  refine iq_bipush hS 1613 J_MSquareRows_init_d1611 (v := 107) (by decide +kernel) rfl ?_
  refine iq_bipush hS 1615 J_MSquareRows_init_d1613 (v := 35) (by decide +kernel) rfl ?_
  refine iq_iastore hS 1616 J_MSquareRows_init_d1615 ⟨by decide, rfl, by decide +kernel, by decide +kernel⟩ rfl ?_
  change ia _ _ _ _ (_, _, _, mm_656)
  refine iq_dup hS 1617 J_MSquareRows_init_d1616 rfl rfl ?_
  refine iq_bipush hS 1619 J_MSquareRows_init_d1617 (v := 108) (by decide +kernel) rfl ?_
  refine iq_bipush hS 1621 J_MSquareRows_init_d1619 (v := 38) (by decide +kernel) rfl ?_
  refine iq_iastore hS 1622 J_MSquareRows_init_d1621 ⟨by decide, rfl, by decide +kernel, by decide +kernel⟩ rfl ?_
  change ia _ _ _ _ (_, _, _, mm_657)
  refine iq_dup hS 1623 J_MSquareRows_init_d1622 rfl rfl ?_
  refine iq_bipush hS 1625 J_MSquareRows_init_d1623 (v := 109) (by decide +kernel) rfl ?_
  refine iq_bipush hS 1627 J_MSquareRows_init_d1625 (v := 40) (by decide +kernel) rfl ?_
  refine iq_iastore hS 1628 J_MSquareRows_init_d1627 ⟨by decide, rfl, by decide +kernel, by decide +kernel⟩ rfl ?_
  change ia _ _ _ _ (_, _, _, mm_658)
  refine iq_dup hS 1629 J_MSquareRows_init_d1628 rfl rfl ?_
  refine iq_bipush hS 1631 J_MSquareRows_init_d1629 (v := 110) (by decide +kernel) rfl ?_
  refine iq_bipush hS 1633 J_MSquareRows_init_d1631 (v := 43) (by decide +kernel) rfl ?_
  refine iq_iastore hS 1634 J_MSquareRows_init_d1633 ⟨by decide, rfl, by decide +kernel, by decide +kernel⟩ rfl ?_
  change ia _ _ _ _ (_, _, _, mm_659)
  refine iq_dup hS 1635 J_MSquareRows_init_d1634 rfl rfl ?_
  refine iq_bipush hS 1637 J_MSquareRows_init_d1635 (v := 111) (by decide +kernel) rfl ?_
  refine iq_bipush hS 1639 J_MSquareRows_init_d1637 (v := 45) (by decide +kernel) rfl ?_
  refine iq_iastore hS 1640 J_MSquareRows_init_d1639 ⟨by decide, rfl, by decide +kernel, by decide +kernel⟩ rfl ?_
  change ia _ _ _ _ (_, _, _, mm_660)
  refine iq_dup hS 1641 J_MSquareRows_init_d1640 rfl rfl ?_
  refine iq_bipush hS 1643 J_MSquareRows_init_d1641 (v := 112) (by decide +kernel) rfl ?_
  refine iq_bipush hS 1645 J_MSquareRows_init_d1643 (v := 48) (by decide +kernel) rfl ?_
  refine iq_iastore hS 1646 J_MSquareRows_init_d1645 ⟨by decide, rfl, by decide +kernel, by decide +kernel⟩ rfl ?_
  change ia _ _ _ _ (_, _, _, mm_661)
  refine iq_dup hS 1647 J_MSquareRows_init_d1646 rfl rfl ?_
  refine iq_bipush hS 1649 J_MSquareRows_init_d1647 (v := 113) (by decide +kernel) rfl ?_
  refine iq_bipush hS 1651 J_MSquareRows_init_d1649 (v := 51) (by decide +kernel) rfl ?_
  refine iq_iastore hS 1652 J_MSquareRows_init_d1651 ⟨by decide, rfl, by decide +kernel, by decide +kernel⟩ rfl ?_
  change ia _ _ _ _ (_, _, _, mm_662)
  refine iq_dup hS 1653 J_MSquareRows_init_d1652 rfl rfl ?_
  refine iq_bipush hS 1655 J_MSquareRows_init_d1653 (v := 114) (by decide +kernel) rfl ?_
  refine iq_bipush hS 1657 J_MSquareRows_init_d1655 (v := 53) (by decide +kernel) rfl ?_
  refine iq_iastore hS 1658 J_MSquareRows_init_d1657 ⟨by decide, rfl, by decide +kernel, by decide +kernel⟩ rfl ?_
  change ia _ _ _ _ (_, _, _, mm_663)
  refine iq_dup hS 1659 J_MSquareRows_init_d1658 rfl rfl ?_
  refine iq_bipush hS 1661 J_MSquareRows_init_d1659 (v := 115) (by decide +kernel) rfl ?_
  refine iq_bipush hS 1663 J_MSquareRows_init_d1661 (v := 56) (by decide +kernel) rfl ?_
  refine iq_iastore hS 1664 J_MSquareRows_init_d1663 ⟨by decide, rfl, by decide +kernel, by decide +kernel⟩ rfl ?_
  change ia _ _ _ _ (_, _, _, mm_664)
  refine iq_dup hS 1665 J_MSquareRows_init_d1664 rfl rfl ?_
  refine iq_bipush hS 1667 J_MSquareRows_init_d1665 (v := 116) (by decide +kernel) rfl ?_
  refine iq_bipush hS 1669 J_MSquareRows_init_d1667 (v := 59) (by decide +kernel) rfl ?_
  refine iq_iastore hS 1670 J_MSquareRows_init_d1669 ⟨by decide, rfl, by decide +kernel, by decide +kernel⟩ rfl ?_
  change ia _ _ _ _ (_, _, _, mm_665)
  refine iq_dup hS 1671 J_MSquareRows_init_d1670 rfl rfl ?_
  refine iq_bipush hS 1673 J_MSquareRows_init_d1671 (v := 117) (by decide +kernel) rfl ?_
  refine iq_bipush hS 1675 J_MSquareRows_init_d1673 (v := 62) (by decide +kernel) rfl ?_
  refine iq_iastore hS 1676 J_MSquareRows_init_d1675 ⟨by decide, rfl, by decide +kernel, by decide +kernel⟩ rfl ?_
  change ia _ _ _ _ (_, _, _, mm_666)
  refine iq_dup hS 1677 J_MSquareRows_init_d1676 rfl rfl ?_
  refine iq_bipush hS 1679 J_MSquareRows_init_d1677 (v := 118) (by decide +kernel) rfl ?_
  refine iq_bipush hS 1681 J_MSquareRows_init_d1679 (v := 65) (by decide +kernel) rfl ?_
  refine iq_iastore hS 1682 J_MSquareRows_init_d1681 ⟨by decide, rfl, by decide +kernel, by decide +kernel⟩ rfl ?_
  change ia _ _ _ _ (_, _, _, mm_667)
  refine iq_dup hS 1683 J_MSquareRows_init_d1682 rfl rfl ?_
  refine iq_bipush hS 1685 J_MSquareRows_init_d1683 (v := 119) (by decide +kernel) rfl ?_
  refine iq_bipush hS 1687 J_MSquareRows_init_d1685 (v := 68) (by decide +kernel) rfl ?_
  refine iq_iastore hS 1688 J_MSquareRows_init_d1687 ⟨by decide, rfl, by decide +kernel, by decide +kernel⟩ rfl ?_
  change ia _ _ _ _ (_, _, _, mm_668)
  refine iq_dup hS 1689 J_MSquareRows_init_d1688 rfl rfl ?_
  refine iq_bipush hS 1691 J_MSquareRows_init_d1689 (v := 120) (by decide +kernel) rfl ?_
  refine iq_iconst hS 1692 J_MSquareRows_init_d1691 (v := 1) (by decide +kernel) rfl ?_
  refine iq_iastore hS 1693 J_MSquareRows_init_d1692 ⟨by decide, rfl, by decide +kernel, by decide +kernel⟩ rfl ?_
  change ia _ _ _ _ (_, _, _, mm_669)
  refine iq_dup hS 1694 J_MSquareRows_init_d1693 rfl rfl ?_
  refine iq_bipush hS 1696 J_MSquareRows_init_d1694 (v := 121) (by decide +kernel) rfl ?_
  refine iq_iconst hS 1697 J_MSquareRows_init_d1696 (v := 1) (by decide +kernel) rfl ?_
  refine iq_iastore hS 1698 J_MSquareRows_init_d1697 ⟨by decide, rfl, by decide +kernel, by decide +kernel⟩ rfl ?_
  change ia _ _ _ _ (_, _, _, mm_670)
  refine iq_dup hS 1699 J_MSquareRows_init_d1698 rfl rfl ?_
  refine iq_bipush hS 1701 J_MSquareRows_init_d1699 (v := 122) (by decide +kernel) rfl ?_
  refine iq_iconst hS 1702 J_MSquareRows_init_d1701 (v := 2) (by decide +kernel) rfl ?_
  refine iq_iastore hS 1703 J_MSquareRows_init_d1702 ⟨by decide, rfl, by decide +kernel, by decide +kernel⟩ rfl ?_
  change ia _ _ _ _ (_, _, _, mm_671)
  refine iq_dup hS 1704 J_MSquareRows_init_d1703 rfl rfl ?_
  refine iq_bipush hS 1706 J_MSquareRows_init_d1704 (v := 123) (by decide +kernel) rfl ?_
  refine iq_iconst hS 1707 J_MSquareRows_init_d1706 (v := 4) (by decide +kernel) rfl ?_
  refine iq_iastore hS 1708 J_MSquareRows_init_d1707 ⟨by decide, rfl, by decide +kernel, by decide +kernel⟩ rfl ?_
  change ia _ _ _ _ (_, _, _, mm_672)
  refine iq_dup hS 1709 J_MSquareRows_init_d1708 rfl rfl ?_
  refine iq_bipush hS 1711 J_MSquareRows_init_d1709 (v := 124) (by decide +kernel) rfl ?_
  refine iq_iconst hS 1712 J_MSquareRows_init_d1711 (v := 4) (by decide +kernel) rfl ?_
  refine iq_iastore hS 1713 J_MSquareRows_init_d1712 ⟨by decide, rfl, by decide +kernel, by decide +kernel⟩ rfl ?_
  change ia _ _ _ _ (_, _, _, mm_673)
  refine iq_dup hS 1714 J_MSquareRows_init_d1713 rfl rfl ?_
  refine iq_bipush hS 1716 J_MSquareRows_init_d1714 (v := 125) (by decide +kernel) rfl ?_
  refine iq_iconst hS 1717 J_MSquareRows_init_d1716 (v := 4) (by decide +kernel) rfl ?_
  refine iq_iastore hS 1718 J_MSquareRows_init_d1717 ⟨by decide, rfl, by decide +kernel, by decide +kernel⟩ rfl ?_
  change ia _ _ _ _ (_, _, _, mm_674)
  refine iq_dup hS 1719 J_MSquareRows_init_d1718 rfl rfl ?_
  refine iq_bipush hS 1721 J_MSquareRows_init_d1719 (v := 126) (by decide +kernel) rfl ?_
  refine iq_iconst hS 1722 J_MSquareRows_init_d1721 (v := 5) (by decide +kernel) rfl ?_
  refine iq_iastore hS 1723 J_MSquareRows_init_d1722 ⟨by decide, rfl, by decide +kernel, by decide +kernel⟩ rfl ?_
  change ia _ _ _ _ (_, _, _, mm_675)
  refine iq_dup hS 1724 J_MSquareRows_init_d1723 rfl rfl ?_
  refine iq_bipush hS 1726 J_MSquareRows_init_d1724 (v := 127) (by decide +kernel) rfl ?_
  refine iq_bipush hS 1728 J_MSquareRows_init_d1726 (v := 6) (by decide +kernel) rfl ?_
  refine iq_iastore hS 1729 J_MSquareRows_init_d1728 ⟨by decide, rfl, by decide +kernel, by decide +kernel⟩ rfl ?_
  change ia _ _ _ _ (_, _, _, mm_676)
  refine iq_dup hS 1730 J_MSquareRows_init_d1729 rfl rfl ?_
  refine iq_sipush hS 1733 J_MSquareRows_init_d1730 (v := 128) (by decide +kernel) rfl ?_
  refine iq_bipush hS 1735 J_MSquareRows_init_d1733 (v := 8) (by decide +kernel) rfl ?_
  refine iq_iastore hS 1736 J_MSquareRows_init_d1735 ⟨by decide, rfl, by decide +kernel, by decide +kernel⟩ rfl ?_
  change ia _ _ _ _ (_, _, _, mm_677)
  refine iq_dup hS 1737 J_MSquareRows_init_d1736 rfl rfl ?_
  refine iq_sipush hS 1740 J_MSquareRows_init_d1737 (v := 129) (by decide +kernel) rfl ?_
  refine iq_bipush hS 1742 J_MSquareRows_init_d1740 (v := 8) (by decide +kernel) rfl ?_
  refine iq_iastore hS 1743 J_MSquareRows_init_d1742 ⟨by decide, rfl, by decide +kernel, by decide +kernel⟩ rfl ?_
  change ia _ _ _ _ (_, _, _, mm_678)
  refine iq_dup hS 1744 J_MSquareRows_init_d1743 rfl rfl ?_
  refine iq_sipush hS 1747 J_MSquareRows_init_d1744 (v := 130) (by decide +kernel) rfl ?_
  refine iq_bipush hS 1749 J_MSquareRows_init_d1747 (v := 11) (by decide +kernel) rfl ?_
  refine iq_iastore hS 1750 J_MSquareRows_init_d1749 ⟨by decide, rfl, by decide +kernel, by decide +kernel⟩ rfl ?_
  change ia _ _ _ _ (_, _, _, mm_679)
  refine iq_dup hS 1751 J_MSquareRows_init_d1750 rfl rfl ?_
  refine iq_sipush hS 1754 J_MSquareRows_init_d1751 (v := 131) (by decide +kernel) rfl ?_
  refine iq_bipush hS 1756 J_MSquareRows_init_d1754 (v := 11) (by decide +kernel) rfl ?_
  refine iq_iastore hS 1757 J_MSquareRows_init_d1756 ⟨by decide, rfl, by decide +kernel, by decide +kernel⟩ rfl ?_
  change ia _ _ _ _ (_, _, _, mm_680)
  refine iq_dup hS 1758 J_MSquareRows_init_d1757 rfl rfl ?_
  refine iq_sipush hS 1761 J_MSquareRows_init_d1758 (v := 132) (by decide +kernel) rfl ?_
  refine iq_bipush hS 1763 J_MSquareRows_init_d1761 (v := 16) (by decide +kernel) rfl ?_
  refine iq_iastore hS 1764 J_MSquareRows_init_d1763 ⟨by decide, rfl, by decide +kernel, by decide +kernel⟩ rfl ?_
  change ia _ _ _ _ (_, _, _, mm_681)
  refine iq_dup hS 1765 J_MSquareRows_init_d1764 rfl rfl ?_
  refine iq_sipush hS 1768 J_MSquareRows_init_d1765 (v := 133) (by decide +kernel) rfl ?_
  refine iq_bipush hS 1770 J_MSquareRows_init_d1768 (v := 16) (by decide +kernel) rfl ?_
  refine iq_iastore hS 1771 J_MSquareRows_init_d1770 ⟨by decide, rfl, by decide +kernel, by decide +kernel⟩ rfl ?_
  change ia _ _ _ _ (_, _, _, mm_682)
  refine iq_dup hS 1772 J_MSquareRows_init_d1771 rfl rfl ?_
  refine iq_sipush hS 1775 J_MSquareRows_init_d1772 (v := 134) (by decide +kernel) rfl ?_
  refine iq_bipush hS 1777 J_MSquareRows_init_d1775 (v := 18) (by decide +kernel) rfl ?_
  refine iq_iastore hS 1778 J_MSquareRows_init_d1777 ⟨by decide, rfl, by decide +kernel, by decide +kernel⟩ rfl ?_
  change ia _ _ _ _ (_, _, _, mm_683)
  refine iq_dup hS 1779 J_MSquareRows_init_d1778 rfl rfl ?_
  refine iq_sipush hS 1782 J_MSquareRows_init_d1779 (v := 135) (by decide +kernel) rfl ?_
  refine iq_bipush hS 1784 J_MSquareRows_init_d1782 (v := 16) (by decide +kernel) rfl ?_
  refine iq_iastore hS 1785 J_MSquareRows_init_d1784 ⟨by decide, rfl, by decide +kernel, by decide +kernel⟩ rfl ?_
  change ia _ _ _ _ (_, _, _, mm_684)
  refine iq_dup hS 1786 J_MSquareRows_init_d1785 rfl rfl ?_
  refine iq_sipush hS 1789 J_MSquareRows_init_d1786 (v := 136) (by decide +kernel) rfl ?_
  refine iq_bipush hS 1791 J_MSquareRows_init_d1789 (v := 19) (by decide +kernel) rfl ?_
  refine iq_iastore hS 1792 J_MSquareRows_init_d1791 ⟨by decide, rfl, by decide +kernel, by decide +kernel⟩ rfl ?_
  change ia _ _ _ _ (_, _, _, mm_685)
  refine iq_dup hS 1793 J_MSquareRows_init_d1792 rfl rfl ?_
  refine iq_sipush hS 1796 J_MSquareRows_init_d1793 (v := 137) (by decide +kernel) rfl ?_
  refine iq_bipush hS 1798 J_MSquareRows_init_d1796 (v := 21) (by decide +kernel) rfl ?_
  refine iq_iastore hS 1799 J_MSquareRows_init_d1798 ⟨by decide, rfl, by decide +kernel, by decide +kernel⟩ rfl ?_
  change ia _ _ _ _ (_, _, _, mm_686)
  refine iq_dup hS 1800 J_MSquareRows_init_d1799 rfl rfl ?_
  refine iq_sipush hS 1803 J_MSquareRows_init_d1800 (v := 138) (by decide +kernel) rfl ?_
  refine iq_bipush hS 1805 J_MSquareRows_init_d1803 (v := 25) (by decide +kernel) rfl ?_
  refine iq_iastore hS 1806 J_MSquareRows_init_d1805 ⟨by decide, rfl, by decide +kernel, by decide +kernel⟩ rfl ?_
  change ia _ _ _ _ (_, _, _, mm_687)
  refine iq_dup hS 1807 J_MSquareRows_init_d1806 rfl rfl ?_
  refine iq_sipush hS 1810 J_MSquareRows_init_d1807 (v := 139) (by decide +kernel) rfl ?_
  refine iq_bipush hS 1812 J_MSquareRows_init_d1810 (v := 25) (by decide +kernel) rfl ?_
  refine iq_iastore hS 1813 J_MSquareRows_init_d1812 ⟨by decide, rfl, by decide +kernel, by decide +kernel⟩ rfl ?_
  change ia _ _ _ _ (_, _, _, mm_688)
  refine iq_dup hS 1814 J_MSquareRows_init_d1813 rfl rfl ?_
  refine iq_sipush hS 1817 J_MSquareRows_init_d1814 (v := 140) (by decide +kernel) rfl ?_
  refine iq_bipush hS 1819 J_MSquareRows_init_d1817 (v := 25) (by decide +kernel) rfl ?_
  refine iq_iastore hS 1820 J_MSquareRows_init_d1819 ⟨by decide, rfl, by decide +kernel, by decide +kernel⟩ rfl ?_
  change ia _ _ _ _ (_, _, _, mm_689)
  refine iq_dup hS 1821 J_MSquareRows_init_d1820 rfl rfl ?_
  refine iq_sipush hS 1824 J_MSquareRows_init_d1821 (v := 141) (by decide +kernel) rfl ?_
  refine iq_bipush hS 1826 J_MSquareRows_init_d1824 (v := 34) (by decide +kernel) rfl ?_
  refine iq_iastore hS 1827 J_MSquareRows_init_d1826 ⟨by decide, rfl, by decide +kernel, by decide +kernel⟩ rfl ?_
  change ia _ _ _ _ (_, _, _, mm_690)
  refine iq_dup hS 1828 J_MSquareRows_init_d1827 rfl rfl ?_
  refine iq_sipush hS 1831 J_MSquareRows_init_d1828 (v := 142) (by decide +kernel) rfl ?_
  refine iq_bipush hS 1833 J_MSquareRows_init_d1831 (v := 30) (by decide +kernel) rfl ?_
  refine iq_iastore hS 1834 J_MSquareRows_init_d1833 ⟨by decide, rfl, by decide +kernel, by decide +kernel⟩ rfl ?_
  change ia _ _ _ _ (_, _, _, mm_691)
  refine iq_dup hS 1835 J_MSquareRows_init_d1834 rfl rfl ?_
  refine iq_sipush hS 1838 J_MSquareRows_init_d1835 (v := 143) (by decide +kernel) rfl ?_
  refine iq_bipush hS 1840 J_MSquareRows_init_d1838 (v := 32) (by decide +kernel) rfl ?_
  refine iq_iastore hS 1841 J_MSquareRows_init_d1840 ⟨by decide, rfl, by decide +kernel, by decide +kernel⟩ rfl ?_
  change ia _ _ _ _ (_, _, _, mm_692)
  refine iq_dup hS 1842 J_MSquareRows_init_d1841 rfl rfl ?_
  refine iq_sipush hS 1845 J_MSquareRows_init_d1842 (v := 144) (by decide +kernel) rfl ?_
  refine iq_bipush hS 1847 J_MSquareRows_init_d1845 (v := 35) (by decide +kernel) rfl ?_
  refine iq_iastore hS 1848 J_MSquareRows_init_d1847 ⟨by decide, rfl, by decide +kernel, by decide +kernel⟩ rfl ?_
  change ia _ _ _ _ (_, _, _, mm_693)
  refine iq_dup hS 1849 J_MSquareRows_init_d1848 rfl rfl ?_
  refine iq_sipush hS 1852 J_MSquareRows_init_d1849 (v := 145) (by decide +kernel) rfl ?_
  refine iq_bipush hS 1854 J_MSquareRows_init_d1852 (v := 37) (by decide +kernel) rfl ?_
  refine iq_iastore hS 1855 J_MSquareRows_init_d1854 ⟨by decide, rfl, by decide +kernel, by decide +kernel⟩ rfl ?_
  change ia _ _ _ _ (_, _, _, mm_694)
  refine iq_dup hS 1856 J_MSquareRows_init_d1855 rfl rfl ?_
  refine iq_sipush hS 1859 J_MSquareRows_init_d1856 (v := 146) (by decide +kernel) rfl ?_
  refine iq_bipush hS 1861 J_MSquareRows_init_d1859 (v := 40) (by decide +kernel) rfl ?_
  refine iq_iastore hS 1862 J_MSquareRows_init_d1861 ⟨by decide, rfl, by decide +kernel, by decide +kernel⟩ rfl ?_
  change ia _ _ _ _ (_, _, _, mm_695)
  refine iq_dup hS 1863 J_MSquareRows_init_d1862 rfl rfl ?_
  refine iq_sipush hS 1866 J_MSquareRows_init_d1863 (v := 147) (by decide +kernel) rfl ?_
  refine iq_bipush hS 1868 J_MSquareRows_init_d1866 (v := 42) (by decide +kernel) rfl ?_
  refine iq_iastore hS 1869 J_MSquareRows_init_d1868 ⟨by decide, rfl, by decide +kernel, by decide +kernel⟩ rfl ?_
  change ia _ _ _ _ (_, _, _, mm_696)
  refine iq_dup hS 1870 J_MSquareRows_init_d1869 rfl rfl ?_
  refine iq_sipush hS 1873 J_MSquareRows_init_d1870 (v := 148) (by decide +kernel) rfl ?_
  refine iq_bipush hS 1875 J_MSquareRows_init_d1873 (v := 45) (by decide +kernel) rfl ?_
  refine iq_iastore hS 1876 J_MSquareRows_init_d1875 ⟨by decide, rfl, by decide +kernel, by decide +kernel⟩ rfl ?_
  change ia _ _ _ _ (_, _, _, mm_697)
  refine iq_dup hS 1877 J_MSquareRows_init_d1876 rfl rfl ?_
  refine iq_sipush hS 1880 J_MSquareRows_init_d1877 (v := 149) (by decide +kernel) rfl ?_
  refine iq_bipush hS 1882 J_MSquareRows_init_d1880 (v := 48) (by decide +kernel) rfl ?_
  refine iq_iastore hS 1883 J_MSquareRows_init_d1882 ⟨by decide, rfl, by decide +kernel, by decide +kernel⟩ rfl ?_
  change ia _ _ _ _ (_, _, _, mm_698)
  refine iq_dup hS 1884 J_MSquareRows_init_d1883 rfl rfl ?_
  refine iq_sipush hS 1887 J_MSquareRows_init_d1884 (v := 150) (by decide +kernel) rfl ?_
  refine iq_bipush hS 1889 J_MSquareRows_init_d1887 (v := 51) (by decide +kernel) rfl ?_
  refine iq_iastore hS 1890 J_MSquareRows_init_d1889 ⟨by decide, rfl, by decide +kernel, by decide +kernel⟩ rfl ?_
  change ia _ _ _ _ (_, _, _, mm_699)
  refine iq_dup hS 1891 J_MSquareRows_init_d1890 rfl rfl ?_
  refine iq_sipush hS 1894 J_MSquareRows_init_d1891 (v := 151) (by decide +kernel) rfl ?_
  refine iq_bipush hS 1896 J_MSquareRows_init_d1894 (v := 54) (by decide +kernel) rfl ?_
  refine iq_iastore hS 1897 J_MSquareRows_init_d1896 ⟨by decide, rfl, by decide +kernel, by decide +kernel⟩ rfl ?_
  change ia _ _ _ _ (_, _, _, mm_700)
  refine iq_dup hS 1898 J_MSquareRows_init_d1897 rfl rfl ?_
  refine iq_sipush hS 1901 J_MSquareRows_init_d1898 (v := 152) (by decide +kernel) rfl ?_
  refine iq_bipush hS 1903 J_MSquareRows_init_d1901 (v := 57) (by decide +kernel) rfl ?_
  refine iq_iastore hS 1904 J_MSquareRows_init_d1903 ⟨by decide, rfl, by decide +kernel, by decide +kernel⟩ rfl ?_
  change ia _ _ _ _ (_, _, _, mm_701)
  refine iq_dup hS 1905 J_MSquareRows_init_d1904 rfl rfl ?_
  refine iq_sipush hS 1908 J_MSquareRows_init_d1905 (v := 153) (by decide +kernel) rfl ?_
  refine iq_bipush hS 1910 J_MSquareRows_init_d1908 (v := 60) (by decide +kernel) rfl ?_
  refine iq_iastore hS 1911 J_MSquareRows_init_d1910 ⟨by decide, rfl, by decide +kernel, by decide +kernel⟩ rfl ?_
  change ia _ _ _ _ (_, _, _, mm_702)
  refine iq_dup hS 1912 J_MSquareRows_init_d1911 rfl rfl ?_
  refine iq_sipush hS 1915 J_MSquareRows_init_d1912 (v := 154) (by decide +kernel) rfl ?_
  refine iq_bipush hS 1917 J_MSquareRows_init_d1915 (v := 63) (by decide +kernel) rfl ?_
  refine iq_iastore hS 1918 J_MSquareRows_init_d1917 ⟨by decide, rfl, by decide +kernel, by decide +kernel⟩ rfl ?_
  change ia _ _ _ _ (_, _, _, mm_703)
  refine iq_dup hS 1919 J_MSquareRows_init_d1918 rfl rfl ?_
  refine iq_sipush hS 1922 J_MSquareRows_init_d1919 (v := 155) (by decide +kernel) rfl ?_
  refine iq_bipush hS 1924 J_MSquareRows_init_d1922 (v := 66) (by decide +kernel) rfl ?_
  refine iq_iastore hS 1925 J_MSquareRows_init_d1924 ⟨by decide, rfl, by decide +kernel, by decide +kernel⟩ rfl ?_
  change ia _ _ _ _ (_, _, _, mm_704)
  refine iq_dup hS 1926 J_MSquareRows_init_d1925 rfl rfl ?_
  refine iq_sipush hS 1929 J_MSquareRows_init_d1926 (v := 156) (by decide +kernel) rfl ?_
  refine iq_bipush hS 1931 J_MSquareRows_init_d1929 (v := 70) (by decide +kernel) rfl ?_
  refine iq_iastore hS 1932 J_MSquareRows_init_d1931 ⟨by decide, rfl, by decide +kernel, by decide +kernel⟩ rfl ?_
  change ia _ _ _ _ (_, _, _, mm_705)
  refine iq_dup hS 1933 J_MSquareRows_init_d1932 rfl rfl ?_
  refine iq_sipush hS 1936 J_MSquareRows_init_d1933 (v := 157) (by decide +kernel) rfl ?_
  refine iq_bipush hS 1938 J_MSquareRows_init_d1936 (v := 74) (by decide +kernel) rfl ?_
  refine iq_iastore hS 1939 J_MSquareRows_init_d1938 ⟨by decide, rfl, by decide +kernel, by decide +kernel⟩ rfl ?_
  change ia _ _ _ _ (_, _, _, mm_706)
  refine iq_dup hS 1940 J_MSquareRows_init_d1939 rfl rfl ?_
  refine iq_sipush hS 1943 J_MSquareRows_init_d1940 (v := 158) (by decide +kernel) rfl ?_
  refine iq_bipush hS 1945 J_MSquareRows_init_d1943 (v := 77) (by decide +kernel) rfl ?_
  refine iq_iastore hS 1946 J_MSquareRows_init_d1945 ⟨by decide, rfl, by decide +kernel, by decide +kernel⟩ rfl ?_
  change ia _ _ _ _ (_, _, _, mm_707)
  refine iq_dup hS 1947 J_MSquareRows_init_d1946 rfl rfl ?_
  refine iq_sipush hS 1950 J_MSquareRows_init_d1947 (v := 159) (by decide +kernel) rfl ?_
  refine iq_bipush hS 1952 J_MSquareRows_init_d1950 (v := 81) (by decide +kernel) rfl ?_
  refine iq_iastore hS 1953 J_MSquareRows_init_d1952 ⟨by decide, rfl, by decide +kernel, by decide +kernel⟩ rfl ?_
  change ia _ _ _ _ (_, _, _, mm_708)
  refine iq_putR hS 1956 J_MSquareRows_init_d1953 lf_16_13 (Or.inr ⟨rfl, rfl⟩) (Or.inr ⟨_, rfl⟩) ⟨by decide, rfl⟩ rfl ?_
  change ia _ _ _ _ (_, _, _, mm_709)
  refine iq_aload_n hS 1957 J_MSquareRows_init_d1956 h0 rfl ?_
  refine iq_sipush hS 1960 J_MSquareRows_init_d1957 (v := 3000) (by decide +kernel) rfl ?_
  refine iq_newa hS 1962 J_MSquareRows_init_d1960 (N := 3000) rfl (by decide) (by decide) (by decide) (by decide) (by decide) rfl ?_
  change ia _ _ _ _ (_, _, .ref 111 :: _, mm_710)
  refine iq_putR hS 1965 J_MSquareRows_init_d1962 lf_16_16 (Or.inr ⟨rfl, rfl⟩) (Or.inr ⟨_, rfl⟩) ⟨by decide, rfl⟩ rfl ?_
  change ia _ _ _ _ (_, _, _, mm_711)
  refine iq_aload_n hS 1966 J_MSquareRows_init_d1965 h0 rfl ?_
  refine iq_sipush hS 1969 J_MSquareRows_init_d1966 (v := 31329) (by decide +kernel) rfl ?_
  refine iq_newa hS 1971 J_MSquareRows_init_d1969 (N := 31329) rfl (by decide) (by decide) (by decide) (by decide) (by decide) rfl ?_
  change ia _ _ _ _ (_, _, .ref 112 :: _, mm_712)
  refine iq_putR hS 1974 J_MSquareRows_init_d1971 lf_16_19 (Or.inr ⟨rfl, rfl⟩) (Or.inr ⟨_, rfl⟩) ⟨by decide, rfl⟩ rfl ?_
  change ia _ _ _ _ (_, _, _, mm_713)
  refine iq_aload_n hS 1975 J_MSquareRows_init_d1974 h0 rfl ?_
  refine iq_sipush hS 1978 J_MSquareRows_init_d1975 (v := 31329) (by decide +kernel) rfl ?_
  refine iq_newa hS 1980 J_MSquareRows_init_d1978 (N := 31329) rfl (by decide) (by decide) (by decide) (by decide) (by decide) rfl ?_
  change ia _ _ _ _ (_, _, .ref 113 :: _, mm_714)
  refine iq_putR hS 1983 J_MSquareRows_init_d1980 lf_16_22 (Or.inr ⟨rfl, rfl⟩) (Or.inr ⟨_, rfl⟩) ⟨by decide, rfl⟩ rfl ?_
  change ia _ _ _ _ (_, _, _, mm_715)
  refine iq_aload_n hS 1984 J_MSquareRows_init_d1983 h0 rfl ?_
  refine iq_bipush hS 1986 J_MSquareRows_init_d1984 (v := 6) (by decide +kernel) rfl ?_
  refine iq_newa hS 1988 J_MSquareRows_init_d1986 (N := 6) rfl (by decide) (by decide) (by decide) (by decide) (by decide) rfl ?_
  change ia _ _ _ _ (_, _, .ref 114 :: _, mm_716)
  refine iq_putR hS 1991 J_MSquareRows_init_d1988 lf_16_25 (Or.inr ⟨rfl, rfl⟩) (Or.inr ⟨_, rfl⟩) ⟨by decide, rfl⟩ rfl ?_
  change ia _ _ _ _ (_, _, _, mm_717)
  refine iq_aload_n hS 1992 J_MSquareRows_init_d1991 h0 rfl ?_
  refine iq_sipush hS 1995 J_MSquareRows_init_d1992 (v := 3000) (by decide +kernel) rfl ?_
  refine iq_newa hS 1997 J_MSquareRows_init_d1995 (N := 3000) rfl (by decide) (by decide) (by decide) (by decide) (by decide) rfl ?_
  change ia _ _ _ _ (_, _, .ref 115 :: _, mm_718)
  refine iq_putR hS 2000 J_MSquareRows_init_d1997 lf_16_28 (Or.inr ⟨rfl, rfl⟩) (Or.inr ⟨_, rfl⟩) ⟨by decide, rfl⟩ rfl ?_
  change ia _ _ _ _ (_, _, _, mm_719)
  refine iq_aload_n hS 2001 J_MSquareRows_init_d2000 h0 rfl ?_
  refine iq_sipush hS 2004 J_MSquareRows_init_d2001 (v := 3000) (by decide +kernel) rfl ?_
  refine iq_newa hS 2006 J_MSquareRows_init_d2004 (N := 3000) rfl (by decide) (by decide) (by decide) (by decide) (by decide) rfl ?_
  change ia _ _ _ _ (_, _, .ref 116 :: _, mm_720)
  refine iq_putR hS 2009 J_MSquareRows_init_d2006 lf_16_31 (Or.inr ⟨rfl, rfl⟩) (Or.inr ⟨_, rfl⟩) ⟨by decide, rfl⟩ rfl ?_
  change ia _ _ _ _ (_, _, _, mm_721)
  refine iq_aload_n hS 2010 J_MSquareRows_init_d2009 h0 rfl ?_
  refine iq_sipush hS 2013 J_MSquareRows_init_d2010 (v := 3000) (by decide +kernel) rfl ?_
  refine iq_newa hS 2015 J_MSquareRows_init_d2013 (N := 3000) rfl (by decide) (by decide) (by decide) (by decide) (by decide) rfl ?_
  change ia _ _ _ _ (_, _, .ref 117 :: _, mm_722)
  refine iq_putR hS 2018 J_MSquareRows_init_d2015 lf_16_34 (Or.inr ⟨rfl, rfl⟩) (Or.inr ⟨_, rfl⟩) ⟨by decide, rfl⟩ rfl ?_
  change ia _ _ _ _ (_, _, _, mm_723)
  refine iq_aload_n hS 2019 J_MSquareRows_init_d2018 h0 rfl ?_
  refine iq_sipush hS 2022 J_MSquareRows_init_d2019 (v := 18006) (by decide +kernel) rfl ?_
  refine iq_newa hS 2024 J_MSquareRows_init_d2022 (N := 18006) rfl (by decide) (by decide) (by decide) (by decide) (by decide) rfl ?_
  change ia _ _ _ _ (_, _, .ref 118 :: _, mm_724)
  refine iq_putR hS 2027 J_MSquareRows_init_d2024 lf_16_37 (Or.inr ⟨rfl, rfl⟩) (Or.inr ⟨_, rfl⟩) ⟨by decide, rfl⟩ rfl ?_
  change ia _ _ _ _ (_, _, _, mm_725)
  refine iq_aload_n hS 2028 J_MSquareRows_init_d2027 h0 rfl ?_
  refine iq_sipush hS 2031 J_MSquareRows_init_d2028 (v := 3800) (by decide +kernel) rfl ?_
  refine iq_newa hS 2033 J_MSquareRows_init_d2031 (N := 3800) rfl (by decide) (by decide) (by decide) (by decide) (by decide) rfl ?_
  change ia _ _ _ _ (_, _, .ref 119 :: _, mm_726)
  refine iq_putR hS 2036 J_MSquareRows_init_d2033 lf_16_40 (Or.inr ⟨rfl, rfl⟩) (Or.inr ⟨_, rfl⟩) ⟨by decide, rfl⟩ rfl ?_
  change ia _ _ _ _ (_, _, _, mm_727)
  refine iq_aload_n hS 2037 J_MSquareRows_init_d2036 h0 rfl ?_
  refine iq_sipush hS 2040 J_MSquareRows_init_d2037 (v := 3800) (by decide +kernel) rfl ?_
  refine iq_newa hS 2042 J_MSquareRows_init_d2040 (N := 3800) rfl (by decide) (by decide) (by decide) (by decide) (by decide) rfl ?_
  change ia _ _ _ _ (_, _, .ref 120 :: _, mm_728)
  refine iq_putR hS 2045 J_MSquareRows_init_d2042 lf_16_43 (Or.inr ⟨rfl, rfl⟩) (Or.inr ⟨_, rfl⟩) ⟨by decide, rfl⟩ rfl ?_
  change ia _ _ _ _ (_, _, _, mm_729)
  refine iq_aload_n hS 2046 J_MSquareRows_init_d2045 h0 rfl ?_
  refine iq_sipush hS 2049 J_MSquareRows_init_d2046 (v := 256) (by decide +kernel) rfl ?_
  refine iq_newa hS 2051 J_MSquareRows_init_d2049 (N := 256) rfl (by decide) (by decide) (by decide) (by decide) (by decide) rfl ?_
  change ia _ _ _ _ (_, _, .ref 121 :: _, mm_730)
  refine iq_putR hS 2054 J_MSquareRows_init_d2051 lf_16_46 (Or.inr ⟨rfl, rfl⟩) (Or.inr ⟨_, rfl⟩) ⟨by decide, rfl⟩ rfl ?_
  change ia _ _ _ _ (_, _, _, mm_731)
  refine iq_aload_n hS 2055 J_MSquareRows_init_d2054 h0 rfl ?_
  refine iq_sipush hS 2058 J_MSquareRows_init_d2055 (v := 256) (by decide +kernel) rfl ?_
  refine iq_newa hS 2060 J_MSquareRows_init_d2058 (N := 256) rfl (by decide) (by decide) (by decide) (by decide) (by decide) rfl ?_
  change ia _ _ _ _ (_, _, .ref 122 :: _, mm_732)
  refine iq_putR hS 2063 J_MSquareRows_init_d2060 lf_16_49 (Or.inr ⟨rfl, rfl⟩) (Or.inr ⟨_, rfl⟩) ⟨by decide, rfl⟩ rfl ?_
  change ia _ _ _ _ (_, _, _, mm_733)
  refine iq_aload_n hS 2064 J_MSquareRows_init_d2063 h0 rfl ?_
  refine iq_bipush hS 2066 J_MSquareRows_init_d2064 (v := 32) (by decide +kernel) rfl ?_
  refine iq_newa hS 2068 J_MSquareRows_init_d2066 (N := 32) rfl (by decide) (by decide) (by decide) (by decide) (by decide) rfl ?_
  change ia _ _ _ _ (_, _, .ref 123 :: _, mm_734)
  refine iq_putR hS 2071 J_MSquareRows_init_d2068 lf_16_52 (Or.inr ⟨rfl, rfl⟩) (Or.inr ⟨_, rfl⟩) ⟨by decide, rfl⟩ rfl ?_
  change ia _ _ _ _ (_, _, _, mm_735)
  refine iq_aload_n hS 2072 J_MSquareRows_init_d2071 h0 rfl ?_
  refine iq_sipush hS 2075 J_MSquareRows_init_d2072 (v := 272) (by decide +kernel) rfl ?_
  refine iq_newa hS 2077 J_MSquareRows_init_d2075 (N := 272) rfl (by decide) (by decide) (by decide) (by decide) (by decide) rfl ?_
  change ia _ _ _ _ (_, _, .ref 124 :: _, mm_736)
  refine iq_putR hS 2080 J_MSquareRows_init_d2077 lf_16_55 (Or.inr ⟨rfl, rfl⟩) (Or.inr ⟨_, rfl⟩) ⟨by decide, rfl⟩ rfl ?_
  change ia _ _ _ _ (_, _, _, mm_737)
  refine iq_aload_n hS 2081 J_MSquareRows_init_d2080 h0 rfl ?_
  refine iq_bipush hS 2083 J_MSquareRows_init_d2081 (v := 16) (by decide +kernel) rfl ?_
  refine iq_newa hS 2085 J_MSquareRows_init_d2083 (N := 16) rfl (by decide) (by decide) (by decide) (by decide) (by decide) rfl ?_
  change ia _ _ _ _ (_, _, .ref 125 :: _, mm_738)
  refine iq_putR hS 2088 J_MSquareRows_init_d2085 lf_16_58 (Or.inr ⟨rfl, rfl⟩) (Or.inr ⟨_, rfl⟩) ⟨by decide, rfl⟩ rfl ?_
  change ia _ _ _ _ (_, _, _, mm_739)
  refine iq_aload_n hS 2089 J_MSquareRows_init_d2088 h0 rfl ?_
  refine iq_bipush hS 2091 J_MSquareRows_init_d2089 (v := 16) (by decide +kernel) rfl ?_
  refine iq_newa hS 2093 J_MSquareRows_init_d2091 (N := 16) rfl (by decide) (by decide) (by decide) (by decide) (by decide) rfl ?_
  change ia _ _ _ _ (_, _, .ref 126 :: _, mm_740)
  refine iq_putR hS 2096 J_MSquareRows_init_d2093 lf_16_61 (Or.inr ⟨rfl, rfl⟩) (Or.inr ⟨_, rfl⟩) ⟨by decide, rfl⟩ rfl ?_
  change ia _ _ _ _ (_, _, _, mm_741)
  refine iq_aload_n hS 2097 J_MSquareRows_init_d2096 h0 rfl ?_
  refine iq_bipush hS 2099 J_MSquareRows_init_d2097 (v := 32) (by decide +kernel) rfl ?_
  refine iq_newa hS 2101 J_MSquareRows_init_d2099 (N := 32) rfl (by decide) (by decide) (by decide) (by decide) (by decide) rfl ?_
  change ia _ _ _ _ (_, _, .ref 127 :: _, mm_742)
  refine iq_putR hS 2104 J_MSquareRows_init_d2101 lf_16_64 (Or.inr ⟨rfl, rfl⟩) (Or.inr ⟨_, rfl⟩) ⟨by decide, rfl⟩ rfl ?_
  change ia _ _ _ _ (_, _, _, mm_743)
  refine iq_aload_n hS 2105 J_MSquareRows_init_d2104 h0 rfl ?_
  refine iq_sipush hS 2108 J_MSquareRows_init_d2105 (v := 3000) (by decide +kernel) rfl ?_
  refine iq_newa hS 2110 J_MSquareRows_init_d2108 (N := 3000) rfl (by decide) (by decide) (by decide) (by decide) (by decide) rfl ?_
  change ia _ _ _ _ (_, _, .ref 128 :: _, mm_744)
  refine iq_putR hS 2113 J_MSquareRows_init_d2110 lf_16_67 (Or.inr ⟨rfl, rfl⟩) (Or.inr ⟨_, rfl⟩) ⟨by decide, rfl⟩ rfl ?_
  change ia _ _ _ _ (_, _, _, mm_745)
  refine iq_aload_n hS 2114 J_MSquareRows_init_d2113 h0 rfl ?_
  refine iq_iconst hS 2115 J_MSquareRows_init_d2114 (v := 4) (by decide +kernel) rfl ?_
  refine iq_newa hS 2117 J_MSquareRows_init_d2115 (N := 4) rfl (by decide) (by decide) (by decide) (by decide) (by decide) rfl ?_
  change ia _ _ _ _ (_, _, .ref 129 :: _, mm_746)
  refine iq_putR hS 2120 J_MSquareRows_init_d2117 lf_16_70 (Or.inr ⟨rfl, rfl⟩) (Or.inr ⟨_, rfl⟩) ⟨by decide, rfl⟩ rfl ?_
  change ia _ _ _ _ (_, _, _, mm_747)
  exact iq_ret J_MSquareRows_init_d2120 rfl ⟨rfl, rfl⟩
theorem J_MPlaceRows_init_d0 : decode J_MPlaceRows_init.2.1 0 = .ok (.aload_n 0, 1) := by decide +kernel
theorem J_MPlaceRows_init_d1 : decode J_MPlaceRows_init.2.1 1 = .ok (.invokespecial 1, 3) := by decide +kernel
theorem J_MPlaceRows_init_d4 : decode J_MPlaceRows_init.2.1 4 = .ok (.aload_n 0, 1) := by decide +kernel
theorem J_MPlaceRows_init_d5 : decode J_MPlaceRows_init.2.1 5 = .ok (.bipush 64, 2) := by decide +kernel
theorem J_MPlaceRows_init_d7 : decode J_MPlaceRows_init.2.1 7 = .ok (.putfield 7, 3) := by decide +kernel
theorem J_MPlaceRows_init_d10 : decode J_MPlaceRows_init.2.1 10 = .ok (.aload_n 0, 1) := by decide +kernel
theorem J_MPlaceRows_init_d11 : decode J_MPlaceRows_init.2.1 11 = .ok (.bipush 64, 2) := by decide +kernel
theorem J_MPlaceRows_init_d13 : decode J_MPlaceRows_init.2.1 13 = .ok (.putfield 13, 3) := by decide +kernel
theorem J_MPlaceRows_init_d16 : decode J_MPlaceRows_init.2.1 16 = .ok (.aload_n 0, 1) := by decide +kernel
theorem J_MPlaceRows_init_d17 : decode J_MPlaceRows_init.2.1 17 = .ok (.ldc 16, 2) := by decide +kernel
theorem J_MPlaceRows_init_d19 : decode J_MPlaceRows_init.2.1 19 = .ok (.newarray .boolean, 2) := by decide +kernel
theorem J_MPlaceRows_init_d21 : decode J_MPlaceRows_init.2.1 21 = .ok (.putfield 17, 3) := by decide +kernel
theorem J_MPlaceRows_init_d24 : decode J_MPlaceRows_init.2.1 24 = .ok (.aload_n 0, 1) := by decide +kernel
theorem J_MPlaceRows_init_d25 : decode J_MPlaceRows_init.2.1 25 = .ok (.ldc 21, 2) := by decide +kernel
theorem J_MPlaceRows_init_d27 : decode J_MPlaceRows_init.2.1 27 = .ok (.newarray .int, 2) := by decide +kernel
theorem J_MPlaceRows_init_d29 : decode J_MPlaceRows_init.2.1 29 = .ok (.putfield 22, 3) := by decide +kernel
theorem J_MPlaceRows_init_d32 : decode J_MPlaceRows_init.2.1 32 = .ok (.aload_n 0, 1) := by decide +kernel
theorem J_MPlaceRows_init_d33 : decode J_MPlaceRows_init.2.1 33 = .ok (.sipush 2100, 3) := by decide +kernel
theorem J_MPlaceRows_init_d36 : decode J_MPlaceRows_init.2.1 36 = .ok (.newarray .int, 2) := by decide +kernel
theorem J_MPlaceRows_init_d38 : decode J_MPlaceRows_init.2.1 38 = .ok (.putfield 26, 3) := by decide +kernel
theorem J_MPlaceRows_init_d41 : decode J_MPlaceRows_init.2.1 41 = .ok (.aload_n 0, 1) := by decide +kernel
theorem J_MPlaceRows_init_d42 : decode J_MPlaceRows_init.2.1 42 = .ok (.sipush 1800, 3) := by decide +kernel
theorem J_MPlaceRows_init_d45 : decode J_MPlaceRows_init.2.1 45 = .ok (.newarray .int, 2) := by decide +kernel
theorem J_MPlaceRows_init_d47 : decode J_MPlaceRows_init.2.1 47 = .ok (.putfield 29, 3) := by decide +kernel
theorem J_MPlaceRows_init_d50 : decode J_MPlaceRows_init.2.1 50 = .ok (.aload_n 0, 1) := by decide +kernel
theorem J_MPlaceRows_init_d51 : decode J_MPlaceRows_init.2.1 51 = .ok (.sipush 1800, 3) := by decide +kernel
theorem J_MPlaceRows_init_d54 : decode J_MPlaceRows_init.2.1 54 = .ok (.newarray .int, 2) := by decide +kernel
theorem J_MPlaceRows_init_d56 : decode J_MPlaceRows_init.2.1 56 = .ok (.putfield 32, 3) := by decide +kernel
theorem J_MPlaceRows_init_d59 : decode J_MPlaceRows_init.2.1 59 = .ok (.return_, 1) := by decide +kernel
set_option maxRecDepth 20000 in
set_option maxHeartbeats 40000000 in
theorem cs_17 {L : Nat} {xs : Nat → Int32} {dep : Nat} : ia (tb_G L xs) dep J_MPlaceRows_init (fun v M1 => v = none ∧ M1 = mm_761) (0, lv_args 0 [.ref 130], [], mm_749) := by
  have hS : im_St (tb_G L xs) dep J_MPlaceRows_init (ia (tb_G L xs) dep J_MPlaceRows_init (fun v M1 => v = none ∧ M1 = mm_761)) := ia_St
  have h0 : im_lk (lv_args 0 [.ref 130]) 0 = some (.ref 130) := rfl
  refine iq_aload_n hS 1 J_MPlaceRows_init_d0 h0 rfl ?_
  refine iq_oinit hS 4 J_MPlaceRows_init_d1 (by decide +kernel) (Nat.le_of_ble_eq_true rfl) rfl ?_
  refine iq_aload_n hS 5 J_MPlaceRows_init_d4 h0 rfl ?_
  refine iq_bipush hS 7 J_MPlaceRows_init_d5 (v := 64) (by decide +kernel) rfl ?_
  refine iq_putI hS 10 J_MPlaceRows_init_d7 lf_14_7 (Or.inl rfl) rfl ⟨by decide, rfl⟩ rfl ?_
  change ia _ _ _ _ (_, _, _, mm_750)
  refine iq_aload_n hS 11 J_MPlaceRows_init_d10 h0 rfl ?_
  refine iq_bipush hS 13 J_MPlaceRows_init_d11 (v := 64) (by decide +kernel) rfl ?_
  refine iq_putI hS 16 J_MPlaceRows_init_d13 lf_14_13 (Or.inl rfl) rfl ⟨by decide, rfl⟩ rfl ?_
  change ia _ _ _ _ (_, _, _, mm_751)
  refine iq_aload_n hS 17 J_MPlaceRows_init_d16 h0 rfl ?_
  refine iq_ldc hS 19 J_MPlaceRows_init_d17 lk_14_16 rfl ?_
  refine iq_newa hS 21 J_MPlaceRows_init_d19 (N := 262144) rfl (by decide) (by decide) (by decide) (by decide) (by decide) rfl ?_
  change ia _ _ _ _ (_, _, .ref 131 :: _, mm_752)
  refine iq_putR hS 24 J_MPlaceRows_init_d21 lf_14_17 (Or.inr ⟨rfl, rfl⟩) (Or.inr ⟨_, rfl⟩) ⟨by decide, rfl⟩ rfl ?_
  change ia _ _ _ _ (_, _, _, mm_753)
  refine iq_aload_n hS 25 J_MPlaceRows_init_d24 h0 rfl ?_
  refine iq_ldc hS 27 J_MPlaceRows_init_d25 lk_14_21 rfl ?_
  refine iq_newa hS 29 J_MPlaceRows_init_d27 (N := 263169) rfl (by decide) (by decide) (by decide) (by decide) (by decide) rfl ?_
  change ia _ _ _ _ (_, _, .ref 132 :: _, mm_754)
  refine iq_putR hS 32 J_MPlaceRows_init_d29 lf_14_22 (Or.inr ⟨rfl, rfl⟩) (Or.inr ⟨_, rfl⟩) ⟨by decide, rfl⟩ rfl ?_
  change ia _ _ _ _ (_, _, _, mm_755)
  refine iq_aload_n hS 33 J_MPlaceRows_init_d32 h0 rfl ?_
  refine iq_sipush hS 36 J_MPlaceRows_init_d33 (v := 2100) (by decide +kernel) rfl ?_
  refine iq_newa hS 38 J_MPlaceRows_init_d36 (N := 2100) rfl (by decide) (by decide) (by decide) (by decide) (by decide) rfl ?_
  change ia _ _ _ _ (_, _, .ref 133 :: _, mm_756)
  refine iq_putR hS 41 J_MPlaceRows_init_d38 lf_14_26 (Or.inr ⟨rfl, rfl⟩) (Or.inr ⟨_, rfl⟩) ⟨by decide, rfl⟩ rfl ?_
  change ia _ _ _ _ (_, _, _, mm_757)
  refine iq_aload_n hS 42 J_MPlaceRows_init_d41 h0 rfl ?_
  refine iq_sipush hS 45 J_MPlaceRows_init_d42 (v := 1800) (by decide +kernel) rfl ?_
  refine iq_newa hS 47 J_MPlaceRows_init_d45 (N := 1800) rfl (by decide) (by decide) (by decide) (by decide) (by decide) rfl ?_
  change ia _ _ _ _ (_, _, .ref 134 :: _, mm_758)
  refine iq_putR hS 50 J_MPlaceRows_init_d47 lf_14_29 (Or.inr ⟨rfl, rfl⟩) (Or.inr ⟨_, rfl⟩) ⟨by decide, rfl⟩ rfl ?_
  change ia _ _ _ _ (_, _, _, mm_759)
  refine iq_aload_n hS 51 J_MPlaceRows_init_d50 h0 rfl ?_
  refine iq_sipush hS 54 J_MPlaceRows_init_d51 (v := 1800) (by decide +kernel) rfl ?_
  refine iq_newa hS 56 J_MPlaceRows_init_d54 (N := 1800) rfl (by decide) (by decide) (by decide) (by decide) (by decide) rfl ?_
  change ia _ _ _ _ (_, _, .ref 135 :: _, mm_760)
  refine iq_putR hS 59 J_MPlaceRows_init_d56 lf_14_32 (Or.inr ⟨rfl, rfl⟩) (Or.inr ⟨_, rfl⟩) ⟨by decide, rfl⟩ rfl ?_
  change ia _ _ _ _ (_, _, _, mm_761)
  exact iq_ret J_MPlaceRows_init_d59 rfl ⟨rfl, rfl⟩
theorem J_M_init_d0 : decode J_M_init.2.1 0 = .ok (.aload_n 0, 1) := by decide +kernel
theorem J_M_init_d1 : decode J_M_init.2.1 1 = .ok (.invokespecial 1, 3) := by decide +kernel
theorem J_M_init_d4 : decode J_M_init.2.1 4 = .ok (.aload_n 0, 1) := by decide +kernel
theorem J_M_init_d5 : decode J_M_init.2.1 5 = .ok (.sipush 4096, 3) := by decide +kernel
theorem J_M_init_d8 : decode J_M_init.2.1 8 = .ok (.newarray .int, 2) := by decide +kernel
theorem J_M_init_d10 : decode J_M_init.2.1 10 = .ok (.putfield 7, 3) := by decide +kernel
theorem J_M_init_d13 : decode J_M_init.2.1 13 = .ok (.aload_n 0, 1) := by decide +kernel
theorem J_M_init_d14 : decode J_M_init.2.1 14 = .ok (.new 13, 3) := by decide +kernel
theorem J_M_init_d17 : decode J_M_init.2.1 17 = .ok (.dup, 1) := by decide +kernel
theorem J_M_init_d18 : decode J_M_init.2.1 18 = .ok (.invokespecial 15, 3) := by decide +kernel
theorem J_M_init_d21 : decode J_M_init.2.1 21 = .ok (.putfield 16, 3) := by decide +kernel
theorem J_M_init_d24 : decode J_M_init.2.1 24 = .ok (.aload_n 0, 1) := by decide +kernel
theorem J_M_init_d25 : decode J_M_init.2.1 25 = .ok (.new 20, 3) := by decide +kernel
theorem J_M_init_d28 : decode J_M_init.2.1 28 = .ok (.dup, 1) := by decide +kernel
theorem J_M_init_d29 : decode J_M_init.2.1 29 = .ok (.invokespecial 22, 3) := by decide +kernel
theorem J_M_init_d32 : decode J_M_init.2.1 32 = .ok (.putfield 23, 3) := by decide +kernel
theorem J_M_init_d35 : decode J_M_init.2.1 35 = .ok (.aload_n 0, 1) := by decide +kernel
theorem J_M_init_d36 : decode J_M_init.2.1 36 = .ok (.new 27, 3) := by decide +kernel
theorem J_M_init_d39 : decode J_M_init.2.1 39 = .ok (.dup, 1) := by decide +kernel
theorem J_M_init_d40 : decode J_M_init.2.1 40 = .ok (.invokespecial 29, 3) := by decide +kernel
theorem J_M_init_d43 : decode J_M_init.2.1 43 = .ok (.putfield 30, 3) := by decide +kernel
theorem J_M_init_d46 : decode J_M_init.2.1 46 = .ok (.aload_n 0, 1) := by decide +kernel
theorem J_M_init_d47 : decode J_M_init.2.1 47 = .ok (.new 34, 3) := by decide +kernel
theorem J_M_init_d50 : decode J_M_init.2.1 50 = .ok (.dup, 1) := by decide +kernel
theorem J_M_init_d51 : decode J_M_init.2.1 51 = .ok (.invokespecial 36, 3) := by decide +kernel
theorem J_M_init_d54 : decode J_M_init.2.1 54 = .ok (.putfield 37, 3) := by decide +kernel
theorem J_M_init_d57 : decode J_M_init.2.1 57 = .ok (.aload_n 0, 1) := by decide +kernel
theorem J_M_init_d58 : decode J_M_init.2.1 58 = .ok (.new 41, 3) := by decide +kernel
theorem J_M_init_d61 : decode J_M_init.2.1 61 = .ok (.dup, 1) := by decide +kernel
theorem J_M_init_d62 : decode J_M_init.2.1 62 = .ok (.invokespecial 43, 3) := by decide +kernel
theorem J_M_init_d65 : decode J_M_init.2.1 65 = .ok (.putfield 44, 3) := by decide +kernel
theorem J_M_init_d68 : decode J_M_init.2.1 68 = .ok (.aload_n 0, 1) := by decide +kernel
theorem J_M_init_d69 : decode J_M_init.2.1 69 = .ok (.bipush 120, 2) := by decide +kernel
theorem J_M_init_d71 : decode J_M_init.2.1 71 = .ok (.newarray .int, 2) := by decide +kernel
theorem J_M_init_d73 : decode J_M_init.2.1 73 = .ok (.putfield 48, 3) := by decide +kernel
theorem J_M_init_d76 : decode J_M_init.2.1 76 = .ok (.aload_n 0, 1) := by decide +kernel
theorem J_M_init_d77 : decode J_M_init.2.1 77 = .ok (.iconst (-1), 1) := by decide +kernel
theorem J_M_init_d78 : decode J_M_init.2.1 78 = .ok (.putfield 51, 3) := by decide +kernel
theorem J_M_init_d81 : decode J_M_init.2.1 81 = .ok (.aload_n 0, 1) := by decide +kernel
theorem J_M_init_d82 : decode J_M_init.2.1 82 = .ok (.sipush 3000, 3) := by decide +kernel
theorem J_M_init_d85 : decode J_M_init.2.1 85 = .ok (.newarray .int, 2) := by decide +kernel
theorem J_M_init_d87 : decode J_M_init.2.1 87 = .ok (.putfield 55, 3) := by decide +kernel
theorem J_M_init_d90 : decode J_M_init.2.1 90 = .ok (.return_, 1) := by decide +kernel
set_option maxRecDepth 20000 in
set_option maxHeartbeats 40000000 in
theorem cs_18 {L : Nat} {xs : Nat → Int32} {dep : Nat} : ia (tb_G L xs) (dep + 1) J_M_init (fun v M1 => v = none ∧ M1 = mm_767) (0, lv_args 0 [.ref 69], [], mm_167) := by
  have hS : im_St (tb_G L xs) (dep + 1) J_M_init (ia (tb_G L xs) (dep + 1) J_M_init (fun v M1 => v = none ∧ M1 = mm_767)) := ia_St
  have h0 : im_lk (lv_args 0 [.ref 69]) 0 = some (.ref 69) := rfl
  refine iq_aload_n hS 1 J_M_init_d0 h0 rfl ?_
  refine iq_oinit hS 4 J_M_init_d1 (by decide +kernel) (Nat.le_of_ble_eq_true rfl) rfl ?_
  refine iq_aload_n hS 5 J_M_init_d4 h0 rfl ?_
  refine iq_sipush hS 8 J_M_init_d5 (v := 4096) (by decide +kernel) rfl ?_
  refine iq_newa hS 10 J_M_init_d8 (N := 4096) rfl (by decide) (by decide) (by decide) (by decide) (by decide) rfl ?_
  change ia _ _ _ _ (_, _, .ref 70 :: _, mm_168)
  refine iq_putR hS 13 J_M_init_d10 lf_17_7 (Or.inr ⟨rfl, rfl⟩) (Or.inr ⟨_, rfl⟩) ⟨by decide, rfl⟩ rfl ?_
  change ia _ _ _ _ (_, _, _, mm_169)
  refine iq_aload_n hS 14 J_M_init_d13 h0 rfl ?_
  refine iq_new 17 J_M_init_d14 ln_17_13 rfl (by decide) (by decide) rfl ?_
  change ia _ _ _ _ (_, _, .ref 71 :: _, mm_170)
  refine iq_dup hS 18 J_M_init_d17 rfl rfl ?_
  refine iq_call hS 21 J_M_init_d18 rfl (pr_inst (vs := []) lc_17_15 lT_257 rfl rfl (by decide) (by decide) rfl (Nat.le_of_ble_eq_true rfl) (Nat.le_of_ble_eq_true rfl) (fun q => absurd q (by decide))) cs_13 rfl ?_
  rintro v M1 ⟨rfl, rfl⟩
  refine iq_putR hS 24 J_M_init_d21 lf_17_16 (Or.inr ⟨rfl, rfl⟩) (Or.inl ⟨_, rfl⟩) ⟨by decide, rfl⟩ rfl ?_
  change ia _ _ _ _ (_, _, _, mm_206)
  refine iq_aload_n hS 25 J_M_init_d24 h0 rfl ?_
  refine iq_new 28 J_M_init_d25 ln_17_20 rfl (by decide) (by decide) rfl ?_
  change ia _ _ _ _ (_, _, .ref 89 :: _, mm_207)
  refine iq_dup hS 29 J_M_init_d28 rfl rfl ?_
  refine iq_call hS 32 J_M_init_d29 rfl (pr_inst (vs := []) lc_17_22 lT_258 rfl rfl (by decide) (by decide) rfl (Nat.le_of_ble_eq_true rfl) (Nat.le_of_ble_eq_true rfl) (fun q => absurd q (by decide))) cs_14 rfl ?_
  rintro v M1 ⟨rfl, rfl⟩
  refine iq_putR hS 35 J_M_init_d32 lf_17_23 (Or.inr ⟨rfl, rfl⟩) (Or.inl ⟨_, rfl⟩) ⟨by decide, rfl⟩ rfl ?_
  change ia _ _ _ _ (_, _, _, mm_234)
  refine iq_aload_n hS 36 J_M_init_d35 h0 rfl ?_
  refine iq_new 39 J_M_init_d36 ln_17_27 rfl (by decide) (by decide) rfl ?_
  change ia _ _ _ _ (_, _, .ref 96 :: _, mm_235)
  refine iq_dup hS 40 J_M_init_d39 rfl rfl ?_
  refine iq_call hS 43 J_M_init_d40 rfl (pr_inst (vs := []) lc_17_29 lT_259 rfl rfl (by decide) (by decide) rfl (Nat.le_of_ble_eq_true rfl) (Nat.le_of_ble_eq_true rfl) (fun q => absurd q (by decide))) cs_15 rfl ?_
  rintro v M1 ⟨rfl, rfl⟩
  refine iq_putR hS 46 J_M_init_d43 lf_17_30 (Or.inr ⟨rfl, rfl⟩) (Or.inl ⟨_, rfl⟩) ⟨by decide, rfl⟩ rfl ?_
  change ia _ _ _ _ (_, _, _, mm_384)
  refine iq_aload_n hS 47 J_M_init_d46 h0 rfl ?_
  refine iq_new 50 J_M_init_d47 ln_17_34 rfl (by decide) (by decide) rfl ?_
  change ia _ _ _ _ (_, _, .ref 108 :: _, mm_385)
  refine iq_dup hS 51 J_M_init_d50 rfl rfl ?_
  refine iq_call hS 54 J_M_init_d51 rfl (pr_inst (vs := []) lc_17_36 lT_260 rfl rfl (by decide) (by decide) rfl (Nat.le_of_ble_eq_true rfl) (Nat.le_of_ble_eq_true rfl) (fun q => absurd q (by decide))) cs_16 rfl ?_
  rintro v M1 ⟨rfl, rfl⟩
  refine iq_putR hS 57 J_M_init_d54 lf_17_37 (Or.inr ⟨rfl, rfl⟩) (Or.inl ⟨_, rfl⟩) ⟨by decide, rfl⟩ rfl ?_
  change ia _ _ _ _ (_, _, _, mm_748)
  refine iq_aload_n hS 58 J_M_init_d57 h0 rfl ?_
  refine iq_new 61 J_M_init_d58 ln_17_41 rfl (by decide) (by decide) rfl ?_
  change ia _ _ _ _ (_, _, .ref 130 :: _, mm_749)
  refine iq_dup hS 62 J_M_init_d61 rfl rfl ?_
  refine iq_call hS 65 J_M_init_d62 rfl (pr_inst (vs := []) lc_17_43 lT_261 rfl rfl (by decide) (by decide) rfl (Nat.le_of_ble_eq_true rfl) (Nat.le_of_ble_eq_true rfl) (fun q => absurd q (by decide))) cs_17 rfl ?_
  rintro v M1 ⟨rfl, rfl⟩
  refine iq_putR hS 68 J_M_init_d65 lf_17_44 (Or.inr ⟨rfl, rfl⟩) (Or.inl ⟨_, rfl⟩) ⟨by decide, rfl⟩ rfl ?_
  change ia _ _ _ _ (_, _, _, mm_762)
  refine iq_aload_n hS 69 J_M_init_d68 h0 rfl ?_
  refine iq_bipush hS 71 J_M_init_d69 (v := 120) (by decide +kernel) rfl ?_
  refine iq_newa hS 73 J_M_init_d71 (N := 120) rfl (by decide) (by decide) (by decide) (by decide) (by decide) rfl ?_
  change ia _ _ _ _ (_, _, .ref 136 :: _, mm_763)
  refine iq_putR hS 76 J_M_init_d73 lf_17_48 (Or.inr ⟨rfl, rfl⟩) (Or.inr ⟨_, rfl⟩) ⟨by decide, rfl⟩ rfl ?_
  change ia _ _ _ _ (_, _, _, mm_764)
  refine iq_aload_n hS 77 J_M_init_d76 h0 rfl ?_
  refine iq_iconst hS 78 J_M_init_d77 (v := (-1)) (by decide +kernel) rfl ?_
  refine iq_putI hS 81 J_M_init_d78 lf_17_51 (Or.inl rfl) rfl ⟨by decide, rfl⟩ rfl ?_
  change ia _ _ _ _ (_, _, _, mm_765)
  refine iq_aload_n hS 82 J_M_init_d81 h0 rfl ?_
  refine iq_sipush hS 85 J_M_init_d82 (v := 3000) (by decide +kernel) rfl ?_
  refine iq_newa hS 87 J_M_init_d85 (N := 3000) rfl (by decide) (by decide) (by decide) (by decide) (by decide) rfl ?_
  change ia _ _ _ _ (_, _, .ref 137 :: _, mm_766)
  refine iq_putR hS 90 J_M_init_d87 lf_17_55 (Or.inr ⟨rfl, rfl⟩) (Or.inr ⟨_, rfl⟩) ⟨by decide, rfl⟩ rfl ?_
  change ia _ _ _ _ (_, _, _, mm_767)
  exact iq_ret J_M_init_d90 rfl ⟨rfl, rfl⟩
