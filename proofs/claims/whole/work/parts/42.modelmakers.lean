/-! THE REFERENCE'S CONSTRUCTORS RUN -/
theorem J_MScriptRows_init_d0 : decode J_MScriptRows_init.2.1 0 = .ok (.aload_n 0, 1) := by decide +kernel
theorem J_MScriptRows_init_d1 : decode J_MScriptRows_init.2.1 1 = .ok (.invokespecial 1, 3) := by decide +kernel
theorem J_MScriptRows_init_d4 : decode J_MScriptRows_init.2.1 4 = .ok (.aload_n 0, 1) := by decide +kernel
theorem J_MScriptRows_init_d5 : decode J_MScriptRows_init.2.1 5 = .ok (.sipush 4096, 3) := by decide +kernel
theorem J_MScriptRows_init_d8 : decode J_MScriptRows_init.2.1 8 = .ok (.newarray .int, 2) := by decide +kernel
theorem J_MScriptRows_init_d10 : decode J_MScriptRows_init.2.1 10 = .ok (.putfield 7, 3) := by decide +kernel
theorem J_MScriptRows_init_d13 : decode J_MScriptRows_init.2.1 13 = .ok (.aload_n 0, 1) := by decide +kernel
theorem J_MScriptRows_init_d14 : decode J_MScriptRows_init.2.1 14 = .ok (.sipush 3200, 3) := by decide +kernel
theorem J_MScriptRows_init_d17 : decode J_MScriptRows_init.2.1 17 = .ok (.newarray .int, 2) := by decide +kernel
theorem J_MScriptRows_init_d19 : decode J_MScriptRows_init.2.1 19 = .ok (.putfield 13, 3) := by decide +kernel
theorem J_MScriptRows_init_d22 : decode J_MScriptRows_init.2.1 22 = .ok (.aload_n 0, 1) := by decide +kernel
theorem J_MScriptRows_init_d23 : decode J_MScriptRows_init.2.1 23 = .ok (.bipush 8, 2) := by decide +kernel
theorem J_MScriptRows_init_d25 : decode J_MScriptRows_init.2.1 25 = .ok (.newarray .int, 2) := by decide +kernel
theorem J_MScriptRows_init_d27 : decode J_MScriptRows_init.2.1 27 = .ok (.putfield 16, 3) := by decide +kernel
theorem J_MScriptRows_init_d30 : decode J_MScriptRows_init.2.1 30 = .ok (.aload_n 0, 1) := by decide +kernel
theorem J_MScriptRows_init_d31 : decode J_MScriptRows_init.2.1 31 = .ok (.sipush 2000, 3) := by decide +kernel
theorem J_MScriptRows_init_d34 : decode J_MScriptRows_init.2.1 34 = .ok (.newarray .int, 2) := by decide +kernel
theorem J_MScriptRows_init_d36 : decode J_MScriptRows_init.2.1 36 = .ok (.putfield 19, 3) := by decide +kernel
theorem J_MScriptRows_init_d39 : decode J_MScriptRows_init.2.1 39 = .ok (.aload_n 0, 1) := by decide +kernel
theorem J_MScriptRows_init_d40 : decode J_MScriptRows_init.2.1 40 = .ok (.bipush 10, 2) := by decide +kernel
theorem J_MScriptRows_init_d42 : decode J_MScriptRows_init.2.1 42 = .ok (.newarray .int, 2) := by decide +kernel
theorem J_MScriptRows_init_d44 : decode J_MScriptRows_init.2.1 44 = .ok (.putfield 22, 3) := by decide +kernel
theorem J_MScriptRows_init_d47 : decode J_MScriptRows_init.2.1 47 = .ok (.aload_n 0, 1) := by decide +kernel
theorem J_MScriptRows_init_d48 : decode J_MScriptRows_init.2.1 48 = .ok (.sipush 5800, 3) := by decide +kernel
theorem J_MScriptRows_init_d51 : decode J_MScriptRows_init.2.1 51 = .ok (.newarray .int, 2) := by decide +kernel
theorem J_MScriptRows_init_d53 : decode J_MScriptRows_init.2.1 53 = .ok (.putfield 25, 3) := by decide +kernel
theorem J_MScriptRows_init_d56 : decode J_MScriptRows_init.2.1 56 = .ok (.aload_n 0, 1) := by decide +kernel
theorem J_MScriptRows_init_d57 : decode J_MScriptRows_init.2.1 57 = .ok (.iconst (-1), 1) := by decide +kernel
theorem J_MScriptRows_init_d58 : decode J_MScriptRows_init.2.1 58 = .ok (.putfield 28, 3) := by decide +kernel
theorem J_MScriptRows_init_d61 : decode J_MScriptRows_init.2.1 61 = .ok (.aload_n 0, 1) := by decide +kernel
theorem J_MScriptRows_init_d62 : decode J_MScriptRows_init.2.1 62 = .ok (.iconst 4, 1) := by decide +kernel
theorem J_MScriptRows_init_d63 : decode J_MScriptRows_init.2.1 63 = .ok (.newarray .int, 2) := by decide +kernel
theorem J_MScriptRows_init_d65 : decode J_MScriptRows_init.2.1 65 = .ok (.putfield 32, 3) := by decide +kernel
theorem J_MScriptRows_init_d68 : decode J_MScriptRows_init.2.1 68 = .ok (.aload_n 0, 1) := by decide +kernel
theorem J_MScriptRows_init_d69 : decode J_MScriptRows_init.2.1 69 = .ok (.sipush 200, 3) := by decide +kernel
theorem J_MScriptRows_init_d72 : decode J_MScriptRows_init.2.1 72 = .ok (.newarray .int, 2) := by decide +kernel
theorem J_MScriptRows_init_d74 : decode J_MScriptRows_init.2.1 74 = .ok (.putfield 35, 3) := by decide +kernel
theorem J_MScriptRows_init_d77 : decode J_MScriptRows_init.2.1 77 = .ok (.aload_n 0, 1) := by decide +kernel
theorem J_MScriptRows_init_d78 : decode J_MScriptRows_init.2.1 78 = .ok (.iconst 4, 1) := by decide +kernel
theorem J_MScriptRows_init_d79 : decode J_MScriptRows_init.2.1 79 = .ok (.newarray .int, 2) := by decide +kernel
theorem J_MScriptRows_init_d81 : decode J_MScriptRows_init.2.1 81 = .ok (.putfield 38, 3) := by decide +kernel
theorem J_MScriptRows_init_d84 : decode J_MScriptRows_init.2.1 84 = .ok (.aload_n 0, 1) := by decide +kernel
theorem J_MScriptRows_init_d85 : decode J_MScriptRows_init.2.1 85 = .ok (.bipush 16, 2) := by decide +kernel
theorem J_MScriptRows_init_d87 : decode J_MScriptRows_init.2.1 87 = .ok (.newarray .int, 2) := by decide +kernel
theorem J_MScriptRows_init_d89 : decode J_MScriptRows_init.2.1 89 = .ok (.putfield 41, 3) := by decide +kernel
theorem J_MScriptRows_init_d92 : decode J_MScriptRows_init.2.1 92 = .ok (.aload_n 0, 1) := by decide +kernel
theorem J_MScriptRows_init_d93 : decode J_MScriptRows_init.2.1 93 = .ok (.sipush 2000, 3) := by decide +kernel
theorem J_MScriptRows_init_d96 : decode J_MScriptRows_init.2.1 96 = .ok (.newarray .int, 2) := by decide +kernel
theorem J_MScriptRows_init_d98 : decode J_MScriptRows_init.2.1 98 = .ok (.putfield 44, 3) := by decide +kernel
theorem J_MScriptRows_init_d101 : decode J_MScriptRows_init.2.1 101 = .ok (.aload_n 0, 1) := by decide +kernel
theorem J_MScriptRows_init_d102 : decode J_MScriptRows_init.2.1 102 = .ok (.sipush 200, 3) := by decide +kernel
theorem J_MScriptRows_init_d105 : decode J_MScriptRows_init.2.1 105 = .ok (.newarray .int, 2) := by decide +kernel
theorem J_MScriptRows_init_d107 : decode J_MScriptRows_init.2.1 107 = .ok (.putfield 47, 3) := by decide +kernel
theorem J_MScriptRows_init_d110 : decode J_MScriptRows_init.2.1 110 = .ok (.aload_n 0, 1) := by decide +kernel
theorem J_MScriptRows_init_d111 : decode J_MScriptRows_init.2.1 111 = .ok (.sipush 24200, 3) := by decide +kernel
theorem J_MScriptRows_init_d114 : decode J_MScriptRows_init.2.1 114 = .ok (.newarray .int, 2) := by decide +kernel
theorem J_MScriptRows_init_d116 : decode J_MScriptRows_init.2.1 116 = .ok (.putfield 50, 3) := by decide +kernel
theorem J_MScriptRows_init_d119 : decode J_MScriptRows_init.2.1 119 = .ok (.aload_n 0, 1) := by decide +kernel
theorem J_MScriptRows_init_d120 : decode J_MScriptRows_init.2.1 120 = .ok (.sipush 200, 3) := by decide +kernel
theorem J_MScriptRows_init_d123 : decode J_MScriptRows_init.2.1 123 = .ok (.newarray .int, 2) := by decide +kernel
theorem J_MScriptRows_init_d125 : decode J_MScriptRows_init.2.1 125 = .ok (.putfield 53, 3) := by decide +kernel
theorem J_MScriptRows_init_d128 : decode J_MScriptRows_init.2.1 128 = .ok (.aload_n 0, 1) := by decide +kernel
theorem J_MScriptRows_init_d129 : decode J_MScriptRows_init.2.1 129 = .ok (.bipush 48, 2) := by decide +kernel
theorem J_MScriptRows_init_d131 : decode J_MScriptRows_init.2.1 131 = .ok (.newarray .int, 2) := by decide +kernel
theorem J_MScriptRows_init_d133 : decode J_MScriptRows_init.2.1 133 = .ok (.putfield 56, 3) := by decide +kernel
theorem J_MScriptRows_init_d136 : decode J_MScriptRows_init.2.1 136 = .ok (.aload_n 0, 1) := by decide +kernel
theorem J_MScriptRows_init_d137 : decode J_MScriptRows_init.2.1 137 = .ok (.sipush 1080, 3) := by decide +kernel
theorem J_MScriptRows_init_d140 : decode J_MScriptRows_init.2.1 140 = .ok (.newarray .int, 2) := by decide +kernel
theorem J_MScriptRows_init_d142 : decode J_MScriptRows_init.2.1 142 = .ok (.putfield 59, 3) := by decide +kernel
theorem J_MScriptRows_init_d145 : decode J_MScriptRows_init.2.1 145 = .ok (.aload_n 0, 1) := by decide +kernel
theorem J_MScriptRows_init_d146 : decode J_MScriptRows_init.2.1 146 = .ok (.sipush 24000, 3) := by decide +kernel
theorem J_MScriptRows_init_d149 : decode J_MScriptRows_init.2.1 149 = .ok (.newarray .int, 2) := by decide +kernel
theorem J_MScriptRows_init_d151 : decode J_MScriptRows_init.2.1 151 = .ok (.putfield 62, 3) := by decide +kernel
theorem J_MScriptRows_init_d154 : decode J_MScriptRows_init.2.1 154 = .ok (.return_, 1) := by decide +kernel
set_option maxRecDepth 20000 in
set_option maxHeartbeats 40000000 in
theorem cs_13 {L : Nat} {xs : Nat → Int32} {dep : Nat} : ia (tb_G L xs) dep J_MScriptRows_init (fun v M1 => v = none ∧ M1 = mm_189) (0, lv_args 0 [.ref 71], [], mm_154) := by
  have hS : im_St (tb_G L xs) dep J_MScriptRows_init (ia (tb_G L xs) dep J_MScriptRows_init (fun v M1 => v = none ∧ M1 = mm_189)) := ia_St
  have h0 : im_lk (lv_args 0 [.ref 71]) 0 = some (.ref 71) := rfl
  refine iq_aload_n hS 1 J_MScriptRows_init_d0 h0 rfl ?_
  refine iq_oinit hS 4 J_MScriptRows_init_d1 lo_15_1 (Nat.le_of_ble_eq_true rfl) rfl ?_
  refine iq_aload_n hS 5 J_MScriptRows_init_d4 h0 rfl ?_
  refine iq_sipush hS 8 J_MScriptRows_init_d5 (v := 4096) (by decide +kernel) rfl ?_
  refine iq_newa hS 10 J_MScriptRows_init_d8 (N := 4096) rfl (by decide) (by decide) (by decide) (by decide) (by decide) rfl ?_
  change ia _ _ _ _ (_, _, .ref 72 :: _, mm_155)
  refine iq_putR hS 13 J_MScriptRows_init_d10 lf_15_7 (Or.inr ⟨rfl, rfl⟩) (Or.inr ⟨_, rfl⟩) ⟨by decide, rfl⟩ rfl ?_
  change ia _ _ _ _ (_, _, _, mm_156)
  refine iq_aload_n hS 14 J_MScriptRows_init_d13 h0 rfl ?_
  refine iq_sipush hS 17 J_MScriptRows_init_d14 (v := 3200) (by decide +kernel) rfl ?_
  refine iq_newa hS 19 J_MScriptRows_init_d17 (N := 3200) rfl (by decide) (by decide) (by decide) (by decide) (by decide) rfl ?_
  change ia _ _ _ _ (_, _, .ref 73 :: _, mm_157)
  refine iq_putR hS 22 J_MScriptRows_init_d19 lf_15_13 (Or.inr ⟨rfl, rfl⟩) (Or.inr ⟨_, rfl⟩) ⟨by decide, rfl⟩ rfl ?_
  change ia _ _ _ _ (_, _, _, mm_158)
  refine iq_aload_n hS 23 J_MScriptRows_init_d22 h0 rfl ?_
  refine iq_bipush hS 25 J_MScriptRows_init_d23 (v := 8) (by decide +kernel) rfl ?_
  refine iq_newa hS 27 J_MScriptRows_init_d25 (N := 8) rfl (by decide) (by decide) (by decide) (by decide) (by decide) rfl ?_
  change ia _ _ _ _ (_, _, .ref 74 :: _, mm_159)
  refine iq_putR hS 30 J_MScriptRows_init_d27 lf_15_16 (Or.inr ⟨rfl, rfl⟩) (Or.inr ⟨_, rfl⟩) ⟨by decide, rfl⟩ rfl ?_
  change ia _ _ _ _ (_, _, _, mm_160)
  refine iq_aload_n hS 31 J_MScriptRows_init_d30 h0 rfl ?_
  refine iq_sipush hS 34 J_MScriptRows_init_d31 (v := 2000) (by decide +kernel) rfl ?_
  refine iq_newa hS 36 J_MScriptRows_init_d34 (N := 2000) rfl (by decide) (by decide) (by decide) (by decide) (by decide) rfl ?_
  change ia _ _ _ _ (_, _, .ref 75 :: _, mm_161)
  refine iq_putR hS 39 J_MScriptRows_init_d36 lf_15_19 (Or.inr ⟨rfl, rfl⟩) (Or.inr ⟨_, rfl⟩) ⟨by decide, rfl⟩ rfl ?_
  change ia _ _ _ _ (_, _, _, mm_162)
  refine iq_aload_n hS 40 J_MScriptRows_init_d39 h0 rfl ?_
  refine iq_bipush hS 42 J_MScriptRows_init_d40 (v := 10) (by decide +kernel) rfl ?_
  refine iq_newa hS 44 J_MScriptRows_init_d42 (N := 10) rfl (by decide) (by decide) (by decide) (by decide) (by decide) rfl ?_
  change ia _ _ _ _ (_, _, .ref 76 :: _, mm_163)
  refine iq_putR hS 47 J_MScriptRows_init_d44 lf_15_22 (Or.inr ⟨rfl, rfl⟩) (Or.inr ⟨_, rfl⟩) ⟨by decide, rfl⟩ rfl ?_
  change ia _ _ _ _ (_, _, _, mm_164)
  refine iq_aload_n hS 48 J_MScriptRows_init_d47 h0 rfl ?_
  refine iq_sipush hS 51 J_MScriptRows_init_d48 (v := 5800) (by decide +kernel) rfl ?_
  refine iq_newa hS 53 J_MScriptRows_init_d51 (N := 5800) rfl (by decide) (by decide) (by decide) (by decide) (by decide) rfl ?_
  change ia _ _ _ _ (_, _, .ref 77 :: _, mm_165)
  refine iq_putR hS 56 J_MScriptRows_init_d53 lf_15_25 (Or.inr ⟨rfl, rfl⟩) (Or.inr ⟨_, rfl⟩) ⟨by decide, rfl⟩ rfl ?_
  change ia _ _ _ _ (_, _, _, mm_166)
  refine iq_aload_n hS 57 J_MScriptRows_init_d56 h0 rfl ?_
  refine iq_iconst hS 58 J_MScriptRows_init_d57 (v := (-1)) (by decide +kernel) rfl ?_
  refine iq_putI hS 61 J_MScriptRows_init_d58 lf_15_28 (Or.inl rfl) rfl ⟨by decide, rfl⟩ rfl ?_
  change ia _ _ _ _ (_, _, _, mm_167)
  refine iq_aload_n hS 62 J_MScriptRows_init_d61 h0 rfl ?_
  refine iq_iconst hS 63 J_MScriptRows_init_d62 (v := 4) (by decide +kernel) rfl ?_
  refine iq_newa hS 65 J_MScriptRows_init_d63 (N := 4) rfl (by decide) (by decide) (by decide) (by decide) (by decide) rfl ?_
  change ia _ _ _ _ (_, _, .ref 78 :: _, mm_168)
  refine iq_putR hS 68 J_MScriptRows_init_d65 lf_15_32 (Or.inr ⟨rfl, rfl⟩) (Or.inr ⟨_, rfl⟩) ⟨by decide, rfl⟩ rfl ?_
  change ia _ _ _ _ (_, _, _, mm_169)
  refine iq_aload_n hS 69 J_MScriptRows_init_d68 h0 rfl ?_
  refine iq_sipush hS 72 J_MScriptRows_init_d69 (v := 200) (by decide +kernel) rfl ?_
  refine iq_newa hS 74 J_MScriptRows_init_d72 (N := 200) rfl (by decide) (by decide) (by decide) (by decide) (by decide) rfl ?_
  change ia _ _ _ _ (_, _, .ref 79 :: _, mm_170)
  refine iq_putR hS 77 J_MScriptRows_init_d74 lf_15_35 (Or.inr ⟨rfl, rfl⟩) (Or.inr ⟨_, rfl⟩) ⟨by decide, rfl⟩ rfl ?_
  change ia _ _ _ _ (_, _, _, mm_171)
  refine iq_aload_n hS 78 J_MScriptRows_init_d77 h0 rfl ?_
  refine iq_iconst hS 79 J_MScriptRows_init_d78 (v := 4) (by decide +kernel) rfl ?_
  refine iq_newa hS 81 J_MScriptRows_init_d79 (N := 4) rfl (by decide) (by decide) (by decide) (by decide) (by decide) rfl ?_
  change ia _ _ _ _ (_, _, .ref 80 :: _, mm_172)
  refine iq_putR hS 84 J_MScriptRows_init_d81 lf_15_38 (Or.inr ⟨rfl, rfl⟩) (Or.inr ⟨_, rfl⟩) ⟨by decide, rfl⟩ rfl ?_
  change ia _ _ _ _ (_, _, _, mm_173)
  refine iq_aload_n hS 85 J_MScriptRows_init_d84 h0 rfl ?_
  refine iq_bipush hS 87 J_MScriptRows_init_d85 (v := 16) (by decide +kernel) rfl ?_
  refine iq_newa hS 89 J_MScriptRows_init_d87 (N := 16) rfl (by decide) (by decide) (by decide) (by decide) (by decide) rfl ?_
  change ia _ _ _ _ (_, _, .ref 81 :: _, mm_174)
  refine iq_putR hS 92 J_MScriptRows_init_d89 lf_15_41 (Or.inr ⟨rfl, rfl⟩) (Or.inr ⟨_, rfl⟩) ⟨by decide, rfl⟩ rfl ?_
  change ia _ _ _ _ (_, _, _, mm_175)
  refine iq_aload_n hS 93 J_MScriptRows_init_d92 h0 rfl ?_
  refine iq_sipush hS 96 J_MScriptRows_init_d93 (v := 2000) (by decide +kernel) rfl ?_
  refine iq_newa hS 98 J_MScriptRows_init_d96 (N := 2000) rfl (by decide) (by decide) (by decide) (by decide) (by decide) rfl ?_
  change ia _ _ _ _ (_, _, .ref 82 :: _, mm_176)
  refine iq_putR hS 101 J_MScriptRows_init_d98 lf_15_44 (Or.inr ⟨rfl, rfl⟩) (Or.inr ⟨_, rfl⟩) ⟨by decide, rfl⟩ rfl ?_
  change ia _ _ _ _ (_, _, _, mm_177)
  refine iq_aload_n hS 102 J_MScriptRows_init_d101 h0 rfl ?_
  refine iq_sipush hS 105 J_MScriptRows_init_d102 (v := 200) (by decide +kernel) rfl ?_
  refine iq_newa hS 107 J_MScriptRows_init_d105 (N := 200) rfl (by decide) (by decide) (by decide) (by decide) (by decide) rfl ?_
  change ia _ _ _ _ (_, _, .ref 83 :: _, mm_178)
  refine iq_putR hS 110 J_MScriptRows_init_d107 lf_15_47 (Or.inr ⟨rfl, rfl⟩) (Or.inr ⟨_, rfl⟩) ⟨by decide, rfl⟩ rfl ?_
  change ia _ _ _ _ (_, _, _, mm_179)
  refine iq_aload_n hS 111 J_MScriptRows_init_d110 h0 rfl ?_
  refine iq_sipush hS 114 J_MScriptRows_init_d111 (v := 24200) (by decide +kernel) rfl ?_
  refine iq_newa hS 116 J_MScriptRows_init_d114 (N := 24200) rfl (by decide) (by decide) (by decide) (by decide) (by decide) rfl ?_
  change ia _ _ _ _ (_, _, .ref 84 :: _, mm_180)
  refine iq_putR hS 119 J_MScriptRows_init_d116 lf_15_50 (Or.inr ⟨rfl, rfl⟩) (Or.inr ⟨_, rfl⟩) ⟨by decide, rfl⟩ rfl ?_
  change ia _ _ _ _ (_, _, _, mm_181)
  refine iq_aload_n hS 120 J_MScriptRows_init_d119 h0 rfl ?_
  refine iq_sipush hS 123 J_MScriptRows_init_d120 (v := 200) (by decide +kernel) rfl ?_
  refine iq_newa hS 125 J_MScriptRows_init_d123 (N := 200) rfl (by decide) (by decide) (by decide) (by decide) (by decide) rfl ?_
  change ia _ _ _ _ (_, _, .ref 85 :: _, mm_182)
  refine iq_putR hS 128 J_MScriptRows_init_d125 lf_15_53 (Or.inr ⟨rfl, rfl⟩) (Or.inr ⟨_, rfl⟩) ⟨by decide, rfl⟩ rfl ?_
  change ia _ _ _ _ (_, _, _, mm_183)
  refine iq_aload_n hS 129 J_MScriptRows_init_d128 h0 rfl ?_
  refine iq_bipush hS 131 J_MScriptRows_init_d129 (v := 48) (by decide +kernel) rfl ?_
  refine iq_newa hS 133 J_MScriptRows_init_d131 (N := 48) rfl (by decide) (by decide) (by decide) (by decide) (by decide) rfl ?_
  change ia _ _ _ _ (_, _, .ref 86 :: _, mm_184)
  refine iq_putR hS 136 J_MScriptRows_init_d133 lf_15_56 (Or.inr ⟨rfl, rfl⟩) (Or.inr ⟨_, rfl⟩) ⟨by decide, rfl⟩ rfl ?_
  change ia _ _ _ _ (_, _, _, mm_185)
  refine iq_aload_n hS 137 J_MScriptRows_init_d136 h0 rfl ?_
  refine iq_sipush hS 140 J_MScriptRows_init_d137 (v := 1080) (by decide +kernel) rfl ?_
  refine iq_newa hS 142 J_MScriptRows_init_d140 (N := 1080) rfl (by decide) (by decide) (by decide) (by decide) (by decide) rfl ?_
  change ia _ _ _ _ (_, _, .ref 87 :: _, mm_186)
  refine iq_putR hS 145 J_MScriptRows_init_d142 lf_15_59 (Or.inr ⟨rfl, rfl⟩) (Or.inr ⟨_, rfl⟩) ⟨by decide, rfl⟩ rfl ?_
  change ia _ _ _ _ (_, _, _, mm_187)
  refine iq_aload_n hS 146 J_MScriptRows_init_d145 h0 rfl ?_
  refine iq_sipush hS 149 J_MScriptRows_init_d146 (v := 24000) (by decide +kernel) rfl ?_
  refine iq_newa hS 151 J_MScriptRows_init_d149 (N := 24000) rfl (by decide) (by decide) (by decide) (by decide) (by decide) rfl ?_
  change ia _ _ _ _ (_, _, .ref 88 :: _, mm_188)
  refine iq_putR hS 154 J_MScriptRows_init_d151 lf_15_62 (Or.inr ⟨rfl, rfl⟩) (Or.inr ⟨_, rfl⟩) ⟨by decide, rfl⟩ rfl ?_
  change ia _ _ _ _ (_, _, _, mm_189)
  exact iq_ret J_MScriptRows_init_d154 rfl ⟨rfl, rfl⟩
theorem J_MDotRows_init_d0 : decode J_MDotRows_init.2.1 0 = .ok (.aload_n 0, 1) := by decide +kernel
theorem J_MDotRows_init_d1 : decode J_MDotRows_init.2.1 1 = .ok (.invokespecial 1, 3) := by decide +kernel
theorem J_MDotRows_init_d4 : decode J_MDotRows_init.2.1 4 = .ok (.aload_n 0, 1) := by decide +kernel
theorem J_MDotRows_init_d5 : decode J_MDotRows_init.2.1 5 = .ok (.bipush 64, 2) := by decide +kernel
theorem J_MDotRows_init_d7 : decode J_MDotRows_init.2.1 7 = .ok (.putfield 7, 3) := by decide +kernel
theorem J_MDotRows_init_d10 : decode J_MDotRows_init.2.1 10 = .ok (.aload_n 0, 1) := by decide +kernel
theorem J_MDotRows_init_d11 : decode J_MDotRows_init.2.1 11 = .ok (.bipush 64, 2) := by decide +kernel
theorem J_MDotRows_init_d13 : decode J_MDotRows_init.2.1 13 = .ok (.putfield 13, 3) := by decide +kernel
theorem J_MDotRows_init_d16 : decode J_MDotRows_init.2.1 16 = .ok (.aload_n 0, 1) := by decide +kernel
theorem J_MDotRows_init_d17 : decode J_MDotRows_init.2.1 17 = .ok (.ldc 16, 2) := by decide +kernel
theorem J_MDotRows_init_d19 : decode J_MDotRows_init.2.1 19 = .ok (.newarray .int, 2) := by decide +kernel
theorem J_MDotRows_init_d21 : decode J_MDotRows_init.2.1 21 = .ok (.putfield 17, 3) := by decide +kernel
theorem J_MDotRows_init_d24 : decode J_MDotRows_init.2.1 24 = .ok (.aload_n 0, 1) := by decide +kernel
theorem J_MDotRows_init_d25 : decode J_MDotRows_init.2.1 25 = .ok (.ldc 16, 2) := by decide +kernel
theorem J_MDotRows_init_d27 : decode J_MDotRows_init.2.1 27 = .ok (.newarray .int, 2) := by decide +kernel
theorem J_MDotRows_init_d29 : decode J_MDotRows_init.2.1 29 = .ok (.putfield 21, 3) := by decide +kernel
theorem J_MDotRows_init_d32 : decode J_MDotRows_init.2.1 32 = .ok (.aload_n 0, 1) := by decide +kernel
theorem J_MDotRows_init_d33 : decode J_MDotRows_init.2.1 33 = .ok (.sipush 4096, 3) := by decide +kernel
theorem J_MDotRows_init_d36 : decode J_MDotRows_init.2.1 36 = .ok (.newarray .int, 2) := by decide +kernel
theorem J_MDotRows_init_d38 : decode J_MDotRows_init.2.1 38 = .ok (.putfield 24, 3) := by decide +kernel
theorem J_MDotRows_init_d41 : decode J_MDotRows_init.2.1 41 = .ok (.aload_n 0, 1) := by decide +kernel
theorem J_MDotRows_init_d42 : decode J_MDotRows_init.2.1 42 = .ok (.bipush 12, 2) := by decide +kernel
theorem J_MDotRows_init_d44 : decode J_MDotRows_init.2.1 44 = .ok (.newarray .int, 2) := by decide +kernel
theorem J_MDotRows_init_d108 : decode J_MDotRows_init.2.1 108 = .ok (.putfield 27, 3) := by decide +kernel
theorem J_MDotRows_init_d111 : decode J_MDotRows_init.2.1 111 = .ok (.aload_n 0, 1) := by decide +kernel
theorem J_MDotRows_init_d112 : decode J_MDotRows_init.2.1 112 = .ok (.ldc 16, 2) := by decide +kernel
theorem J_MDotRows_init_d114 : decode J_MDotRows_init.2.1 114 = .ok (.newarray .int, 2) := by decide +kernel
theorem J_MDotRows_init_d116 : decode J_MDotRows_init.2.1 116 = .ok (.putfield 30, 3) := by decide +kernel
theorem J_MDotRows_init_d119 : decode J_MDotRows_init.2.1 119 = .ok (.aload_n 0, 1) := by decide +kernel
theorem J_MDotRows_init_d120 : decode J_MDotRows_init.2.1 120 = .ok (.sipush 5200, 3) := by decide +kernel
theorem J_MDotRows_init_d123 : decode J_MDotRows_init.2.1 123 = .ok (.newarray .boolean, 2) := by decide +kernel
theorem J_MDotRows_init_d125 : decode J_MDotRows_init.2.1 125 = .ok (.putfield 33, 3) := by decide +kernel
theorem J_MDotRows_init_d128 : decode J_MDotRows_init.2.1 128 = .ok (.return_, 1) := by decide +kernel
theorem iv_200_ok : ini_run J_MDotRows_init.2.1 (tb_find tb_cn 12) iv_200 46 0 = some 97 := by decide +kernel
theorem iv_201_ok : ini_run J_MDotRows_init.2.1 (tb_find tb_cn 12) iv_201 97 10 = some 108 := by decide +kernel
set_option maxRecDepth 20000 in
set_option maxHeartbeats 40000000 in
theorem cs_14 {L : Nat} {xs : Nat → Int32} {dep : Nat} : ia (tb_G L xs) dep J_MDotRows_init (fun v M1 => v = none ∧ M1 = mm_207) (0, lv_args 0 [.ref 89], [], mm_191) := by
  have hS : im_St (tb_G L xs) dep J_MDotRows_init (ia (tb_G L xs) dep J_MDotRows_init (fun v M1 => v = none ∧ M1 = mm_207)) := ia_St
  have h0 : im_lk (lv_args 0 [.ref 89]) 0 = some (.ref 89) := rfl
  refine iq_aload_n hS 1 J_MDotRows_init_d0 h0 rfl ?_
  refine iq_oinit hS 4 J_MDotRows_init_d1 lo_12_1 (Nat.le_of_ble_eq_true rfl) rfl ?_
  refine iq_aload_n hS 5 J_MDotRows_init_d4 h0 rfl ?_
  refine iq_bipush hS 7 J_MDotRows_init_d5 (v := 64) (by decide +kernel) rfl ?_
  refine iq_putI hS 10 J_MDotRows_init_d7 lf_12_7 (Or.inl rfl) rfl ⟨by decide, rfl⟩ rfl ?_
  change ia _ _ _ _ (_, _, _, mm_192)
  refine iq_aload_n hS 11 J_MDotRows_init_d10 h0 rfl ?_
  refine iq_bipush hS 13 J_MDotRows_init_d11 (v := 64) (by decide +kernel) rfl ?_
  refine iq_putI hS 16 J_MDotRows_init_d13 lf_12_13 (Or.inl rfl) rfl ⟨by decide, rfl⟩ rfl ?_
  change ia _ _ _ _ (_, _, _, mm_193)
  refine iq_aload_n hS 17 J_MDotRows_init_d16 h0 rfl ?_
  refine iq_ldc hS 19 J_MDotRows_init_d17 lk_12_16 rfl ?_
  refine iq_newa hS 21 J_MDotRows_init_d19 (N := 32768) rfl (by decide) (by decide) (by decide) (by decide) (by decide) rfl ?_
  change ia _ _ _ _ (_, _, .ref 90 :: _, mm_194)
  refine iq_putR hS 24 J_MDotRows_init_d21 lf_12_17 (Or.inr ⟨rfl, rfl⟩) (Or.inr ⟨_, rfl⟩) ⟨by decide, rfl⟩ rfl ?_
  change ia _ _ _ _ (_, _, _, mm_195)
  refine iq_aload_n hS 25 J_MDotRows_init_d24 h0 rfl ?_
  refine iq_ldc hS 27 J_MDotRows_init_d25 lk_12_16 rfl ?_
  refine iq_newa hS 29 J_MDotRows_init_d27 (N := 32768) rfl (by decide) (by decide) (by decide) (by decide) (by decide) rfl ?_
  change ia _ _ _ _ (_, _, .ref 91 :: _, mm_196)
  refine iq_putR hS 32 J_MDotRows_init_d29 lf_12_21 (Or.inr ⟨rfl, rfl⟩) (Or.inr ⟨_, rfl⟩) ⟨by decide, rfl⟩ rfl ?_
  change ia _ _ _ _ (_, _, _, mm_197)
  refine iq_aload_n hS 33 J_MDotRows_init_d32 h0 rfl ?_
  refine iq_sipush hS 36 J_MDotRows_init_d33 (v := 4096) (by decide +kernel) rfl ?_
  refine iq_newa hS 38 J_MDotRows_init_d36 (N := 4096) rfl (by decide) (by decide) (by decide) (by decide) (by decide) rfl ?_
  change ia _ _ _ _ (_, _, .ref 92 :: _, mm_198)
  refine iq_putR hS 41 J_MDotRows_init_d38 lf_12_24 (Or.inr ⟨rfl, rfl⟩) (Or.inr ⟨_, rfl⟩) ⟨by decide, rfl⟩ rfl ?_
  change ia _ _ _ _ (_, _, _, mm_199)
  refine iq_aload_n hS 42 J_MDotRows_init_d41 h0 rfl ?_
  refine iq_bipush hS 44 J_MDotRows_init_d42 (v := 12) (by decide +kernel) rfl ?_
  refine iq_newa hS 46 J_MDotRows_init_d44 (N := 12) rfl (by decide) (by decide) (by decide) (by decide) (by decide) rfl ?_
  change ia _ _ _ _ (_, _, .ref 93 :: _, mm_200)
  refine ini_sound hS iv_200 46 0 97 _ ⟨by decide, rfl⟩ (by decide +kernel) (by decide) iv_200_ok ?_
  change ia _ _ _ _ (_, _, _, mm_201)
  refine ini_sound hS iv_201 97 10 108 _ ⟨by decide, rfl⟩ (by decide +kernel) (by decide) iv_201_ok ?_
  change ia _ _ _ _ (_, _, _, mm_202)
  refine iq_putR hS 111 J_MDotRows_init_d108 lf_12_27 (Or.inr ⟨rfl, rfl⟩) (Or.inr ⟨_, rfl⟩) ⟨by decide, rfl⟩ rfl ?_
  change ia _ _ _ _ (_, _, _, mm_203)
  refine iq_aload_n hS 112 J_MDotRows_init_d111 h0 rfl ?_
  refine iq_ldc hS 114 J_MDotRows_init_d112 lk_12_16 rfl ?_
  refine iq_newa hS 116 J_MDotRows_init_d114 (N := 32768) rfl (by decide) (by decide) (by decide) (by decide) (by decide) rfl ?_
  change ia _ _ _ _ (_, _, .ref 94 :: _, mm_204)
  refine iq_putR hS 119 J_MDotRows_init_d116 lf_12_30 (Or.inr ⟨rfl, rfl⟩) (Or.inr ⟨_, rfl⟩) ⟨by decide, rfl⟩ rfl ?_
  change ia _ _ _ _ (_, _, _, mm_205)
  refine iq_aload_n hS 120 J_MDotRows_init_d119 h0 rfl ?_
  refine iq_sipush hS 123 J_MDotRows_init_d120 (v := 5200) (by decide +kernel) rfl ?_
  refine iq_newa hS 125 J_MDotRows_init_d123 (N := 5200) rfl (by decide) (by decide) (by decide) (by decide) (by decide) rfl ?_
  change ia _ _ _ _ (_, _, .ref 95 :: _, mm_206)
  refine iq_putR hS 128 J_MDotRows_init_d125 lf_12_33 (Or.inr ⟨rfl, rfl⟩) (Or.inr ⟨_, rfl⟩) ⟨by decide, rfl⟩ rfl ?_
  change ia _ _ _ _ (_, _, _, mm_207)
  exact iq_ret J_MDotRows_init_d128 rfl ⟨rfl, rfl⟩
theorem J_MLineRows_init_d0 : decode J_MLineRows_init.2.1 0 = .ok (.aload_n 0, 1) := by decide +kernel
theorem J_MLineRows_init_d1 : decode J_MLineRows_init.2.1 1 = .ok (.invokespecial 1, 3) := by decide +kernel
theorem J_MLineRows_init_d4 : decode J_MLineRows_init.2.1 4 = .ok (.aload_n 0, 1) := by decide +kernel
theorem J_MLineRows_init_d5 : decode J_MLineRows_init.2.1 5 = .ok (.bipush 106, 2) := by decide +kernel
theorem J_MLineRows_init_d7 : decode J_MLineRows_init.2.1 7 = .ok (.newarray .int, 2) := by decide +kernel
theorem J_MLineRows_init_d639 : decode J_MLineRows_init.2.1 639 = .ok (.putfield 113, 3) := by decide +kernel
theorem J_MLineRows_init_d642 : decode J_MLineRows_init.2.1 642 = .ok (.aload_n 0, 1) := by decide +kernel
theorem J_MLineRows_init_d643 : decode J_MLineRows_init.2.1 643 = .ok (.bipush 10, 2) := by decide +kernel
theorem J_MLineRows_init_d645 : decode J_MLineRows_init.2.1 645 = .ok (.newarray .int, 2) := by decide +kernel
theorem J_MLineRows_init_d711 : decode J_MLineRows_init.2.1 711 = .ok (.putfield 119, 3) := by decide +kernel
theorem J_MLineRows_init_d714 : decode J_MLineRows_init.2.1 714 = .ok (.aload_n 0, 1) := by decide +kernel
theorem J_MLineRows_init_d715 : decode J_MLineRows_init.2.1 715 = .ok (.bipush 10, 2) := by decide +kernel
theorem J_MLineRows_init_d717 : decode J_MLineRows_init.2.1 717 = .ok (.newarray .int, 2) := by decide +kernel
theorem J_MLineRows_init_d772 : decode J_MLineRows_init.2.1 772 = .ok (.putfield 122, 3) := by decide +kernel
theorem J_MLineRows_init_d775 : decode J_MLineRows_init.2.1 775 = .ok (.aload_n 0, 1) := by decide +kernel
theorem J_MLineRows_init_d776 : decode J_MLineRows_init.2.1 776 = .ok (.bipush 64, 2) := by decide +kernel
theorem J_MLineRows_init_d778 : decode J_MLineRows_init.2.1 778 = .ok (.newarray .int, 2) := by decide +kernel
theorem J_MLineRows_init_d780 : decode J_MLineRows_init.2.1 780 = .ok (.putfield 125, 3) := by decide +kernel
theorem J_MLineRows_init_d783 : decode J_MLineRows_init.2.1 783 = .ok (.aload_n 0, 1) := by decide +kernel
theorem J_MLineRows_init_d784 : decode J_MLineRows_init.2.1 784 = .ok (.sipush 198, 3) := by decide +kernel
theorem J_MLineRows_init_d787 : decode J_MLineRows_init.2.1 787 = .ok (.newarray .int, 2) := by decide +kernel
theorem J_MLineRows_init_d789 : decode J_MLineRows_init.2.1 789 = .ok (.putfield 128, 3) := by decide +kernel
theorem J_MLineRows_init_d792 : decode J_MLineRows_init.2.1 792 = .ok (.aload_n 0, 1) := by decide +kernel
theorem J_MLineRows_init_d793 : decode J_MLineRows_init.2.1 793 = .ok (.sipush 200, 3) := by decide +kernel
theorem J_MLineRows_init_d796 : decode J_MLineRows_init.2.1 796 = .ok (.newarray .int, 2) := by decide +kernel
theorem J_MLineRows_init_d798 : decode J_MLineRows_init.2.1 798 = .ok (.putfield 131, 3) := by decide +kernel
theorem J_MLineRows_init_d801 : decode J_MLineRows_init.2.1 801 = .ok (.aload_n 0, 1) := by decide +kernel
theorem J_MLineRows_init_d802 : decode J_MLineRows_init.2.1 802 = .ok (.sipush 800, 3) := by decide +kernel
theorem J_MLineRows_init_d805 : decode J_MLineRows_init.2.1 805 = .ok (.newarray .int, 2) := by decide +kernel
theorem J_MLineRows_init_d807 : decode J_MLineRows_init.2.1 807 = .ok (.putfield 134, 3) := by decide +kernel
theorem J_MLineRows_init_d810 : decode J_MLineRows_init.2.1 810 = .ok (.aload_n 0, 1) := by decide +kernel
theorem J_MLineRows_init_d811 : decode J_MLineRows_init.2.1 811 = .ok (.sipush 800, 3) := by decide +kernel
theorem J_MLineRows_init_d814 : decode J_MLineRows_init.2.1 814 = .ok (.newarray .int, 2) := by decide +kernel
theorem J_MLineRows_init_d816 : decode J_MLineRows_init.2.1 816 = .ok (.putfield 137, 3) := by decide +kernel
theorem J_MLineRows_init_d819 : decode J_MLineRows_init.2.1 819 = .ok (.aload_n 0, 1) := by decide +kernel
theorem J_MLineRows_init_d820 : decode J_MLineRows_init.2.1 820 = .ok (.sipush 140, 3) := by decide +kernel
theorem J_MLineRows_init_d823 : decode J_MLineRows_init.2.1 823 = .ok (.newarray .int, 2) := by decide +kernel
theorem J_MLineRows_init_d825 : decode J_MLineRows_init.2.1 825 = .ok (.putfield 140, 3) := by decide +kernel
theorem J_MLineRows_init_d828 : decode J_MLineRows_init.2.1 828 = .ok (.aload_n 0, 1) := by decide +kernel
theorem J_MLineRows_init_d829 : decode J_MLineRows_init.2.1 829 = .ok (.sipush 300, 3) := by decide +kernel
theorem J_MLineRows_init_d832 : decode J_MLineRows_init.2.1 832 = .ok (.newarray .int, 2) := by decide +kernel
theorem J_MLineRows_init_d834 : decode J_MLineRows_init.2.1 834 = .ok (.putfield 143, 3) := by decide +kernel
theorem J_MLineRows_init_d837 : decode J_MLineRows_init.2.1 837 = .ok (.aload_n 0, 1) := by decide +kernel
theorem J_MLineRows_init_d838 : decode J_MLineRows_init.2.1 838 = .ok (.sipush 300, 3) := by decide +kernel
theorem J_MLineRows_init_d841 : decode J_MLineRows_init.2.1 841 = .ok (.newarray .int, 2) := by decide +kernel
theorem J_MLineRows_init_d843 : decode J_MLineRows_init.2.1 843 = .ok (.putfield 146, 3) := by decide +kernel
theorem J_MLineRows_init_d846 : decode J_MLineRows_init.2.1 846 = .ok (.return_, 1) := by decide +kernel
theorem iv_210_ok : ini_run J_MLineRows_init.2.1 (tb_find tb_cn 13) iv_210 9 0 = some 63 := by decide +kernel
theorem iv_211_ok : ini_run J_MLineRows_init.2.1 (tb_find tb_cn 13) iv_211 63 10 = some 123 := by decide +kernel
theorem iv_212_ok : ini_run J_MLineRows_init.2.1 (tb_find tb_cn 13) iv_212 123 20 = some 183 := by decide +kernel
theorem iv_213_ok : ini_run J_MLineRows_init.2.1 (tb_find tb_cn 13) iv_213 183 30 = some 243 := by decide +kernel
theorem iv_214_ok : ini_run J_MLineRows_init.2.1 (tb_find tb_cn 13) iv_214 243 40 = some 303 := by decide +kernel
theorem iv_215_ok : ini_run J_MLineRows_init.2.1 (tb_find tb_cn 13) iv_215 303 50 = some 363 := by decide +kernel
theorem iv_216_ok : ini_run J_MLineRows_init.2.1 (tb_find tb_cn 13) iv_216 363 60 = some 423 := by decide +kernel
theorem iv_217_ok : ini_run J_MLineRows_init.2.1 (tb_find tb_cn 13) iv_217 423 70 = some 483 := by decide +kernel
theorem iv_218_ok : ini_run J_MLineRows_init.2.1 (tb_find tb_cn 13) iv_218 483 80 = some 543 := by decide +kernel
theorem iv_219_ok : ini_run J_MLineRows_init.2.1 (tb_find tb_cn 13) iv_219 543 90 = some 603 := by decide +kernel
theorem iv_220_ok : ini_run J_MLineRows_init.2.1 (tb_find tb_cn 13) iv_220 603 100 = some 639 := by decide +kernel
theorem iv_223_ok : ini_run J_MLineRows_init.2.1 (tb_find tb_cn 13) iv_223 647 0 = some 711 := by decide +kernel
theorem iv_226_ok : ini_run J_MLineRows_init.2.1 (tb_find tb_cn 13) iv_226 719 0 = some 772 := by decide +kernel
set_option maxRecDepth 20000 in
set_option maxHeartbeats 40000000 in
theorem cs_15 {L : Nat} {xs : Nat → Int32} {dep : Nat} : ia (tb_G L xs) dep J_MLineRows_init (fun v M1 => v = none ∧ M1 = mm_244) (0, lv_args 0 [.ref 96], [], mm_209) := by
  have hS : im_St (tb_G L xs) dep J_MLineRows_init (ia (tb_G L xs) dep J_MLineRows_init (fun v M1 => v = none ∧ M1 = mm_244)) := ia_St
  have h0 : im_lk (lv_args 0 [.ref 96]) 0 = some (.ref 96) := rfl
  refine iq_aload_n hS 1 J_MLineRows_init_d0 h0 rfl ?_
  refine iq_oinit hS 4 J_MLineRows_init_d1 lo_13_1 (Nat.le_of_ble_eq_true rfl) rfl ?_
  refine iq_aload_n hS 5 J_MLineRows_init_d4 h0 rfl ?_
  refine iq_bipush hS 7 J_MLineRows_init_d5 (v := 106) (by decide +kernel) rfl ?_
  refine iq_newa hS 9 J_MLineRows_init_d7 (N := 106) rfl (by decide) (by decide) (by decide) (by decide) (by decide) rfl ?_
  change ia _ _ _ _ (_, _, .ref 97 :: _, mm_210)
  refine ini_sound hS iv_210 9 0 63 _ ⟨by decide, rfl⟩ (by decide +kernel) (by decide) iv_210_ok ?_
  change ia _ _ _ _ (_, _, _, mm_211)
  refine ini_sound hS iv_211 63 10 123 _ ⟨by decide, rfl⟩ (by decide +kernel) (by decide) iv_211_ok ?_
  change ia _ _ _ _ (_, _, _, mm_212)
  refine ini_sound hS iv_212 123 20 183 _ ⟨by decide, rfl⟩ (by decide +kernel) (by decide) iv_212_ok ?_
  change ia _ _ _ _ (_, _, _, mm_213)
  refine ini_sound hS iv_213 183 30 243 _ ⟨by decide, rfl⟩ (by decide +kernel) (by decide) iv_213_ok ?_
  change ia _ _ _ _ (_, _, _, mm_214)
  refine ini_sound hS iv_214 243 40 303 _ ⟨by decide, rfl⟩ (by decide +kernel) (by decide) iv_214_ok ?_
  change ia _ _ _ _ (_, _, _, mm_215)
  refine ini_sound hS iv_215 303 50 363 _ ⟨by decide, rfl⟩ (by decide +kernel) (by decide) iv_215_ok ?_
  change ia _ _ _ _ (_, _, _, mm_216)
  refine ini_sound hS iv_216 363 60 423 _ ⟨by decide, rfl⟩ (by decide +kernel) (by decide) iv_216_ok ?_
  change ia _ _ _ _ (_, _, _, mm_217)
  refine ini_sound hS iv_217 423 70 483 _ ⟨by decide, rfl⟩ (by decide +kernel) (by decide) iv_217_ok ?_
  change ia _ _ _ _ (_, _, _, mm_218)
  refine ini_sound hS iv_218 483 80 543 _ ⟨by decide, rfl⟩ (by decide +kernel) (by decide) iv_218_ok ?_
  change ia _ _ _ _ (_, _, _, mm_219)
  refine ini_sound hS iv_219 543 90 603 _ ⟨by decide, rfl⟩ (by decide +kernel) (by decide) iv_219_ok ?_
  change ia _ _ _ _ (_, _, _, mm_220)
  refine ini_sound hS iv_220 603 100 639 _ ⟨by decide, rfl⟩ (by decide +kernel) (by decide) iv_220_ok ?_
  change ia _ _ _ _ (_, _, _, mm_221)
  refine iq_putR hS 642 J_MLineRows_init_d639 lf_13_113 (Or.inr ⟨rfl, rfl⟩) (Or.inr ⟨_, rfl⟩) ⟨by decide, rfl⟩ rfl ?_
  change ia _ _ _ _ (_, _, _, mm_222)
  refine iq_aload_n hS 643 J_MLineRows_init_d642 h0 rfl ?_
  refine iq_bipush hS 645 J_MLineRows_init_d643 (v := 10) (by decide +kernel) rfl ?_
  refine iq_newa hS 647 J_MLineRows_init_d645 (N := 10) rfl (by decide) (by decide) (by decide) (by decide) (by decide) rfl ?_
  change ia _ _ _ _ (_, _, .ref 98 :: _, mm_223)
  refine ini_sound hS iv_223 647 0 711 _ ⟨by decide, rfl⟩ (by decide +kernel) (by decide) iv_223_ok ?_
  change ia _ _ _ _ (_, _, _, mm_224)
  refine iq_putR hS 714 J_MLineRows_init_d711 lf_13_119 (Or.inr ⟨rfl, rfl⟩) (Or.inr ⟨_, rfl⟩) ⟨by decide, rfl⟩ rfl ?_
  change ia _ _ _ _ (_, _, _, mm_225)
  refine iq_aload_n hS 715 J_MLineRows_init_d714 h0 rfl ?_
  refine iq_bipush hS 717 J_MLineRows_init_d715 (v := 10) (by decide +kernel) rfl ?_
  refine iq_newa hS 719 J_MLineRows_init_d717 (N := 10) rfl (by decide) (by decide) (by decide) (by decide) (by decide) rfl ?_
  change ia _ _ _ _ (_, _, .ref 99 :: _, mm_226)
  refine ini_sound hS iv_226 719 0 772 _ ⟨by decide, rfl⟩ (by decide +kernel) (by decide) iv_226_ok ?_
  change ia _ _ _ _ (_, _, _, mm_227)
  refine iq_putR hS 775 J_MLineRows_init_d772 lf_13_122 (Or.inr ⟨rfl, rfl⟩) (Or.inr ⟨_, rfl⟩) ⟨by decide, rfl⟩ rfl ?_
  change ia _ _ _ _ (_, _, _, mm_228)
  refine iq_aload_n hS 776 J_MLineRows_init_d775 h0 rfl ?_
  refine iq_bipush hS 778 J_MLineRows_init_d776 (v := 64) (by decide +kernel) rfl ?_
  refine iq_newa hS 780 J_MLineRows_init_d778 (N := 64) rfl (by decide) (by decide) (by decide) (by decide) (by decide) rfl ?_
  change ia _ _ _ _ (_, _, .ref 100 :: _, mm_229)
  refine iq_putR hS 783 J_MLineRows_init_d780 lf_13_125 (Or.inr ⟨rfl, rfl⟩) (Or.inr ⟨_, rfl⟩) ⟨by decide, rfl⟩ rfl ?_
  change ia _ _ _ _ (_, _, _, mm_230)
  refine iq_aload_n hS 784 J_MLineRows_init_d783 h0 rfl ?_
  refine iq_sipush hS 787 J_MLineRows_init_d784 (v := 198) (by decide +kernel) rfl ?_
  refine iq_newa hS 789 J_MLineRows_init_d787 (N := 198) rfl (by decide) (by decide) (by decide) (by decide) (by decide) rfl ?_
  change ia _ _ _ _ (_, _, .ref 101 :: _, mm_231)
  refine iq_putR hS 792 J_MLineRows_init_d789 lf_13_128 (Or.inr ⟨rfl, rfl⟩) (Or.inr ⟨_, rfl⟩) ⟨by decide, rfl⟩ rfl ?_
  change ia _ _ _ _ (_, _, _, mm_232)
  refine iq_aload_n hS 793 J_MLineRows_init_d792 h0 rfl ?_
  refine iq_sipush hS 796 J_MLineRows_init_d793 (v := 200) (by decide +kernel) rfl ?_
  refine iq_newa hS 798 J_MLineRows_init_d796 (N := 200) rfl (by decide) (by decide) (by decide) (by decide) (by decide) rfl ?_
  change ia _ _ _ _ (_, _, .ref 102 :: _, mm_233)
  refine iq_putR hS 801 J_MLineRows_init_d798 lf_13_131 (Or.inr ⟨rfl, rfl⟩) (Or.inr ⟨_, rfl⟩) ⟨by decide, rfl⟩ rfl ?_
  change ia _ _ _ _ (_, _, _, mm_234)
  refine iq_aload_n hS 802 J_MLineRows_init_d801 h0 rfl ?_
  refine iq_sipush hS 805 J_MLineRows_init_d802 (v := 800) (by decide +kernel) rfl ?_
  refine iq_newa hS 807 J_MLineRows_init_d805 (N := 800) rfl (by decide) (by decide) (by decide) (by decide) (by decide) rfl ?_
  change ia _ _ _ _ (_, _, .ref 103 :: _, mm_235)
  refine iq_putR hS 810 J_MLineRows_init_d807 lf_13_134 (Or.inr ⟨rfl, rfl⟩) (Or.inr ⟨_, rfl⟩) ⟨by decide, rfl⟩ rfl ?_
  change ia _ _ _ _ (_, _, _, mm_236)
  refine iq_aload_n hS 811 J_MLineRows_init_d810 h0 rfl ?_
  refine iq_sipush hS 814 J_MLineRows_init_d811 (v := 800) (by decide +kernel) rfl ?_
  refine iq_newa hS 816 J_MLineRows_init_d814 (N := 800) rfl (by decide) (by decide) (by decide) (by decide) (by decide) rfl ?_
  change ia _ _ _ _ (_, _, .ref 104 :: _, mm_237)
  refine iq_putR hS 819 J_MLineRows_init_d816 lf_13_137 (Or.inr ⟨rfl, rfl⟩) (Or.inr ⟨_, rfl⟩) ⟨by decide, rfl⟩ rfl ?_
  change ia _ _ _ _ (_, _, _, mm_238)
  refine iq_aload_n hS 820 J_MLineRows_init_d819 h0 rfl ?_
  refine iq_sipush hS 823 J_MLineRows_init_d820 (v := 140) (by decide +kernel) rfl ?_
  refine iq_newa hS 825 J_MLineRows_init_d823 (N := 140) rfl (by decide) (by decide) (by decide) (by decide) (by decide) rfl ?_
  change ia _ _ _ _ (_, _, .ref 105 :: _, mm_239)
  refine iq_putR hS 828 J_MLineRows_init_d825 lf_13_140 (Or.inr ⟨rfl, rfl⟩) (Or.inr ⟨_, rfl⟩) ⟨by decide, rfl⟩ rfl ?_
  change ia _ _ _ _ (_, _, _, mm_240)
  refine iq_aload_n hS 829 J_MLineRows_init_d828 h0 rfl ?_
  refine iq_sipush hS 832 J_MLineRows_init_d829 (v := 300) (by decide +kernel) rfl ?_
  refine iq_newa hS 834 J_MLineRows_init_d832 (N := 300) rfl (by decide) (by decide) (by decide) (by decide) (by decide) rfl ?_
  change ia _ _ _ _ (_, _, .ref 106 :: _, mm_241)
  refine iq_putR hS 837 J_MLineRows_init_d834 lf_13_143 (Or.inr ⟨rfl, rfl⟩) (Or.inr ⟨_, rfl⟩) ⟨by decide, rfl⟩ rfl ?_
  change ia _ _ _ _ (_, _, _, mm_242)
  refine iq_aload_n hS 838 J_MLineRows_init_d837 h0 rfl ?_
  refine iq_sipush hS 841 J_MLineRows_init_d838 (v := 300) (by decide +kernel) rfl ?_
  refine iq_newa hS 843 J_MLineRows_init_d841 (N := 300) rfl (by decide) (by decide) (by decide) (by decide) (by decide) rfl ?_
  change ia _ _ _ _ (_, _, .ref 107 :: _, mm_243)
  refine iq_putR hS 846 J_MLineRows_init_d843 lf_13_146 (Or.inr ⟨rfl, rfl⟩) (Or.inr ⟨_, rfl⟩) ⟨by decide, rfl⟩ rfl ?_
  change ia _ _ _ _ (_, _, _, mm_244)
  exact iq_ret J_MLineRows_init_d846 rfl ⟨rfl, rfl⟩
theorem J_MSquareRows_init_d0 : decode J_MSquareRows_init.2.1 0 = .ok (.aload_n 0, 1) := by decide +kernel
theorem J_MSquareRows_init_d1 : decode J_MSquareRows_init.2.1 1 = .ok (.invokespecial 1, 3) := by decide +kernel
theorem J_MSquareRows_init_d4 : decode J_MSquareRows_init.2.1 4 = .ok (.aload_n 0, 1) := by decide +kernel
theorem J_MSquareRows_init_d5 : decode J_MSquareRows_init.2.1 5 = .ok (.sipush 160, 3) := by decide +kernel
theorem J_MSquareRows_init_d8 : decode J_MSquareRows_init.2.1 8 = .ok (.newarray .int, 2) := by decide +kernel
theorem J_MSquareRows_init_d996 : decode J_MSquareRows_init.2.1 996 = .ok (.putfield 7, 3) := by decide +kernel
theorem J_MSquareRows_init_d999 : decode J_MSquareRows_init.2.1 999 = .ok (.aload_n 0, 1) := by decide +kernel
theorem J_MSquareRows_init_d1000 : decode J_MSquareRows_init.2.1 1000 = .ok (.sipush 160, 3) := by decide +kernel
theorem J_MSquareRows_init_d1003 : decode J_MSquareRows_init.2.1 1003 = .ok (.newarray .int, 2) := by decide +kernel
theorem J_MSquareRows_init_d1953 : decode J_MSquareRows_init.2.1 1953 = .ok (.putfield 13, 3) := by decide +kernel
theorem J_MSquareRows_init_d1956 : decode J_MSquareRows_init.2.1 1956 = .ok (.aload_n 0, 1) := by decide +kernel
theorem J_MSquareRows_init_d1957 : decode J_MSquareRows_init.2.1 1957 = .ok (.sipush 3000, 3) := by decide +kernel
theorem J_MSquareRows_init_d1960 : decode J_MSquareRows_init.2.1 1960 = .ok (.newarray .int, 2) := by decide +kernel
theorem J_MSquareRows_init_d1962 : decode J_MSquareRows_init.2.1 1962 = .ok (.putfield 16, 3) := by decide +kernel
theorem J_MSquareRows_init_d1965 : decode J_MSquareRows_init.2.1 1965 = .ok (.aload_n 0, 1) := by decide +kernel
theorem J_MSquareRows_init_d1966 : decode J_MSquareRows_init.2.1 1966 = .ok (.sipush 31329, 3) := by decide +kernel
theorem J_MSquareRows_init_d1969 : decode J_MSquareRows_init.2.1 1969 = .ok (.newarray .int, 2) := by decide +kernel
theorem J_MSquareRows_init_d1971 : decode J_MSquareRows_init.2.1 1971 = .ok (.putfield 19, 3) := by decide +kernel
theorem J_MSquareRows_init_d1974 : decode J_MSquareRows_init.2.1 1974 = .ok (.aload_n 0, 1) := by decide +kernel
theorem J_MSquareRows_init_d1975 : decode J_MSquareRows_init.2.1 1975 = .ok (.sipush 31329, 3) := by decide +kernel
theorem J_MSquareRows_init_d1978 : decode J_MSquareRows_init.2.1 1978 = .ok (.newarray .int, 2) := by decide +kernel
theorem J_MSquareRows_init_d1980 : decode J_MSquareRows_init.2.1 1980 = .ok (.putfield 22, 3) := by decide +kernel
theorem J_MSquareRows_init_d1983 : decode J_MSquareRows_init.2.1 1983 = .ok (.aload_n 0, 1) := by decide +kernel
theorem J_MSquareRows_init_d1984 : decode J_MSquareRows_init.2.1 1984 = .ok (.bipush 6, 2) := by decide +kernel
theorem J_MSquareRows_init_d1986 : decode J_MSquareRows_init.2.1 1986 = .ok (.newarray .int, 2) := by decide +kernel
theorem J_MSquareRows_init_d1988 : decode J_MSquareRows_init.2.1 1988 = .ok (.putfield 25, 3) := by decide +kernel
theorem J_MSquareRows_init_d1991 : decode J_MSquareRows_init.2.1 1991 = .ok (.aload_n 0, 1) := by decide +kernel
theorem J_MSquareRows_init_d1992 : decode J_MSquareRows_init.2.1 1992 = .ok (.sipush 3000, 3) := by decide +kernel
theorem J_MSquareRows_init_d1995 : decode J_MSquareRows_init.2.1 1995 = .ok (.newarray .int, 2) := by decide +kernel
theorem J_MSquareRows_init_d1997 : decode J_MSquareRows_init.2.1 1997 = .ok (.putfield 28, 3) := by decide +kernel
theorem J_MSquareRows_init_d2000 : decode J_MSquareRows_init.2.1 2000 = .ok (.aload_n 0, 1) := by decide +kernel
theorem J_MSquareRows_init_d2001 : decode J_MSquareRows_init.2.1 2001 = .ok (.sipush 3000, 3) := by decide +kernel
theorem J_MSquareRows_init_d2004 : decode J_MSquareRows_init.2.1 2004 = .ok (.newarray .int, 2) := by decide +kernel
theorem J_MSquareRows_init_d2006 : decode J_MSquareRows_init.2.1 2006 = .ok (.putfield 31, 3) := by decide +kernel
theorem J_MSquareRows_init_d2009 : decode J_MSquareRows_init.2.1 2009 = .ok (.aload_n 0, 1) := by decide +kernel
theorem J_MSquareRows_init_d2010 : decode J_MSquareRows_init.2.1 2010 = .ok (.sipush 3000, 3) := by decide +kernel
theorem J_MSquareRows_init_d2013 : decode J_MSquareRows_init.2.1 2013 = .ok (.newarray .int, 2) := by decide +kernel
theorem J_MSquareRows_init_d2015 : decode J_MSquareRows_init.2.1 2015 = .ok (.putfield 34, 3) := by decide +kernel
theorem J_MSquareRows_init_d2018 : decode J_MSquareRows_init.2.1 2018 = .ok (.aload_n 0, 1) := by decide +kernel
theorem J_MSquareRows_init_d2019 : decode J_MSquareRows_init.2.1 2019 = .ok (.sipush 18006, 3) := by decide +kernel
theorem J_MSquareRows_init_d2022 : decode J_MSquareRows_init.2.1 2022 = .ok (.newarray .int, 2) := by decide +kernel
theorem J_MSquareRows_init_d2024 : decode J_MSquareRows_init.2.1 2024 = .ok (.putfield 37, 3) := by decide +kernel
theorem J_MSquareRows_init_d2027 : decode J_MSquareRows_init.2.1 2027 = .ok (.aload_n 0, 1) := by decide +kernel
theorem J_MSquareRows_init_d2028 : decode J_MSquareRows_init.2.1 2028 = .ok (.sipush 3800, 3) := by decide +kernel
theorem J_MSquareRows_init_d2031 : decode J_MSquareRows_init.2.1 2031 = .ok (.newarray .int, 2) := by decide +kernel
theorem J_MSquareRows_init_d2033 : decode J_MSquareRows_init.2.1 2033 = .ok (.putfield 40, 3) := by decide +kernel
theorem J_MSquareRows_init_d2036 : decode J_MSquareRows_init.2.1 2036 = .ok (.aload_n 0, 1) := by decide +kernel
theorem J_MSquareRows_init_d2037 : decode J_MSquareRows_init.2.1 2037 = .ok (.sipush 3800, 3) := by decide +kernel
theorem J_MSquareRows_init_d2040 : decode J_MSquareRows_init.2.1 2040 = .ok (.newarray .int, 2) := by decide +kernel
theorem J_MSquareRows_init_d2042 : decode J_MSquareRows_init.2.1 2042 = .ok (.putfield 43, 3) := by decide +kernel
theorem J_MSquareRows_init_d2045 : decode J_MSquareRows_init.2.1 2045 = .ok (.aload_n 0, 1) := by decide +kernel
theorem J_MSquareRows_init_d2046 : decode J_MSquareRows_init.2.1 2046 = .ok (.sipush 256, 3) := by decide +kernel
theorem J_MSquareRows_init_d2049 : decode J_MSquareRows_init.2.1 2049 = .ok (.newarray .int, 2) := by decide +kernel
theorem J_MSquareRows_init_d2051 : decode J_MSquareRows_init.2.1 2051 = .ok (.putfield 46, 3) := by decide +kernel
theorem J_MSquareRows_init_d2054 : decode J_MSquareRows_init.2.1 2054 = .ok (.aload_n 0, 1) := by decide +kernel
theorem J_MSquareRows_init_d2055 : decode J_MSquareRows_init.2.1 2055 = .ok (.sipush 256, 3) := by decide +kernel
theorem J_MSquareRows_init_d2058 : decode J_MSquareRows_init.2.1 2058 = .ok (.newarray .int, 2) := by decide +kernel
theorem J_MSquareRows_init_d2060 : decode J_MSquareRows_init.2.1 2060 = .ok (.putfield 49, 3) := by decide +kernel
theorem J_MSquareRows_init_d2063 : decode J_MSquareRows_init.2.1 2063 = .ok (.aload_n 0, 1) := by decide +kernel
theorem J_MSquareRows_init_d2064 : decode J_MSquareRows_init.2.1 2064 = .ok (.bipush 32, 2) := by decide +kernel
theorem J_MSquareRows_init_d2066 : decode J_MSquareRows_init.2.1 2066 = .ok (.newarray .int, 2) := by decide +kernel
theorem J_MSquareRows_init_d2068 : decode J_MSquareRows_init.2.1 2068 = .ok (.putfield 52, 3) := by decide +kernel
theorem J_MSquareRows_init_d2071 : decode J_MSquareRows_init.2.1 2071 = .ok (.aload_n 0, 1) := by decide +kernel
theorem J_MSquareRows_init_d2072 : decode J_MSquareRows_init.2.1 2072 = .ok (.sipush 272, 3) := by decide +kernel
theorem J_MSquareRows_init_d2075 : decode J_MSquareRows_init.2.1 2075 = .ok (.newarray .int, 2) := by decide +kernel
theorem J_MSquareRows_init_d2077 : decode J_MSquareRows_init.2.1 2077 = .ok (.putfield 55, 3) := by decide +kernel
theorem J_MSquareRows_init_d2080 : decode J_MSquareRows_init.2.1 2080 = .ok (.aload_n 0, 1) := by decide +kernel
theorem J_MSquareRows_init_d2081 : decode J_MSquareRows_init.2.1 2081 = .ok (.bipush 16, 2) := by decide +kernel
theorem J_MSquareRows_init_d2083 : decode J_MSquareRows_init.2.1 2083 = .ok (.newarray .int, 2) := by decide +kernel
theorem J_MSquareRows_init_d2085 : decode J_MSquareRows_init.2.1 2085 = .ok (.putfield 58, 3) := by decide +kernel
theorem J_MSquareRows_init_d2088 : decode J_MSquareRows_init.2.1 2088 = .ok (.aload_n 0, 1) := by decide +kernel
theorem J_MSquareRows_init_d2089 : decode J_MSquareRows_init.2.1 2089 = .ok (.bipush 16, 2) := by decide +kernel
theorem J_MSquareRows_init_d2091 : decode J_MSquareRows_init.2.1 2091 = .ok (.newarray .int, 2) := by decide +kernel
theorem J_MSquareRows_init_d2093 : decode J_MSquareRows_init.2.1 2093 = .ok (.putfield 61, 3) := by decide +kernel
theorem J_MSquareRows_init_d2096 : decode J_MSquareRows_init.2.1 2096 = .ok (.aload_n 0, 1) := by decide +kernel
theorem J_MSquareRows_init_d2097 : decode J_MSquareRows_init.2.1 2097 = .ok (.bipush 32, 2) := by decide +kernel
theorem J_MSquareRows_init_d2099 : decode J_MSquareRows_init.2.1 2099 = .ok (.newarray .int, 2) := by decide +kernel
theorem J_MSquareRows_init_d2101 : decode J_MSquareRows_init.2.1 2101 = .ok (.putfield 64, 3) := by decide +kernel
theorem J_MSquareRows_init_d2104 : decode J_MSquareRows_init.2.1 2104 = .ok (.aload_n 0, 1) := by decide +kernel
theorem J_MSquareRows_init_d2105 : decode J_MSquareRows_init.2.1 2105 = .ok (.sipush 3000, 3) := by decide +kernel
theorem J_MSquareRows_init_d2108 : decode J_MSquareRows_init.2.1 2108 = .ok (.newarray .int, 2) := by decide +kernel
theorem J_MSquareRows_init_d2110 : decode J_MSquareRows_init.2.1 2110 = .ok (.putfield 67, 3) := by decide +kernel
theorem J_MSquareRows_init_d2113 : decode J_MSquareRows_init.2.1 2113 = .ok (.aload_n 0, 1) := by decide +kernel
theorem J_MSquareRows_init_d2114 : decode J_MSquareRows_init.2.1 2114 = .ok (.iconst 4, 1) := by decide +kernel
theorem J_MSquareRows_init_d2115 : decode J_MSquareRows_init.2.1 2115 = .ok (.newarray .int, 2) := by decide +kernel
theorem J_MSquareRows_init_d2117 : decode J_MSquareRows_init.2.1 2117 = .ok (.putfield 70, 3) := by decide +kernel
theorem J_MSquareRows_init_d2120 : decode J_MSquareRows_init.2.1 2120 = .ok (.return_, 1) := by decide +kernel
theorem iv_247_ok : ini_run J_MSquareRows_init.2.1 (tb_find tb_cn 16) iv_247 10 0 = some 64 := by decide +kernel
theorem iv_248_ok : ini_run J_MSquareRows_init.2.1 (tb_find tb_cn 16) iv_248 64 10 = some 124 := by decide +kernel
theorem iv_249_ok : ini_run J_MSquareRows_init.2.1 (tb_find tb_cn 16) iv_249 124 20 = some 184 := by decide +kernel
theorem iv_250_ok : ini_run J_MSquareRows_init.2.1 (tb_find tb_cn 16) iv_250 184 30 = some 244 := by decide +kernel
theorem iv_251_ok : ini_run J_MSquareRows_init.2.1 (tb_find tb_cn 16) iv_251 244 40 = some 304 := by decide +kernel
theorem iv_252_ok : ini_run J_MSquareRows_init.2.1 (tb_find tb_cn 16) iv_252 304 50 = some 364 := by decide +kernel
theorem iv_253_ok : ini_run J_MSquareRows_init.2.1 (tb_find tb_cn 16) iv_253 364 60 = some 424 := by decide +kernel
theorem iv_254_ok : ini_run J_MSquareRows_init.2.1 (tb_find tb_cn 16) iv_254 424 70 = some 484 := by decide +kernel
theorem iv_255_ok : ini_run J_MSquareRows_init.2.1 (tb_find tb_cn 16) iv_255 484 80 = some 544 := by decide +kernel
theorem iv_256_ok : ini_run J_MSquareRows_init.2.1 (tb_find tb_cn 16) iv_256 544 90 = some 604 := by decide +kernel
theorem iv_257_ok : ini_run J_MSquareRows_init.2.1 (tb_find tb_cn 16) iv_257 604 100 = some 664 := by decide +kernel
theorem iv_258_ok : ini_run J_MSquareRows_init.2.1 (tb_find tb_cn 16) iv_258 664 110 = some 724 := by decide +kernel
theorem iv_259_ok : ini_run J_MSquareRows_init.2.1 (tb_find tb_cn 16) iv_259 724 120 = some 786 := by decide +kernel
theorem iv_260_ok : ini_run J_MSquareRows_init.2.1 (tb_find tb_cn 16) iv_260 786 130 = some 856 := by decide +kernel
theorem iv_261_ok : ini_run J_MSquareRows_init.2.1 (tb_find tb_cn 16) iv_261 856 140 = some 926 := by decide +kernel
theorem iv_262_ok : ini_run J_MSquareRows_init.2.1 (tb_find tb_cn 16) iv_262 926 150 = some 996 := by decide +kernel
theorem iv_265_ok : ini_run J_MSquareRows_init.2.1 (tb_find tb_cn 16) iv_265 1005 0 = some 1049 := by decide +kernel
theorem iv_266_ok : ini_run J_MSquareRows_init.2.1 (tb_find tb_cn 16) iv_266 1049 10 = some 1105 := by decide +kernel
theorem iv_267_ok : ini_run J_MSquareRows_init.2.1 (tb_find tb_cn 16) iv_267 1105 20 = some 1165 := by decide +kernel
theorem iv_268_ok : ini_run J_MSquareRows_init.2.1 (tb_find tb_cn 16) iv_268 1165 30 = some 1225 := by decide +kernel
theorem iv_269_ok : ini_run J_MSquareRows_init.2.1 (tb_find tb_cn 16) iv_269 1225 40 = some 1275 := by decide +kernel
theorem iv_270_ok : ini_run J_MSquareRows_init.2.1 (tb_find tb_cn 16) iv_270 1275 50 = some 1334 := by decide +kernel
theorem iv_271_ok : ini_run J_MSquareRows_init.2.1 (tb_find tb_cn 16) iv_271 1334 60 = some 1394 := by decide +kernel
theorem iv_272_ok : ini_run J_MSquareRows_init.2.1 (tb_find tb_cn 16) iv_272 1394 70 = some 1454 := by decide +kernel
theorem iv_273_ok : ini_run J_MSquareRows_init.2.1 (tb_find tb_cn 16) iv_273 1454 80 = some 1508 := by decide +kernel
theorem iv_274_ok : ini_run J_MSquareRows_init.2.1 (tb_find tb_cn 16) iv_274 1508 90 = some 1568 := by decide +kernel
theorem iv_275_ok : ini_run J_MSquareRows_init.2.1 (tb_find tb_cn 16) iv_275 1568 100 = some 1628 := by decide +kernel
theorem iv_276_ok : ini_run J_MSquareRows_init.2.1 (tb_find tb_cn 16) iv_276 1628 110 = some 1688 := by decide +kernel
theorem iv_277_ok : ini_run J_MSquareRows_init.2.1 (tb_find tb_cn 16) iv_277 1688 120 = some 1743 := by decide +kernel
theorem iv_278_ok : ini_run J_MSquareRows_init.2.1 (tb_find tb_cn 16) iv_278 1743 130 = some 1813 := by decide +kernel
theorem iv_279_ok : ini_run J_MSquareRows_init.2.1 (tb_find tb_cn 16) iv_279 1813 140 = some 1883 := by decide +kernel
theorem iv_280_ok : ini_run J_MSquareRows_init.2.1 (tb_find tb_cn 16) iv_280 1883 150 = some 1953 := by decide +kernel
set_option maxRecDepth 20000 in
set_option maxHeartbeats 40000000 in
theorem cs_16 {L : Nat} {xs : Nat → Int32} {dep : Nat} : ia (tb_G L xs) dep J_MSquareRows_init (fun v M1 => v = none ∧ M1 = mm_320) (0, lv_args 0 [.ref 108], [], mm_246) := by
  have hS : im_St (tb_G L xs) dep J_MSquareRows_init (ia (tb_G L xs) dep J_MSquareRows_init (fun v M1 => v = none ∧ M1 = mm_320)) := ia_St
  have h0 : im_lk (lv_args 0 [.ref 108]) 0 = some (.ref 108) := rfl
  refine iq_aload_n hS 1 J_MSquareRows_init_d0 h0 rfl ?_
  refine iq_oinit hS 4 J_MSquareRows_init_d1 lo_16_1 (Nat.le_of_ble_eq_true rfl) rfl ?_
  refine iq_aload_n hS 5 J_MSquareRows_init_d4 h0 rfl ?_
  refine iq_sipush hS 8 J_MSquareRows_init_d5 (v := 160) (by decide +kernel) rfl ?_
  refine iq_newa hS 10 J_MSquareRows_init_d8 (N := 160) rfl (by decide) (by decide) (by decide) (by decide) (by decide) rfl ?_
  change ia _ _ _ _ (_, _, .ref 109 :: _, mm_247)
  refine ini_sound hS iv_247 10 0 64 _ ⟨by decide, rfl⟩ (by decide +kernel) (by decide) iv_247_ok ?_
  change ia _ _ _ _ (_, _, _, mm_248)
  refine ini_sound hS iv_248 64 10 124 _ ⟨by decide, rfl⟩ (by decide +kernel) (by decide) iv_248_ok ?_
  change ia _ _ _ _ (_, _, _, mm_249)
  refine ini_sound hS iv_249 124 20 184 _ ⟨by decide, rfl⟩ (by decide +kernel) (by decide) iv_249_ok ?_
  change ia _ _ _ _ (_, _, _, mm_250)
  refine ini_sound hS iv_250 184 30 244 _ ⟨by decide, rfl⟩ (by decide +kernel) (by decide) iv_250_ok ?_
  change ia _ _ _ _ (_, _, _, mm_251)
  refine ini_sound hS iv_251 244 40 304 _ ⟨by decide, rfl⟩ (by decide +kernel) (by decide) iv_251_ok ?_
  change ia _ _ _ _ (_, _, _, mm_252)
  refine ini_sound hS iv_252 304 50 364 _ ⟨by decide, rfl⟩ (by decide +kernel) (by decide) iv_252_ok ?_
  change ia _ _ _ _ (_, _, _, mm_253)
  refine ini_sound hS iv_253 364 60 424 _ ⟨by decide, rfl⟩ (by decide +kernel) (by decide) iv_253_ok ?_
  change ia _ _ _ _ (_, _, _, mm_254)
  refine ini_sound hS iv_254 424 70 484 _ ⟨by decide, rfl⟩ (by decide +kernel) (by decide) iv_254_ok ?_
  change ia _ _ _ _ (_, _, _, mm_255)
  refine ini_sound hS iv_255 484 80 544 _ ⟨by decide, rfl⟩ (by decide +kernel) (by decide) iv_255_ok ?_
  change ia _ _ _ _ (_, _, _, mm_256)
  refine ini_sound hS iv_256 544 90 604 _ ⟨by decide, rfl⟩ (by decide +kernel) (by decide) iv_256_ok ?_
  change ia _ _ _ _ (_, _, _, mm_257)
  refine ini_sound hS iv_257 604 100 664 _ ⟨by decide, rfl⟩ (by decide +kernel) (by decide) iv_257_ok ?_
  change ia _ _ _ _ (_, _, _, mm_258)
  refine ini_sound hS iv_258 664 110 724 _ ⟨by decide, rfl⟩ (by decide +kernel) (by decide) iv_258_ok ?_
  change ia _ _ _ _ (_, _, _, mm_259)
  refine ini_sound hS iv_259 724 120 786 _ ⟨by decide, rfl⟩ (by decide +kernel) (by decide) iv_259_ok ?_
  change ia _ _ _ _ (_, _, _, mm_260)
  refine ini_sound hS iv_260 786 130 856 _ ⟨by decide, rfl⟩ (by decide +kernel) (by decide) iv_260_ok ?_
  change ia _ _ _ _ (_, _, _, mm_261)
  refine ini_sound hS iv_261 856 140 926 _ ⟨by decide, rfl⟩ (by decide +kernel) (by decide) iv_261_ok ?_
  change ia _ _ _ _ (_, _, _, mm_262)
  refine ini_sound hS iv_262 926 150 996 _ ⟨by decide, rfl⟩ (by decide +kernel) (by decide) iv_262_ok ?_
  change ia _ _ _ _ (_, _, _, mm_263)
  refine iq_putR hS 999 J_MSquareRows_init_d996 lf_16_7 (Or.inr ⟨rfl, rfl⟩) (Or.inr ⟨_, rfl⟩) ⟨by decide, rfl⟩ rfl ?_
  change ia _ _ _ _ (_, _, _, mm_264)
  refine iq_aload_n hS 1000 J_MSquareRows_init_d999 h0 rfl ?_
  refine iq_sipush hS 1003 J_MSquareRows_init_d1000 (v := 160) (by decide +kernel) rfl ?_
  refine iq_newa hS 1005 J_MSquareRows_init_d1003 (N := 160) rfl (by decide) (by decide) (by decide) (by decide) (by decide) rfl ?_
  change ia _ _ _ _ (_, _, .ref 110 :: _, mm_265)
  refine ini_sound hS iv_265 1005 0 1049 _ ⟨by decide, rfl⟩ (by decide +kernel) (by decide) iv_265_ok ?_
  change ia _ _ _ _ (_, _, _, mm_266)
  refine ini_sound hS iv_266 1049 10 1105 _ ⟨by decide, rfl⟩ (by decide +kernel) (by decide) iv_266_ok ?_
  change ia _ _ _ _ (_, _, _, mm_267)
  refine ini_sound hS iv_267 1105 20 1165 _ ⟨by decide, rfl⟩ (by decide +kernel) (by decide) iv_267_ok ?_
  change ia _ _ _ _ (_, _, _, mm_268)
  refine ini_sound hS iv_268 1165 30 1225 _ ⟨by decide, rfl⟩ (by decide +kernel) (by decide) iv_268_ok ?_
  change ia _ _ _ _ (_, _, _, mm_269)
  refine ini_sound hS iv_269 1225 40 1275 _ ⟨by decide, rfl⟩ (by decide +kernel) (by decide) iv_269_ok ?_
  change ia _ _ _ _ (_, _, _, mm_270)
  refine ini_sound hS iv_270 1275 50 1334 _ ⟨by decide, rfl⟩ (by decide +kernel) (by decide) iv_270_ok ?_
  change ia _ _ _ _ (_, _, _, mm_271)
  refine ini_sound hS iv_271 1334 60 1394 _ ⟨by decide, rfl⟩ (by decide +kernel) (by decide) iv_271_ok ?_
  change ia _ _ _ _ (_, _, _, mm_272)
  refine ini_sound hS iv_272 1394 70 1454 _ ⟨by decide, rfl⟩ (by decide +kernel) (by decide) iv_272_ok ?_
  change ia _ _ _ _ (_, _, _, mm_273)
  refine ini_sound hS iv_273 1454 80 1508 _ ⟨by decide, rfl⟩ (by decide +kernel) (by decide) iv_273_ok ?_
  change ia _ _ _ _ (_, _, _, mm_274)
  refine ini_sound hS iv_274 1508 90 1568 _ ⟨by decide, rfl⟩ (by decide +kernel) (by decide) iv_274_ok ?_
  change ia _ _ _ _ (_, _, _, mm_275)
  refine ini_sound hS iv_275 1568 100 1628 _ ⟨by decide, rfl⟩ (by decide +kernel) (by decide) iv_275_ok ?_
  change ia _ _ _ _ (_, _, _, mm_276)
  refine ini_sound hS iv_276 1628 110 1688 _ ⟨by decide, rfl⟩ (by decide +kernel) (by decide) iv_276_ok ?_
  change ia _ _ _ _ (_, _, _, mm_277)
  refine ini_sound hS iv_277 1688 120 1743 _ ⟨by decide, rfl⟩ (by decide +kernel) (by decide) iv_277_ok ?_
  change ia _ _ _ _ (_, _, _, mm_278)
  refine ini_sound hS iv_278 1743 130 1813 _ ⟨by decide, rfl⟩ (by decide +kernel) (by decide) iv_278_ok ?_
  change ia _ _ _ _ (_, _, _, mm_279)
  refine ini_sound hS iv_279 1813 140 1883 _ ⟨by decide, rfl⟩ (by decide +kernel) (by decide) iv_279_ok ?_
  change ia _ _ _ _ (_, _, _, mm_280)
  refine ini_sound hS iv_280 1883 150 1953 _ ⟨by decide, rfl⟩ (by decide +kernel) (by decide) iv_280_ok ?_
  change ia _ _ _ _ (_, _, _, mm_281)
  refine iq_putR hS 1956 J_MSquareRows_init_d1953 lf_16_13 (Or.inr ⟨rfl, rfl⟩) (Or.inr ⟨_, rfl⟩) ⟨by decide, rfl⟩ rfl ?_
  change ia _ _ _ _ (_, _, _, mm_282)
  refine iq_aload_n hS 1957 J_MSquareRows_init_d1956 h0 rfl ?_
  refine iq_sipush hS 1960 J_MSquareRows_init_d1957 (v := 3000) (by decide +kernel) rfl ?_
  refine iq_newa hS 1962 J_MSquareRows_init_d1960 (N := 3000) rfl (by decide) (by decide) (by decide) (by decide) (by decide) rfl ?_
  change ia _ _ _ _ (_, _, .ref 111 :: _, mm_283)
  refine iq_putR hS 1965 J_MSquareRows_init_d1962 lf_16_16 (Or.inr ⟨rfl, rfl⟩) (Or.inr ⟨_, rfl⟩) ⟨by decide, rfl⟩ rfl ?_
  change ia _ _ _ _ (_, _, _, mm_284)
  refine iq_aload_n hS 1966 J_MSquareRows_init_d1965 h0 rfl ?_
  refine iq_sipush hS 1969 J_MSquareRows_init_d1966 (v := 31329) (by decide +kernel) rfl ?_
  refine iq_newa hS 1971 J_MSquareRows_init_d1969 (N := 31329) rfl (by decide) (by decide) (by decide) (by decide) (by decide) rfl ?_
  change ia _ _ _ _ (_, _, .ref 112 :: _, mm_285)
  refine iq_putR hS 1974 J_MSquareRows_init_d1971 lf_16_19 (Or.inr ⟨rfl, rfl⟩) (Or.inr ⟨_, rfl⟩) ⟨by decide, rfl⟩ rfl ?_
  change ia _ _ _ _ (_, _, _, mm_286)
  refine iq_aload_n hS 1975 J_MSquareRows_init_d1974 h0 rfl ?_
  refine iq_sipush hS 1978 J_MSquareRows_init_d1975 (v := 31329) (by decide +kernel) rfl ?_
  refine iq_newa hS 1980 J_MSquareRows_init_d1978 (N := 31329) rfl (by decide) (by decide) (by decide) (by decide) (by decide) rfl ?_
  change ia _ _ _ _ (_, _, .ref 113 :: _, mm_287)
  refine iq_putR hS 1983 J_MSquareRows_init_d1980 lf_16_22 (Or.inr ⟨rfl, rfl⟩) (Or.inr ⟨_, rfl⟩) ⟨by decide, rfl⟩ rfl ?_
  change ia _ _ _ _ (_, _, _, mm_288)
  refine iq_aload_n hS 1984 J_MSquareRows_init_d1983 h0 rfl ?_
  refine iq_bipush hS 1986 J_MSquareRows_init_d1984 (v := 6) (by decide +kernel) rfl ?_
  refine iq_newa hS 1988 J_MSquareRows_init_d1986 (N := 6) rfl (by decide) (by decide) (by decide) (by decide) (by decide) rfl ?_
  change ia _ _ _ _ (_, _, .ref 114 :: _, mm_289)
  refine iq_putR hS 1991 J_MSquareRows_init_d1988 lf_16_25 (Or.inr ⟨rfl, rfl⟩) (Or.inr ⟨_, rfl⟩) ⟨by decide, rfl⟩ rfl ?_
  change ia _ _ _ _ (_, _, _, mm_290)
  refine iq_aload_n hS 1992 J_MSquareRows_init_d1991 h0 rfl ?_
  refine iq_sipush hS 1995 J_MSquareRows_init_d1992 (v := 3000) (by decide +kernel) rfl ?_
  refine iq_newa hS 1997 J_MSquareRows_init_d1995 (N := 3000) rfl (by decide) (by decide) (by decide) (by decide) (by decide) rfl ?_
  change ia _ _ _ _ (_, _, .ref 115 :: _, mm_291)
  refine iq_putR hS 2000 J_MSquareRows_init_d1997 lf_16_28 (Or.inr ⟨rfl, rfl⟩) (Or.inr ⟨_, rfl⟩) ⟨by decide, rfl⟩ rfl ?_
  change ia _ _ _ _ (_, _, _, mm_292)
  refine iq_aload_n hS 2001 J_MSquareRows_init_d2000 h0 rfl ?_
  refine iq_sipush hS 2004 J_MSquareRows_init_d2001 (v := 3000) (by decide +kernel) rfl ?_
  refine iq_newa hS 2006 J_MSquareRows_init_d2004 (N := 3000) rfl (by decide) (by decide) (by decide) (by decide) (by decide) rfl ?_
  change ia _ _ _ _ (_, _, .ref 116 :: _, mm_293)
  refine iq_putR hS 2009 J_MSquareRows_init_d2006 lf_16_31 (Or.inr ⟨rfl, rfl⟩) (Or.inr ⟨_, rfl⟩) ⟨by decide, rfl⟩ rfl ?_
  change ia _ _ _ _ (_, _, _, mm_294)
  refine iq_aload_n hS 2010 J_MSquareRows_init_d2009 h0 rfl ?_
  refine iq_sipush hS 2013 J_MSquareRows_init_d2010 (v := 3000) (by decide +kernel) rfl ?_
  refine iq_newa hS 2015 J_MSquareRows_init_d2013 (N := 3000) rfl (by decide) (by decide) (by decide) (by decide) (by decide) rfl ?_
  change ia _ _ _ _ (_, _, .ref 117 :: _, mm_295)
  refine iq_putR hS 2018 J_MSquareRows_init_d2015 lf_16_34 (Or.inr ⟨rfl, rfl⟩) (Or.inr ⟨_, rfl⟩) ⟨by decide, rfl⟩ rfl ?_
  change ia _ _ _ _ (_, _, _, mm_296)
  refine iq_aload_n hS 2019 J_MSquareRows_init_d2018 h0 rfl ?_
  refine iq_sipush hS 2022 J_MSquareRows_init_d2019 (v := 18006) (by decide +kernel) rfl ?_
  refine iq_newa hS 2024 J_MSquareRows_init_d2022 (N := 18006) rfl (by decide) (by decide) (by decide) (by decide) (by decide) rfl ?_
  change ia _ _ _ _ (_, _, .ref 118 :: _, mm_297)
  refine iq_putR hS 2027 J_MSquareRows_init_d2024 lf_16_37 (Or.inr ⟨rfl, rfl⟩) (Or.inr ⟨_, rfl⟩) ⟨by decide, rfl⟩ rfl ?_
  change ia _ _ _ _ (_, _, _, mm_298)
  refine iq_aload_n hS 2028 J_MSquareRows_init_d2027 h0 rfl ?_
  refine iq_sipush hS 2031 J_MSquareRows_init_d2028 (v := 3800) (by decide +kernel) rfl ?_
  refine iq_newa hS 2033 J_MSquareRows_init_d2031 (N := 3800) rfl (by decide) (by decide) (by decide) (by decide) (by decide) rfl ?_
  change ia _ _ _ _ (_, _, .ref 119 :: _, mm_299)
  refine iq_putR hS 2036 J_MSquareRows_init_d2033 lf_16_40 (Or.inr ⟨rfl, rfl⟩) (Or.inr ⟨_, rfl⟩) ⟨by decide, rfl⟩ rfl ?_
  change ia _ _ _ _ (_, _, _, mm_300)
  refine iq_aload_n hS 2037 J_MSquareRows_init_d2036 h0 rfl ?_
  refine iq_sipush hS 2040 J_MSquareRows_init_d2037 (v := 3800) (by decide +kernel) rfl ?_
  refine iq_newa hS 2042 J_MSquareRows_init_d2040 (N := 3800) rfl (by decide) (by decide) (by decide) (by decide) (by decide) rfl ?_
  change ia _ _ _ _ (_, _, .ref 120 :: _, mm_301)
  refine iq_putR hS 2045 J_MSquareRows_init_d2042 lf_16_43 (Or.inr ⟨rfl, rfl⟩) (Or.inr ⟨_, rfl⟩) ⟨by decide, rfl⟩ rfl ?_
  change ia _ _ _ _ (_, _, _, mm_302)
  refine iq_aload_n hS 2046 J_MSquareRows_init_d2045 h0 rfl ?_
  refine iq_sipush hS 2049 J_MSquareRows_init_d2046 (v := 256) (by decide +kernel) rfl ?_
  refine iq_newa hS 2051 J_MSquareRows_init_d2049 (N := 256) rfl (by decide) (by decide) (by decide) (by decide) (by decide) rfl ?_
  change ia _ _ _ _ (_, _, .ref 121 :: _, mm_303)
  refine iq_putR hS 2054 J_MSquareRows_init_d2051 lf_16_46 (Or.inr ⟨rfl, rfl⟩) (Or.inr ⟨_, rfl⟩) ⟨by decide, rfl⟩ rfl ?_
  change ia _ _ _ _ (_, _, _, mm_304)
  refine iq_aload_n hS 2055 J_MSquareRows_init_d2054 h0 rfl ?_
  refine iq_sipush hS 2058 J_MSquareRows_init_d2055 (v := 256) (by decide +kernel) rfl ?_
  refine iq_newa hS 2060 J_MSquareRows_init_d2058 (N := 256) rfl (by decide) (by decide) (by decide) (by decide) (by decide) rfl ?_
  change ia _ _ _ _ (_, _, .ref 122 :: _, mm_305)
  refine iq_putR hS 2063 J_MSquareRows_init_d2060 lf_16_49 (Or.inr ⟨rfl, rfl⟩) (Or.inr ⟨_, rfl⟩) ⟨by decide, rfl⟩ rfl ?_
  change ia _ _ _ _ (_, _, _, mm_306)
  refine iq_aload_n hS 2064 J_MSquareRows_init_d2063 h0 rfl ?_
  refine iq_bipush hS 2066 J_MSquareRows_init_d2064 (v := 32) (by decide +kernel) rfl ?_
  refine iq_newa hS 2068 J_MSquareRows_init_d2066 (N := 32) rfl (by decide) (by decide) (by decide) (by decide) (by decide) rfl ?_
  change ia _ _ _ _ (_, _, .ref 123 :: _, mm_307)
  refine iq_putR hS 2071 J_MSquareRows_init_d2068 lf_16_52 (Or.inr ⟨rfl, rfl⟩) (Or.inr ⟨_, rfl⟩) ⟨by decide, rfl⟩ rfl ?_
  change ia _ _ _ _ (_, _, _, mm_308)
  refine iq_aload_n hS 2072 J_MSquareRows_init_d2071 h0 rfl ?_
  refine iq_sipush hS 2075 J_MSquareRows_init_d2072 (v := 272) (by decide +kernel) rfl ?_
  refine iq_newa hS 2077 J_MSquareRows_init_d2075 (N := 272) rfl (by decide) (by decide) (by decide) (by decide) (by decide) rfl ?_
  change ia _ _ _ _ (_, _, .ref 124 :: _, mm_309)
  refine iq_putR hS 2080 J_MSquareRows_init_d2077 lf_16_55 (Or.inr ⟨rfl, rfl⟩) (Or.inr ⟨_, rfl⟩) ⟨by decide, rfl⟩ rfl ?_
  change ia _ _ _ _ (_, _, _, mm_310)
  refine iq_aload_n hS 2081 J_MSquareRows_init_d2080 h0 rfl ?_
  refine iq_bipush hS 2083 J_MSquareRows_init_d2081 (v := 16) (by decide +kernel) rfl ?_
  refine iq_newa hS 2085 J_MSquareRows_init_d2083 (N := 16) rfl (by decide) (by decide) (by decide) (by decide) (by decide) rfl ?_
  change ia _ _ _ _ (_, _, .ref 125 :: _, mm_311)
  refine iq_putR hS 2088 J_MSquareRows_init_d2085 lf_16_58 (Or.inr ⟨rfl, rfl⟩) (Or.inr ⟨_, rfl⟩) ⟨by decide, rfl⟩ rfl ?_
  change ia _ _ _ _ (_, _, _, mm_312)
  refine iq_aload_n hS 2089 J_MSquareRows_init_d2088 h0 rfl ?_
  refine iq_bipush hS 2091 J_MSquareRows_init_d2089 (v := 16) (by decide +kernel) rfl ?_
  refine iq_newa hS 2093 J_MSquareRows_init_d2091 (N := 16) rfl (by decide) (by decide) (by decide) (by decide) (by decide) rfl ?_
  change ia _ _ _ _ (_, _, .ref 126 :: _, mm_313)
  refine iq_putR hS 2096 J_MSquareRows_init_d2093 lf_16_61 (Or.inr ⟨rfl, rfl⟩) (Or.inr ⟨_, rfl⟩) ⟨by decide, rfl⟩ rfl ?_
  change ia _ _ _ _ (_, _, _, mm_314)
  refine iq_aload_n hS 2097 J_MSquareRows_init_d2096 h0 rfl ?_
  refine iq_bipush hS 2099 J_MSquareRows_init_d2097 (v := 32) (by decide +kernel) rfl ?_
  refine iq_newa hS 2101 J_MSquareRows_init_d2099 (N := 32) rfl (by decide) (by decide) (by decide) (by decide) (by decide) rfl ?_
  change ia _ _ _ _ (_, _, .ref 127 :: _, mm_315)
  refine iq_putR hS 2104 J_MSquareRows_init_d2101 lf_16_64 (Or.inr ⟨rfl, rfl⟩) (Or.inr ⟨_, rfl⟩) ⟨by decide, rfl⟩ rfl ?_
  change ia _ _ _ _ (_, _, _, mm_316)
  refine iq_aload_n hS 2105 J_MSquareRows_init_d2104 h0 rfl ?_
  refine iq_sipush hS 2108 J_MSquareRows_init_d2105 (v := 3000) (by decide +kernel) rfl ?_
  refine iq_newa hS 2110 J_MSquareRows_init_d2108 (N := 3000) rfl (by decide) (by decide) (by decide) (by decide) (by decide) rfl ?_
  change ia _ _ _ _ (_, _, .ref 128 :: _, mm_317)
  refine iq_putR hS 2113 J_MSquareRows_init_d2110 lf_16_67 (Or.inr ⟨rfl, rfl⟩) (Or.inr ⟨_, rfl⟩) ⟨by decide, rfl⟩ rfl ?_
  change ia _ _ _ _ (_, _, _, mm_318)
  refine iq_aload_n hS 2114 J_MSquareRows_init_d2113 h0 rfl ?_
  refine iq_iconst hS 2115 J_MSquareRows_init_d2114 (v := 4) (by decide +kernel) rfl ?_
  refine iq_newa hS 2117 J_MSquareRows_init_d2115 (N := 4) rfl (by decide) (by decide) (by decide) (by decide) (by decide) rfl ?_
  change ia _ _ _ _ (_, _, .ref 129 :: _, mm_319)
  refine iq_putR hS 2120 J_MSquareRows_init_d2117 lf_16_70 (Or.inr ⟨rfl, rfl⟩) (Or.inr ⟨_, rfl⟩) ⟨by decide, rfl⟩ rfl ?_
  change ia _ _ _ _ (_, _, _, mm_320)
  exact iq_ret J_MSquareRows_init_d2120 rfl ⟨rfl, rfl⟩
theorem J_MPlaceRows_init_d0 : decode J_MPlaceRows_init.2.1 0 = .ok (.aload_n 0, 1) := by decide +kernel
theorem J_MPlaceRows_init_d1 : decode J_MPlaceRows_init.2.1 1 = .ok (.invokespecial 1, 3) := by decide +kernel
theorem J_MPlaceRows_init_d4 : decode J_MPlaceRows_init.2.1 4 = .ok (.aload_n 0, 1) := by decide +kernel
theorem J_MPlaceRows_init_d5 : decode J_MPlaceRows_init.2.1 5 = .ok (.bipush 64, 2) := by decide +kernel
theorem J_MPlaceRows_init_d7 : decode J_MPlaceRows_init.2.1 7 = .ok (.putfield 7, 3) := by decide +kernel
theorem J_MPlaceRows_init_d10 : decode J_MPlaceRows_init.2.1 10 = .ok (.aload_n 0, 1) := by decide +kernel
theorem J_MPlaceRows_init_d11 : decode J_MPlaceRows_init.2.1 11 = .ok (.bipush 64, 2) := by decide +kernel
theorem J_MPlaceRows_init_d13 : decode J_MPlaceRows_init.2.1 13 = .ok (.putfield 13, 3) := by decide +kernel
theorem J_MPlaceRows_init_d16 : decode J_MPlaceRows_init.2.1 16 = .ok (.aload_n 0, 1) := by decide +kernel
theorem J_MPlaceRows_init_d17 : decode J_MPlaceRows_init.2.1 17 = .ok (.ldc 16, 2) := by decide +kernel
theorem J_MPlaceRows_init_d19 : decode J_MPlaceRows_init.2.1 19 = .ok (.newarray .boolean, 2) := by decide +kernel
theorem J_MPlaceRows_init_d21 : decode J_MPlaceRows_init.2.1 21 = .ok (.putfield 17, 3) := by decide +kernel
theorem J_MPlaceRows_init_d24 : decode J_MPlaceRows_init.2.1 24 = .ok (.aload_n 0, 1) := by decide +kernel
theorem J_MPlaceRows_init_d25 : decode J_MPlaceRows_init.2.1 25 = .ok (.ldc 21, 2) := by decide +kernel
theorem J_MPlaceRows_init_d27 : decode J_MPlaceRows_init.2.1 27 = .ok (.newarray .int, 2) := by decide +kernel
theorem J_MPlaceRows_init_d29 : decode J_MPlaceRows_init.2.1 29 = .ok (.putfield 22, 3) := by decide +kernel
theorem J_MPlaceRows_init_d32 : decode J_MPlaceRows_init.2.1 32 = .ok (.aload_n 0, 1) := by decide +kernel
theorem J_MPlaceRows_init_d33 : decode J_MPlaceRows_init.2.1 33 = .ok (.sipush 2100, 3) := by decide +kernel
theorem J_MPlaceRows_init_d36 : decode J_MPlaceRows_init.2.1 36 = .ok (.newarray .int, 2) := by decide +kernel
theorem J_MPlaceRows_init_d38 : decode J_MPlaceRows_init.2.1 38 = .ok (.putfield 26, 3) := by decide +kernel
theorem J_MPlaceRows_init_d41 : decode J_MPlaceRows_init.2.1 41 = .ok (.aload_n 0, 1) := by decide +kernel
theorem J_MPlaceRows_init_d42 : decode J_MPlaceRows_init.2.1 42 = .ok (.sipush 1800, 3) := by decide +kernel
theorem J_MPlaceRows_init_d45 : decode J_MPlaceRows_init.2.1 45 = .ok (.newarray .int, 2) := by decide +kernel
theorem J_MPlaceRows_init_d47 : decode J_MPlaceRows_init.2.1 47 = .ok (.putfield 29, 3) := by decide +kernel
theorem J_MPlaceRows_init_d50 : decode J_MPlaceRows_init.2.1 50 = .ok (.aload_n 0, 1) := by decide +kernel
theorem J_MPlaceRows_init_d51 : decode J_MPlaceRows_init.2.1 51 = .ok (.sipush 1800, 3) := by decide +kernel
theorem J_MPlaceRows_init_d54 : decode J_MPlaceRows_init.2.1 54 = .ok (.newarray .int, 2) := by decide +kernel
theorem J_MPlaceRows_init_d56 : decode J_MPlaceRows_init.2.1 56 = .ok (.putfield 32, 3) := by decide +kernel
theorem J_MPlaceRows_init_d59 : decode J_MPlaceRows_init.2.1 59 = .ok (.return_, 1) := by decide +kernel
set_option maxRecDepth 20000 in
set_option maxHeartbeats 40000000 in
theorem cs_17 {L : Nat} {xs : Nat → Int32} {dep : Nat} : ia (tb_G L xs) dep J_MPlaceRows_init (fun v M1 => v = none ∧ M1 = mm_334) (0, lv_args 0 [.ref 130], [], mm_322) := by
  have hS : im_St (tb_G L xs) dep J_MPlaceRows_init (ia (tb_G L xs) dep J_MPlaceRows_init (fun v M1 => v = none ∧ M1 = mm_334)) := ia_St
  have h0 : im_lk (lv_args 0 [.ref 130]) 0 = some (.ref 130) := rfl
  refine iq_aload_n hS 1 J_MPlaceRows_init_d0 h0 rfl ?_
  refine iq_oinit hS 4 J_MPlaceRows_init_d1 lo_14_1 (Nat.le_of_ble_eq_true rfl) rfl ?_
  refine iq_aload_n hS 5 J_MPlaceRows_init_d4 h0 rfl ?_
  refine iq_bipush hS 7 J_MPlaceRows_init_d5 (v := 64) (by decide +kernel) rfl ?_
  refine iq_putI hS 10 J_MPlaceRows_init_d7 lf_14_7 (Or.inl rfl) rfl ⟨by decide, rfl⟩ rfl ?_
  change ia _ _ _ _ (_, _, _, mm_323)
  refine iq_aload_n hS 11 J_MPlaceRows_init_d10 h0 rfl ?_
  refine iq_bipush hS 13 J_MPlaceRows_init_d11 (v := 64) (by decide +kernel) rfl ?_
  refine iq_putI hS 16 J_MPlaceRows_init_d13 lf_14_13 (Or.inl rfl) rfl ⟨by decide, rfl⟩ rfl ?_
  change ia _ _ _ _ (_, _, _, mm_324)
  refine iq_aload_n hS 17 J_MPlaceRows_init_d16 h0 rfl ?_
  refine iq_ldc hS 19 J_MPlaceRows_init_d17 lk_14_16 rfl ?_
  refine iq_newa hS 21 J_MPlaceRows_init_d19 (N := 262144) rfl (by decide) (by decide) (by decide) (by decide) (by decide) rfl ?_
  change ia _ _ _ _ (_, _, .ref 131 :: _, mm_325)
  refine iq_putR hS 24 J_MPlaceRows_init_d21 lf_14_17 (Or.inr ⟨rfl, rfl⟩) (Or.inr ⟨_, rfl⟩) ⟨by decide, rfl⟩ rfl ?_
  change ia _ _ _ _ (_, _, _, mm_326)
  refine iq_aload_n hS 25 J_MPlaceRows_init_d24 h0 rfl ?_
  refine iq_ldc hS 27 J_MPlaceRows_init_d25 lk_14_21 rfl ?_
  refine iq_newa hS 29 J_MPlaceRows_init_d27 (N := 263169) rfl (by decide) (by decide) (by decide) (by decide) (by decide) rfl ?_
  change ia _ _ _ _ (_, _, .ref 132 :: _, mm_327)
  refine iq_putR hS 32 J_MPlaceRows_init_d29 lf_14_22 (Or.inr ⟨rfl, rfl⟩) (Or.inr ⟨_, rfl⟩) ⟨by decide, rfl⟩ rfl ?_
  change ia _ _ _ _ (_, _, _, mm_328)
  refine iq_aload_n hS 33 J_MPlaceRows_init_d32 h0 rfl ?_
  refine iq_sipush hS 36 J_MPlaceRows_init_d33 (v := 2100) (by decide +kernel) rfl ?_
  refine iq_newa hS 38 J_MPlaceRows_init_d36 (N := 2100) rfl (by decide) (by decide) (by decide) (by decide) (by decide) rfl ?_
  change ia _ _ _ _ (_, _, .ref 133 :: _, mm_329)
  refine iq_putR hS 41 J_MPlaceRows_init_d38 lf_14_26 (Or.inr ⟨rfl, rfl⟩) (Or.inr ⟨_, rfl⟩) ⟨by decide, rfl⟩ rfl ?_
  change ia _ _ _ _ (_, _, _, mm_330)
  refine iq_aload_n hS 42 J_MPlaceRows_init_d41 h0 rfl ?_
  refine iq_sipush hS 45 J_MPlaceRows_init_d42 (v := 1800) (by decide +kernel) rfl ?_
  refine iq_newa hS 47 J_MPlaceRows_init_d45 (N := 1800) rfl (by decide) (by decide) (by decide) (by decide) (by decide) rfl ?_
  change ia _ _ _ _ (_, _, .ref 134 :: _, mm_331)
  refine iq_putR hS 50 J_MPlaceRows_init_d47 lf_14_29 (Or.inr ⟨rfl, rfl⟩) (Or.inr ⟨_, rfl⟩) ⟨by decide, rfl⟩ rfl ?_
  change ia _ _ _ _ (_, _, _, mm_332)
  refine iq_aload_n hS 51 J_MPlaceRows_init_d50 h0 rfl ?_
  refine iq_sipush hS 54 J_MPlaceRows_init_d51 (v := 1800) (by decide +kernel) rfl ?_
  refine iq_newa hS 56 J_MPlaceRows_init_d54 (N := 1800) rfl (by decide) (by decide) (by decide) (by decide) (by decide) rfl ?_
  change ia _ _ _ _ (_, _, .ref 135 :: _, mm_333)
  refine iq_putR hS 59 J_MPlaceRows_init_d56 lf_14_32 (Or.inr ⟨rfl, rfl⟩) (Or.inr ⟨_, rfl⟩) ⟨by decide, rfl⟩ rfl ?_
  change ia _ _ _ _ (_, _, _, mm_334)
  exact iq_ret J_MPlaceRows_init_d59 rfl ⟨rfl, rfl⟩
theorem J_M_init_d0 : decode J_M_init.2.1 0 = .ok (.aload_n 0, 1) := by decide +kernel
theorem J_M_init_d1 : decode J_M_init.2.1 1 = .ok (.invokespecial 1, 3) := by decide +kernel
theorem J_M_init_d4 : decode J_M_init.2.1 4 = .ok (.aload_n 0, 1) := by decide +kernel
theorem J_M_init_d5 : decode J_M_init.2.1 5 = .ok (.sipush 4096, 3) := by decide +kernel
theorem J_M_init_d8 : decode J_M_init.2.1 8 = .ok (.newarray .int, 2) := by decide +kernel
theorem J_M_init_d10 : decode J_M_init.2.1 10 = .ok (.putfield 7, 3) := by decide +kernel
theorem J_M_init_d13 : decode J_M_init.2.1 13 = .ok (.aload_n 0, 1) := by decide +kernel
theorem J_M_init_d14 : decode J_M_init.2.1 14 = .ok (.new 13, 3) := by decide +kernel
theorem J_M_init_d17 : decode J_M_init.2.1 17 = .ok (.dup, 1) := by decide +kernel
theorem J_M_init_d18 : decode J_M_init.2.1 18 = .ok (.invokespecial 15, 3) := by decide +kernel
theorem J_M_init_d21 : decode J_M_init.2.1 21 = .ok (.putfield 16, 3) := by decide +kernel
theorem J_M_init_d24 : decode J_M_init.2.1 24 = .ok (.aload_n 0, 1) := by decide +kernel
theorem J_M_init_d25 : decode J_M_init.2.1 25 = .ok (.new 20, 3) := by decide +kernel
theorem J_M_init_d28 : decode J_M_init.2.1 28 = .ok (.dup, 1) := by decide +kernel
theorem J_M_init_d29 : decode J_M_init.2.1 29 = .ok (.invokespecial 22, 3) := by decide +kernel
theorem J_M_init_d32 : decode J_M_init.2.1 32 = .ok (.putfield 23, 3) := by decide +kernel
theorem J_M_init_d35 : decode J_M_init.2.1 35 = .ok (.aload_n 0, 1) := by decide +kernel
theorem J_M_init_d36 : decode J_M_init.2.1 36 = .ok (.new 27, 3) := by decide +kernel
theorem J_M_init_d39 : decode J_M_init.2.1 39 = .ok (.dup, 1) := by decide +kernel
theorem J_M_init_d40 : decode J_M_init.2.1 40 = .ok (.invokespecial 29, 3) := by decide +kernel
theorem J_M_init_d43 : decode J_M_init.2.1 43 = .ok (.putfield 30, 3) := by decide +kernel
theorem J_M_init_d46 : decode J_M_init.2.1 46 = .ok (.aload_n 0, 1) := by decide +kernel
theorem J_M_init_d47 : decode J_M_init.2.1 47 = .ok (.new 34, 3) := by decide +kernel
theorem J_M_init_d50 : decode J_M_init.2.1 50 = .ok (.dup, 1) := by decide +kernel
theorem J_M_init_d51 : decode J_M_init.2.1 51 = .ok (.invokespecial 36, 3) := by decide +kernel
theorem J_M_init_d54 : decode J_M_init.2.1 54 = .ok (.putfield 37, 3) := by decide +kernel
theorem J_M_init_d57 : decode J_M_init.2.1 57 = .ok (.aload_n 0, 1) := by decide +kernel
theorem J_M_init_d58 : decode J_M_init.2.1 58 = .ok (.new 41, 3) := by decide +kernel
theorem J_M_init_d61 : decode J_M_init.2.1 61 = .ok (.dup, 1) := by decide +kernel
theorem J_M_init_d62 : decode J_M_init.2.1 62 = .ok (.invokespecial 43, 3) := by decide +kernel
theorem J_M_init_d65 : decode J_M_init.2.1 65 = .ok (.putfield 44, 3) := by decide +kernel
theorem J_M_init_d68 : decode J_M_init.2.1 68 = .ok (.aload_n 0, 1) := by decide +kernel
theorem J_M_init_d69 : decode J_M_init.2.1 69 = .ok (.bipush 120, 2) := by decide +kernel
theorem J_M_init_d71 : decode J_M_init.2.1 71 = .ok (.newarray .int, 2) := by decide +kernel
theorem J_M_init_d73 : decode J_M_init.2.1 73 = .ok (.putfield 48, 3) := by decide +kernel
theorem J_M_init_d76 : decode J_M_init.2.1 76 = .ok (.aload_n 0, 1) := by decide +kernel
theorem J_M_init_d77 : decode J_M_init.2.1 77 = .ok (.iconst (-1), 1) := by decide +kernel
theorem J_M_init_d78 : decode J_M_init.2.1 78 = .ok (.putfield 51, 3) := by decide +kernel
theorem J_M_init_d81 : decode J_M_init.2.1 81 = .ok (.aload_n 0, 1) := by decide +kernel
theorem J_M_init_d82 : decode J_M_init.2.1 82 = .ok (.sipush 3000, 3) := by decide +kernel
theorem J_M_init_d85 : decode J_M_init.2.1 85 = .ok (.newarray .int, 2) := by decide +kernel
theorem J_M_init_d87 : decode J_M_init.2.1 87 = .ok (.putfield 55, 3) := by decide +kernel
theorem J_M_init_d90 : decode J_M_init.2.1 90 = .ok (.return_, 1) := by decide +kernel
set_option maxRecDepth 20000 in
set_option maxHeartbeats 40000000 in
theorem cs_18 {L : Nat} {xs : Nat → Int32} {dep : Nat} : ia (tb_G L xs) (dep + 1) J_M_init (fun v M1 => v = none ∧ M1 = mm_340) (0, lv_args 0 [.ref 69], [], mm_151) := by
  have hS : im_St (tb_G L xs) (dep + 1) J_M_init (ia (tb_G L xs) (dep + 1) J_M_init (fun v M1 => v = none ∧ M1 = mm_340)) := ia_St
  have h0 : im_lk (lv_args 0 [.ref 69]) 0 = some (.ref 69) := rfl
  refine iq_aload_n hS 1 J_M_init_d0 h0 rfl ?_
  refine iq_oinit hS 4 J_M_init_d1 lo_17_1 (Nat.le_of_ble_eq_true rfl) rfl ?_
  refine iq_aload_n hS 5 J_M_init_d4 h0 rfl ?_
  refine iq_sipush hS 8 J_M_init_d5 (v := 4096) (by decide +kernel) rfl ?_
  refine iq_newa hS 10 J_M_init_d8 (N := 4096) rfl (by decide) (by decide) (by decide) (by decide) (by decide) rfl ?_
  change ia _ _ _ _ (_, _, .ref 70 :: _, mm_152)
  refine iq_putR hS 13 J_M_init_d10 lf_17_7 (Or.inr ⟨rfl, rfl⟩) (Or.inr ⟨_, rfl⟩) ⟨by decide, rfl⟩ rfl ?_
  change ia _ _ _ _ (_, _, _, mm_153)
  refine iq_aload_n hS 14 J_M_init_d13 h0 rfl ?_
  refine iq_new 17 J_M_init_d14 ln_17_13 rfl (by decide) (by decide) rfl ?_
  change ia _ _ _ _ (_, _, .ref 71 :: _, mm_154)
  refine iq_dup hS 18 J_M_init_d17 rfl rfl ?_
  refine iq_call hS 21 J_M_init_d18 rfl (pr_inst (vs := []) lc_17_15 lT_263 rfl rfl (by decide) (by decide) rfl (Nat.le_of_ble_eq_true rfl) (Nat.le_of_ble_eq_true rfl) (fun q => absurd q (by decide))) cs_13 rfl ?_
  rintro v M1 ⟨rfl, rfl⟩
  refine iq_putR hS 24 J_M_init_d21 lf_17_16 (Or.inr ⟨rfl, rfl⟩) (Or.inl ⟨_, rfl⟩) ⟨by decide, rfl⟩ rfl ?_
  change ia _ _ _ _ (_, _, _, mm_190)
  refine iq_aload_n hS 25 J_M_init_d24 h0 rfl ?_
  refine iq_new 28 J_M_init_d25 ln_17_20 rfl (by decide) (by decide) rfl ?_
  change ia _ _ _ _ (_, _, .ref 89 :: _, mm_191)
  refine iq_dup hS 29 J_M_init_d28 rfl rfl ?_
  refine iq_call hS 32 J_M_init_d29 rfl (pr_inst (vs := []) lc_17_22 lT_264 rfl rfl (by decide) (by decide) rfl (Nat.le_of_ble_eq_true rfl) (Nat.le_of_ble_eq_true rfl) (fun q => absurd q (by decide))) cs_14 rfl ?_
  rintro v M1 ⟨rfl, rfl⟩
  refine iq_putR hS 35 J_M_init_d32 lf_17_23 (Or.inr ⟨rfl, rfl⟩) (Or.inl ⟨_, rfl⟩) ⟨by decide, rfl⟩ rfl ?_
  change ia _ _ _ _ (_, _, _, mm_208)
  refine iq_aload_n hS 36 J_M_init_d35 h0 rfl ?_
  refine iq_new 39 J_M_init_d36 ln_17_27 rfl (by decide) (by decide) rfl ?_
  change ia _ _ _ _ (_, _, .ref 96 :: _, mm_209)
  refine iq_dup hS 40 J_M_init_d39 rfl rfl ?_
  refine iq_call hS 43 J_M_init_d40 rfl (pr_inst (vs := []) lc_17_29 lT_265 rfl rfl (by decide) (by decide) rfl (Nat.le_of_ble_eq_true rfl) (Nat.le_of_ble_eq_true rfl) (fun q => absurd q (by decide))) cs_15 rfl ?_
  rintro v M1 ⟨rfl, rfl⟩
  refine iq_putR hS 46 J_M_init_d43 lf_17_30 (Or.inr ⟨rfl, rfl⟩) (Or.inl ⟨_, rfl⟩) ⟨by decide, rfl⟩ rfl ?_
  change ia _ _ _ _ (_, _, _, mm_245)
  refine iq_aload_n hS 47 J_M_init_d46 h0 rfl ?_
  refine iq_new 50 J_M_init_d47 ln_17_34 rfl (by decide) (by decide) rfl ?_
  change ia _ _ _ _ (_, _, .ref 108 :: _, mm_246)
  refine iq_dup hS 51 J_M_init_d50 rfl rfl ?_
  refine iq_call hS 54 J_M_init_d51 rfl (pr_inst (vs := []) lc_17_36 lT_266 rfl rfl (by decide) (by decide) rfl (Nat.le_of_ble_eq_true rfl) (Nat.le_of_ble_eq_true rfl) (fun q => absurd q (by decide))) cs_16 rfl ?_
  rintro v M1 ⟨rfl, rfl⟩
  refine iq_putR hS 57 J_M_init_d54 lf_17_37 (Or.inr ⟨rfl, rfl⟩) (Or.inl ⟨_, rfl⟩) ⟨by decide, rfl⟩ rfl ?_
  change ia _ _ _ _ (_, _, _, mm_321)
  refine iq_aload_n hS 58 J_M_init_d57 h0 rfl ?_
  refine iq_new 61 J_M_init_d58 ln_17_41 rfl (by decide) (by decide) rfl ?_
  change ia _ _ _ _ (_, _, .ref 130 :: _, mm_322)
  refine iq_dup hS 62 J_M_init_d61 rfl rfl ?_
  refine iq_call hS 65 J_M_init_d62 rfl (pr_inst (vs := []) lc_17_43 lT_267 rfl rfl (by decide) (by decide) rfl (Nat.le_of_ble_eq_true rfl) (Nat.le_of_ble_eq_true rfl) (fun q => absurd q (by decide))) cs_17 rfl ?_
  rintro v M1 ⟨rfl, rfl⟩
  refine iq_putR hS 68 J_M_init_d65 lf_17_44 (Or.inr ⟨rfl, rfl⟩) (Or.inl ⟨_, rfl⟩) ⟨by decide, rfl⟩ rfl ?_
  change ia _ _ _ _ (_, _, _, mm_335)
  refine iq_aload_n hS 69 J_M_init_d68 h0 rfl ?_
  refine iq_bipush hS 71 J_M_init_d69 (v := 120) (by decide +kernel) rfl ?_
  refine iq_newa hS 73 J_M_init_d71 (N := 120) rfl (by decide) (by decide) (by decide) (by decide) (by decide) rfl ?_
  change ia _ _ _ _ (_, _, .ref 136 :: _, mm_336)
  refine iq_putR hS 76 J_M_init_d73 lf_17_48 (Or.inr ⟨rfl, rfl⟩) (Or.inr ⟨_, rfl⟩) ⟨by decide, rfl⟩ rfl ?_
  change ia _ _ _ _ (_, _, _, mm_337)
  refine iq_aload_n hS 77 J_M_init_d76 h0 rfl ?_
  refine iq_iconst hS 78 J_M_init_d77 (v := (-1)) (by decide +kernel) rfl ?_
  refine iq_putI hS 81 J_M_init_d78 lf_17_51 (Or.inl rfl) rfl ⟨by decide, rfl⟩ rfl ?_
  change ia _ _ _ _ (_, _, _, mm_338)
  refine iq_aload_n hS 82 J_M_init_d81 h0 rfl ?_
  refine iq_sipush hS 85 J_M_init_d82 (v := 3000) (by decide +kernel) rfl ?_
  refine iq_newa hS 87 J_M_init_d85 (N := 3000) rfl (by decide) (by decide) (by decide) (by decide) (by decide) rfl ?_
  change ia _ _ _ _ (_, _, .ref 137 :: _, mm_339)
  refine iq_putR hS 90 J_M_init_d87 lf_17_55 (Or.inr ⟨rfl, rfl⟩) (Or.inr ⟨_, rfl⟩) ⟨by decide, rfl⟩ rfl ?_
  change ia _ _ _ _ (_, _, _, mm_340)
  exact iq_ret J_M_init_d90 rfl ⟨rfl, rfl⟩
