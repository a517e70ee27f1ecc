/-! FONT AND CELL (CLASS) -/
theorem nI_mul (a b : Nat) : nI a * nI b = nI (a * b) := (Int32.ofNat_mul a b).symm
/-- what font leaves -/
def fo_M (M : im_M) (f : Nat) (w h g : Int32) : im_M := af_M (im_setI (im_setI (im_setI M 57 (3 * f) w) 57 (3 * f + 1) h) 57 (3 * f + 2) g) 58 (8192 * f) 0 8192
theorem fo_S {u : Bool} {M : im_M} {f : Nat} {w h g : Int32} (hM : lw_S u M) : lw_S u (fo_M M f w h g) := af_S (M := im_setI (im_setI (im_setI M 57 (3 * f) w) 57 (3 * f + 1) h) 57 (3 * f + 2) g) hM 8192
theorem J_HPen_newFont_d0 : decode J_HPen_newFont.2.1 0 = .ok (.aload_n 0, 1) := by decide +kernel
theorem J_HPen_newFont_d1 : decode J_HPen_newFont.2.1 1 = .ok (.getfield 9, 3) := by decide +kernel
theorem J_HPen_newFont_d4 : decode J_HPen_newFont.2.1 4 = .ok (.iconst 3, 1) := by decide +kernel
theorem J_HPen_newFont_d5 : decode J_HPen_newFont.2.1 5 = .ok (.iload_n 1, 1) := by decide +kernel
theorem J_HPen_newFont_d6 : decode J_HPen_newFont.2.1 6 = .ok (.imul, 1) := by decide +kernel
theorem J_HPen_newFont_d7 : decode J_HPen_newFont.2.1 7 = .ok (.iload_n 2, 1) := by decide +kernel
theorem J_HPen_newFont_d8 : decode J_HPen_newFont.2.1 8 = .ok (.iastore, 1) := by decide +kernel
theorem J_HPen_newFont_d9 : decode J_HPen_newFont.2.1 9 = .ok (.aload_n 0, 1) := by decide +kernel
theorem J_HPen_newFont_d10 : decode J_HPen_newFont.2.1 10 = .ok (.getfield 9, 3) := by decide +kernel
theorem J_HPen_newFont_d13 : decode J_HPen_newFont.2.1 13 = .ok (.iconst 3, 1) := by decide +kernel
theorem J_HPen_newFont_d14 : decode J_HPen_newFont.2.1 14 = .ok (.iload_n 1, 1) := by decide +kernel
theorem J_HPen_newFont_d15 : decode J_HPen_newFont.2.1 15 = .ok (.imul, 1) := by decide +kernel
theorem J_HPen_newFont_d16 : decode J_HPen_newFont.2.1 16 = .ok (.iconst 1, 1) := by decide +kernel
theorem J_HPen_newFont_d17 : decode J_HPen_newFont.2.1 17 = .ok (.iadd, 1) := by decide +kernel
theorem J_HPen_newFont_d18 : decode J_HPen_newFont.2.1 18 = .ok (.iload_n 3, 1) := by decide +kernel
theorem J_HPen_newFont_d19 : decode J_HPen_newFont.2.1 19 = .ok (.iastore, 1) := by decide +kernel
theorem J_HPen_newFont_d20 : decode J_HPen_newFont.2.1 20 = .ok (.aload_n 0, 1) := by decide +kernel
theorem J_HPen_newFont_d21 : decode J_HPen_newFont.2.1 21 = .ok (.getfield 9, 3) := by decide +kernel
theorem J_HPen_newFont_d24 : decode J_HPen_newFont.2.1 24 = .ok (.iconst 3, 1) := by decide +kernel
theorem J_HPen_newFont_d25 : decode J_HPen_newFont.2.1 25 = .ok (.iload_n 1, 1) := by decide +kernel
theorem J_HPen_newFont_d26 : decode J_HPen_newFont.2.1 26 = .ok (.imul, 1) := by decide +kernel
theorem J_HPen_newFont_d27 : decode J_HPen_newFont.2.1 27 = .ok (.iconst 2, 1) := by decide +kernel
theorem J_HPen_newFont_d28 : decode J_HPen_newFont.2.1 28 = .ok (.iadd, 1) := by decide +kernel
theorem J_HPen_newFont_d29 : decode J_HPen_newFont.2.1 29 = .ok (.iload 4, 2) := by decide +kernel
theorem J_HPen_newFont_d31 : decode J_HPen_newFont.2.1 31 = .ok (.iastore, 1) := by decide +kernel
theorem J_HPen_newFont_d32 : decode J_HPen_newFont.2.1 32 = .ok (.aload_n 0, 1) := by decide +kernel
theorem J_HPen_newFont_d33 : decode J_HPen_newFont.2.1 33 = .ok (.getfield 16, 3) := by decide +kernel
theorem J_HPen_newFont_d36 : decode J_HPen_newFont.2.1 36 = .ok (.iload_n 1, 1) := by decide +kernel
theorem J_HPen_newFont_d37 : decode J_HPen_newFont.2.1 37 = .ok (.sipush 256, 3) := by decide +kernel
theorem J_HPen_newFont_d40 : decode J_HPen_newFont.2.1 40 = .ok (.imul, 1) := by decide +kernel
theorem J_HPen_newFont_d41 : decode J_HPen_newFont.2.1 41 = .ok (.bipush 32, 2) := by decide +kernel
theorem J_HPen_newFont_d43 : decode J_HPen_newFont.2.1 43 = .ok (.imul, 1) := by decide +kernel
theorem J_HPen_newFont_d44 : decode J_HPen_newFont.2.1 44 = .ok (.iload_n 1, 1) := by decide +kernel
theorem J_HPen_newFont_d45 : decode J_HPen_newFont.2.1 45 = .ok (.iconst 1, 1) := by decide +kernel
theorem J_HPen_newFont_d46 : decode J_HPen_newFont.2.1 46 = .ok (.iadd, 1) := by decide +kernel
theorem J_HPen_newFont_d47 : decode J_HPen_newFont.2.1 47 = .ok (.sipush 256, 3) := by decide +kernel
theorem J_HPen_newFont_d50 : decode J_HPen_newFont.2.1 50 = .ok (.imul, 1) := by decide +kernel
theorem J_HPen_newFont_d51 : decode J_HPen_newFont.2.1 51 = .ok (.bipush 32, 2) := by decide +kernel
theorem J_HPen_newFont_d53 : decode J_HPen_newFont.2.1 53 = .ok (.imul, 1) := by decide +kernel
theorem J_HPen_newFont_d54 : decode J_HPen_newFont.2.1 54 = .ok (.iconst 0, 1) := by decide +kernel
theorem J_HPen_newFont_d55 : decode J_HPen_newFont.2.1 55 = .ok (.invokestatic 31, 3) := by decide +kernel
theorem J_HPen_newFont_d58 : decode J_HPen_newFont.2.1 58 = .ok (.return_, 1) := by decide +kernel
theorem H_newFont {L : Nat} {xs : Nat → Int32} {dep : Nat} {u : Bool} {M : im_M} {f : Nat} {w h g : Int32} (hf : f ≤ 3) (hM : lw_S u M) : ia (tb_G L xs) (dep + 2) J_HPen_newFont (fun r M1 => r = none ∧ M1 = fo_M M f w h g) (0, lv_args 0 [.ref 56, .int (nI f), .int w, .int h, .int g], [], M) := by
  have hS : im_St (tb_G L xs) (dep + 2) J_HPen_newFont (ia (tb_G L xs) (dep + 2) J_HPen_newFont (fun r M1 => r = none ∧ M1 = fo_M M f w h g)) := ia_St
  have e0 : (3 : Int32) * nI f = nI (3 * f) := nI_mul 3 f
  have e1 : (3 : Int32) * nI f + 1 = nI (3 * f + 1) := by rw [e0]; exact nI_1 _
  have e2 : (3 : Int32) * nI f + 2 = nI (3 * f + 2) := by rw [e0]; exact nI_add _ 2
  have e3 : nI f * (256 : Int32) * 32 = nI (8192 * f) := by
    rw [show nI f * (256 : Int32) = nI (f * 256) from nI_mul f 256, show nI (f * 256) * (32 : Int32) = nI (f * 256 * 32) from nI_mul (f * 256) 32]
    congr 1
    omega
  have e4 : (nI f + 1) * (256 : Int32) * 32 = nI (8192 * (f + 1)) := by
    rw [nI_1, show nI (f + 1) * (256 : Int32) = nI ((f + 1) * 256) from nI_mul (f + 1) 256, show nI ((f + 1) * 256) * (32 : Int32) = nI ((f + 1) * 256 * 32) from nI_mul ((f + 1) * 256) 32]
    congr 1
    omega
  have l0 : im_lk (lv_args 0 [.ref 56, .int (nI f), .int w, .int h, .int g]) 0 = some (.ref 56) := rfl
  have l1 : im_lk (lv_args 0 [.ref 56, .int (nI f), .int w, .int h, .int g]) 1 = some (.int (nI f)) := rfl
  have l2 : im_lk (lv_args 0 [.ref 56, .int (nI f), .int w, .int h, .int g]) 2 = some (.int w) := rfl
  have l3 : im_lk (lv_args 0 [.ref 56, .int (nI f), .int w, .int h, .int g]) 3 = some (.int h) := rfl
  have l4 : im_lk (lv_args 0 [.ref 56, .int (nI f), .int w, .int h, .int g]) 4 = some (.int g) := rfl
  refine iq_aload_n hS 1 J_HPen_newFont_d0 l0 rfl ?_
  refine iq_getR hS 4 J_HPen_newFont_d1 lf_6_9 (Or.inr ⟨_, rfl⟩) (ka_56 hM) (ra_56_3 hM) rfl ?_
  refine iq_iconst hS 5 J_HPen_newFont_d4 (v := 3) (by decide +kernel) rfl ?_
  refine iq_iload_n hS 6 J_HPen_newFont_d5 l1 rfl ?_
  refine iq_imul hS 7 J_HPen_newFont_d6 rfl ?_
  refine iq_iload_n hS 8 J_HPen_newFont_d7 l2 rfl ?_
  refine iq_iastore hS 9 J_HPen_newFont_d8 ⟨(ka_57 hM).1, (ka_57 hM).2, by rw [e0, nI_toInt (by omega)]; omega, ix_lt (kl_57 hM) (by rw [e0, nI_toInt (by omega)]; omega)⟩ rfl ?_
  rw [e0, nI_clamp (by omega)]
  refine iq_aload_n hS 10 J_HPen_newFont_d9 l0 rfl ?_
  refine iq_getR hS 13 J_HPen_newFont_d10 lf_6_9 (Or.inr ⟨_, rfl⟩) (ka_56 hM) (ra_56_3 hM) rfl ?_
  refine iq_iconst hS 14 J_HPen_newFont_d13 (v := 3) (by decide +kernel) rfl ?_
  refine iq_iload_n hS 15 J_HPen_newFont_d14 l1 rfl ?_
  refine iq_imul hS 16 J_HPen_newFont_d15 rfl ?_
  refine iq_iconst hS 17 J_HPen_newFont_d16 (v := 1) (by decide +kernel) rfl ?_
  refine iq_iadd hS 18 J_HPen_newFont_d17 rfl ?_
  refine iq_iload_n hS 19 J_HPen_newFont_d18 l3 rfl ?_
  refine iq_iastore hS 20 J_HPen_newFont_d19 ⟨(ka_57 hM).1, (ka_57 hM).2, by rw [e1, nI_toInt (by omega)]; omega, ix_lt (kl_57 hM) (by rw [e1, nI_toInt (by omega)]; omega)⟩ rfl ?_
  rw [e1, nI_clamp (by omega)]
  refine iq_aload_n hS 21 J_HPen_newFont_d20 l0 rfl ?_
  refine iq_getR hS 24 J_HPen_newFont_d21 lf_6_9 (Or.inr ⟨_, rfl⟩) (ka_56 hM) (ra_56_3 hM) rfl ?_
  refine iq_iconst hS 25 J_HPen_newFont_d24 (v := 3) (by decide +kernel) rfl ?_
  refine iq_iload_n hS 26 J_HPen_newFont_d25 l1 rfl ?_
  refine iq_imul hS 27 J_HPen_newFont_d26 rfl ?_
  refine iq_iconst hS 28 J_HPen_newFont_d27 (v := 2) (by decide +kernel) rfl ?_
  refine iq_iadd hS 29 J_HPen_newFont_d28 rfl ?_
  refine iq_iload hS 31 J_HPen_newFont_d29 l4 rfl ?_
  refine iq_iastore hS 32 J_HPen_newFont_d31 ⟨(ka_57 hM).1, (ka_57 hM).2, by rw [e2, nI_toInt (by omega)]; omega, ix_lt (kl_57 hM) (by rw [e2, nI_toInt (by omega)]; omega)⟩ rfl ?_
  rw [e2, nI_clamp (by omega)]
  refine iq_aload_n hS 33 J_HPen_newFont_d32 l0 rfl ?_
  refine iq_getR hS 36 J_HPen_newFont_d33 lf_6_16 (Or.inr ⟨_, rfl⟩) (ka_56 hM) (ra_56_4 hM) rfl ?_
  refine iq_iload_n hS 37 J_HPen_newFont_d36 l1 rfl ?_
  refine iq_sipush hS 40 J_HPen_newFont_d37 (v := 256) (by decide +kernel) rfl ?_
  refine iq_imul hS 41 J_HPen_newFont_d40 rfl ?_
  refine iq_bipush hS 43 J_HPen_newFont_d41 (v := 32) (by decide +kernel) rfl ?_
  refine iq_imul hS 44 J_HPen_newFont_d43 rfl ?_
  refine iq_iload_n hS 45 J_HPen_newFont_d44 l1 rfl ?_
  refine iq_iconst hS 46 J_HPen_newFont_d45 (v := 1) (by decide +kernel) rfl ?_
  refine iq_iadd hS 47 J_HPen_newFont_d46 rfl ?_
  refine iq_sipush hS 50 J_HPen_newFont_d47 (v := 256) (by decide +kernel) rfl ?_
  refine iq_imul hS 51 J_HPen_newFont_d50 rfl ?_
  refine iq_bipush hS 53 J_HPen_newFont_d51 (v := 32) (by decide +kernel) rfl ?_
  refine iq_imul hS 54 J_HPen_newFont_d53 rfl ?_
  refine iq_iconst hS 55 J_HPen_newFont_d54 (v := 0) (by decide +kernel) rfl ?_
  rw [e3, e4]
  refine iq_call hS 58 J_HPen_newFont_d55 rfl (pr_stat (vs := [_, _, _, _]) lc_6_31 lT_53 rfl rfl (by decide) rfl (Nat.le_of_ble_eq_true rfl) (Nat.le_of_ble_eq_true rfl)) (A_fill (f := 8192 * f) (t := 8192 * (f + 1)) (N := 32768) (by omega) (by omega) (by decide) (ka_58 hM) (kl_58 hM)) rfl ?_
  rintro v M1 ⟨rfl, rfl⟩
  exact iq_ret J_HPen_newFont_d58 rfl ⟨rfl, by rw [show 8192 * (f + 1) - 8192 * f = 8192 by omega]; rfl⟩
