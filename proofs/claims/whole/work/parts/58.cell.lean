/-! CELL (CLASS) -/
theorem J_HPen_rowsOf_d0 : decode J_HPen_rowsOf.2.1 0 = .ok (.aload_n 0, 1) := by decide +kernel
theorem J_HPen_rowsOf_d1 : decode J_HPen_rowsOf.2.1 1 = .ok (.getfield 9, 3) := by decide +kernel
theorem J_HPen_rowsOf_d4 : decode J_HPen_rowsOf.2.1 4 = .ok (.iconst 3, 1) := by decide +kernel
theorem J_HPen_rowsOf_d5 : decode J_HPen_rowsOf.2.1 5 = .ok (.iload_n 1, 1) := by decide +kernel
theorem J_HPen_rowsOf_d6 : decode J_HPen_rowsOf.2.1 6 = .ok (.imul, 1) := by decide +kernel
theorem J_HPen_rowsOf_d7 : decode J_HPen_rowsOf.2.1 7 = .ok (.iconst 1, 1) := by decide +kernel
theorem J_HPen_rowsOf_d8 : decode J_HPen_rowsOf.2.1 8 = .ok (.iadd, 1) := by decide +kernel
theorem J_HPen_rowsOf_d9 : decode J_HPen_rowsOf.2.1 9 = .ok (.iaload, 1) := by decide +kernel
theorem J_HPen_rowsOf_d10 : decode J_HPen_rowsOf.2.1 10 = .ok (.ireturn, 1) := by decide +kernel
theorem H_rowsOf {L : Nat} {xs : Nat → Int32} {dep : Nat} {u : Bool} {M : im_M} {f : Nat} (hf : f ≤ 3) (hM : lw_S u M) : ia (tb_G L xs) dep J_HPen_rowsOf (fun v M1 => v = some (.int (im_i M 57 (3 * f + 1))) ∧ M1 = M) (0, lv_args 0 [.ref 56, .int (nI f)], [], M) := by
  have hS : im_St (tb_G L xs) dep J_HPen_rowsOf (ia (tb_G L xs) dep J_HPen_rowsOf (fun v M1 => v = some (.int (im_i M 57 (3 * f + 1))) ∧ M1 = M)) := ia_St
  have e1 : (3 : Int32) * nI f + 1 = nI (3 * f + 1) := by rw [show (3 : Int32) * nI f = nI (3 * f) from nI_mul 3 f]; exact nI_1 _
  have l0 : im_lk (lv_args 0 [.ref 56, .int (nI f)]) 0 = some (.ref 56) := rfl
  have l1 : im_lk (lv_args 0 [.ref 56, .int (nI f)]) 1 = some (.int (nI f)) := rfl
  refine iq_aload_n hS 1 J_HPen_rowsOf_d0 l0 rfl ?_
  refine iq_getR hS 4 J_HPen_rowsOf_d1 lf_6_9 (Or.inr ⟨_, rfl⟩) (ka_56 hM) (ra_56_3 hM) rfl ?_
  refine iq_iconst hS 5 J_HPen_rowsOf_d4 (v := 3) (by decide +kernel) rfl ?_
  refine iq_iload_n hS 6 J_HPen_rowsOf_d5 l1 rfl ?_
  refine iq_imul hS 7 J_HPen_rowsOf_d6 rfl ?_
  refine iq_iconst hS 8 J_HPen_rowsOf_d7 (v := 1) (by decide +kernel) rfl ?_
  refine iq_iadd hS 9 J_HPen_rowsOf_d8 rfl ?_
  refine iq_iaload hS 10 J_HPen_rowsOf_d9 ⟨(ka_57 hM).1, (ka_57 hM).2, by rw [e1, nI_toInt (by omega)]; omega, ix_lt (kl_57 hM) (by rw [e1, nI_toInt (by omega)]; omega)⟩ rfl ?_
  rw [e1, nI_clamp (by omega)]
  exact iq_iret J_HPen_rowsOf_d10 rfl rfl ⟨rfl, rfl⟩
theorem J_HPen_newRow_d0 : decode J_HPen_newRow.2.1 0 = .ok (.aload_n 0, 1) := by decide +kernel
theorem J_HPen_newRow_d1 : decode J_HPen_newRow.2.1 1 = .ok (.getfield 16, 3) := by decide +kernel
theorem J_HPen_newRow_d4 : decode J_HPen_newRow.2.1 4 = .ok (.iload_n 1, 1) := by decide +kernel
theorem J_HPen_newRow_d5 : decode J_HPen_newRow.2.1 5 = .ok (.sipush 256, 3) := by decide +kernel
theorem J_HPen_newRow_d8 : decode J_HPen_newRow.2.1 8 = .ok (.imul, 1) := by decide +kernel
theorem J_HPen_newRow_d9 : decode J_HPen_newRow.2.1 9 = .ok (.iload_n 2, 1) := by decide +kernel
theorem J_HPen_newRow_d10 : decode J_HPen_newRow.2.1 10 = .ok (.iadd, 1) := by decide +kernel
theorem J_HPen_newRow_d11 : decode J_HPen_newRow.2.1 11 = .ok (.bipush 32, 2) := by decide +kernel
theorem J_HPen_newRow_d13 : decode J_HPen_newRow.2.1 13 = .ok (.imul, 1) := by decide +kernel
theorem J_HPen_newRow_d14 : decode J_HPen_newRow.2.1 14 = .ok (.iload_n 3, 1) := by decide +kernel
theorem J_HPen_newRow_d15 : decode J_HPen_newRow.2.1 15 = .ok (.iadd, 1) := by decide +kernel
theorem J_HPen_newRow_d16 : decode J_HPen_newRow.2.1 16 = .ok (.iload 4, 2) := by decide +kernel
theorem J_HPen_newRow_d18 : decode J_HPen_newRow.2.1 18 = .ok (.iastore, 1) := by decide +kernel
theorem J_HPen_newRow_d19 : decode J_HPen_newRow.2.1 19 = .ok (.return_, 1) := by decide +kernel
theorem H_newRow {L : Nat} {xs : Nat → Int32} {dep : Nat} {u : Bool} {M : im_M} {f c r : Nat} {x : Int32} (hf : f ≤ 3) (hc : c ≤ 255) (hr : r < 32) (hM : lw_S u M) : ia (tb_G L xs) dep J_HPen_newRow (fun v M1 => v = none ∧ M1 = im_setI M 58 ((f * 256 + c) * 32 + r) x) (0, lv_args 0 [.ref 56, .int (nI f), .int (nI c), .int (nI r), .int x], [], M) := by
  have hS : im_St (tb_G L xs) dep J_HPen_newRow (ia (tb_G L xs) dep J_HPen_newRow (fun v M1 => v = none ∧ M1 = im_setI M 58 ((f * 256 + c) * 32 + r) x)) := ia_St
  have e1 : (nI f * (256 : Int32) + nI c) * 32 + nI r = nI ((f * 256 + c) * 32 + r) := by
    rw [show nI f * (256 : Int32) = nI (f * 256) from nI_mul f 256, nI_add, show nI (f * 256 + c) * (32 : Int32) = nI ((f * 256 + c) * 32) from nI_mul _ 32, nI_add]
  have l0 : im_lk (lv_args 0 [.ref 56, .int (nI f), .int (nI c), .int (nI r), .int x]) 0 = some (.ref 56) := rfl
  have l1 : im_lk (lv_args 0 [.ref 56, .int (nI f), .int (nI c), .int (nI r), .int x]) 1 = some (.int (nI f)) := rfl
  have l2 : im_lk (lv_args 0 [.ref 56, .int (nI f), .int (nI c), .int (nI r), .int x]) 2 = some (.int (nI c)) := rfl
  have l3 : im_lk (lv_args 0 [.ref 56, .int (nI f), .int (nI c), .int (nI r), .int x]) 3 = some (.int (nI r)) := rfl
  have l4 : im_lk (lv_args 0 [.ref 56, .int (nI f), .int (nI c), .int (nI r), .int x]) 4 = some (.int x) := rfl
  refine iq_aload_n hS 1 J_HPen_newRow_d0 l0 rfl ?_
  refine iq_getR hS 4 J_HPen_newRow_d1 lf_6_16 (Or.inr ⟨_, rfl⟩) (ka_56 hM) (ra_56_4 hM) rfl ?_
  refine iq_iload_n hS 5 J_HPen_newRow_d4 l1 rfl ?_
  refine iq_sipush hS 8 J_HPen_newRow_d5 (v := 256) (by decide +kernel) rfl ?_
  refine iq_imul hS 9 J_HPen_newRow_d8 rfl ?_
  refine iq_iload_n hS 10 J_HPen_newRow_d9 l2 rfl ?_
  refine iq_iadd hS 11 J_HPen_newRow_d10 rfl ?_
  refine iq_bipush hS 13 J_HPen_newRow_d11 (v := 32) (by decide +kernel) rfl ?_
  refine iq_imul hS 14 J_HPen_newRow_d13 rfl ?_
  refine iq_iload_n hS 15 J_HPen_newRow_d14 l3 rfl ?_
  refine iq_iadd hS 16 J_HPen_newRow_d15 rfl ?_
  refine iq_iload hS 18 J_HPen_newRow_d16 l4 rfl ?_
  refine iq_iastore hS 19 J_HPen_newRow_d18 ⟨(ka_58 hM).1, (ka_58 hM).2, by rw [e1, nI_toInt (by omega)]; omega, ix_lt (kl_58 hM) (by rw [e1, nI_toInt (by omega)]; omega)⟩ rfl ?_
  rw [e1, nI_clamp (by omega)]
  exact iq_ret J_HPen_newRow_d19 rfl ⟨rfl, rfl⟩
