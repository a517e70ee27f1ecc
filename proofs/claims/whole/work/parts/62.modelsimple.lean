/-! FAULT, PLACE, DRAWN (REFERENCE) -/
theorem J_MScriptRows_fault_d0 : decode J_MScriptRows_fault.2.1 0 = .ok (.aload_n 0, 1) := by decide +kernel
theorem J_MScriptRows_fault_d1 : decode J_MScriptRows_fault.2.1 1 = .ok (.iconst 0, 1) := by decide +kernel
theorem J_MScriptRows_fault_d2 : decode J_MScriptRows_fault.2.1 2 = .ok (.putfield 65, 3) := by decide +kernel
theorem J_MScriptRows_fault_d5 : decode J_MScriptRows_fault.2.1 5 = .ok (.aload_n 0, 1) := by decide +kernel
theorem J_MScriptRows_fault_d6 : decode J_MScriptRows_fault.2.1 6 = .ok (.getfield 249, 3) := by decide +kernel
theorem J_MScriptRows_fault_d9 : decode J_MScriptRows_fault.2.1 9 = .ok (.ireturn, 1) := by decide +kernel
theorem S_fault {L : Nat} {xs : Nat → Int32} {dep : Nat} {w : Bool} {M : im_M}  (hM : lw_S w M) : ia (tb_G L xs) dep J_MScriptRows_fault (fun v M1 => v = some (.int (im_i (im_setI M 71 0 (0)) 71 13)) ∧ M1 = (im_setI M 71 0 (0))) (0, lv_args 0 [.ref 71], [], M) := by
  have hS : im_St (tb_G L xs) dep J_MScriptRows_fault (ia (tb_G L xs) dep J_MScriptRows_fault (fun v M1 => v = some (.int (im_i (im_setI M 71 0 (0)) 71 13)) ∧ M1 = (im_setI M 71 0 (0)))) := ia_St
  have l0 : im_lk (lv_args 0 [.ref 71]) 0 = some (.ref 71) := rfl
  refine iq_aload_n hS 1 J_MScriptRows_fault_d0 l0 rfl ?_
  refine iq_iconst hS 2 J_MScriptRows_fault_d1 (v := 0) (by decide +kernel) rfl ?_
  refine iq_putI hS 5 J_MScriptRows_fault_d2 lf_15_65 (Or.inl rfl) rfl (ka_71 hM) rfl ?_
  refine iq_aload_n hS 6 J_MScriptRows_fault_d5 l0 rfl ?_
  refine iq_getI hS 9 J_MScriptRows_fault_d6 lf_15_249 (Or.inl rfl) (ka_71 hM) rfl ?_
  exact iq_iret J_MScriptRows_fault_d9 rfl rfl ⟨rfl, rfl⟩
theorem J_MScriptRows_place_d0 : decode J_MScriptRows_place.2.1 0 = .ok (.aload_n 0, 1) := by decide +kernel
theorem J_MScriptRows_place_d1 : decode J_MScriptRows_place.2.1 1 = .ok (.iconst 0, 1) := by decide +kernel
theorem J_MScriptRows_place_d2 : decode J_MScriptRows_place.2.1 2 = .ok (.putfield 65, 3) := by decide +kernel
theorem J_MScriptRows_place_d5 : decode J_MScriptRows_place.2.1 5 = .ok (.aload_n 0, 1) := by decide +kernel
theorem J_MScriptRows_place_d6 : decode J_MScriptRows_place.2.1 6 = .ok (.getfield 28, 3) := by decide +kernel
theorem J_MScriptRows_place_d9 : decode J_MScriptRows_place.2.1 9 = .ok (.ireturn, 1) := by decide +kernel
theorem S_place {L : Nat} {xs : Nat → Int32} {dep : Nat} {w : Bool} {M : im_M}  (hM : lw_S w M) : ia (tb_G L xs) dep J_MScriptRows_place (fun v M1 => v = some (.int (im_i (im_setI M 71 0 (0)) 71 14)) ∧ M1 = (im_setI M 71 0 (0))) (0, lv_args 0 [.ref 71], [], M) := by
  have hS : im_St (tb_G L xs) dep J_MScriptRows_place (ia (tb_G L xs) dep J_MScriptRows_place (fun v M1 => v = some (.int (im_i (im_setI M 71 0 (0)) 71 14)) ∧ M1 = (im_setI M 71 0 (0)))) := ia_St
  have l0 : im_lk (lv_args 0 [.ref 71]) 0 = some (.ref 71) := rfl
  refine iq_aload_n hS 1 J_MScriptRows_place_d0 l0 rfl ?_
  refine iq_iconst hS 2 J_MScriptRows_place_d1 (v := 0) (by decide +kernel) rfl ?_
  refine iq_putI hS 5 J_MScriptRows_place_d2 lf_15_65 (Or.inl rfl) rfl (ka_71 hM) rfl ?_
  refine iq_aload_n hS 6 J_MScriptRows_place_d5 l0 rfl ?_
  refine iq_getI hS 9 J_MScriptRows_place_d6 lf_15_28 (Or.inl rfl) (ka_71 hM) rfl ?_
  exact iq_iret J_MScriptRows_place_d9 rfl rfl ⟨rfl, rfl⟩
theorem J_MScriptRows_thrown_d0 : decode J_MScriptRows_thrown.2.1 0 = .ok (.aload_n 0, 1) := by decide +kernel
theorem J_MScriptRows_thrown_d1 : decode J_MScriptRows_thrown.2.1 1 = .ok (.getfield 65, 3) := by decide +kernel
theorem J_MScriptRows_thrown_d4 : decode J_MScriptRows_thrown.2.1 4 = .ok (.ireturn, 1) := by decide +kernel
theorem S_thrown {L : Nat} {xs : Nat → Int32} {dep : Nat} {w : Bool} {M : im_M}  (hM : lw_S w M) : ia (tb_G L xs) dep J_MScriptRows_thrown (fun v M1 => v = some (.int (im_i M 71 0)) ∧ M1 = M) (0, lv_args 0 [.ref 71], [], M) := by
  have hS : im_St (tb_G L xs) dep J_MScriptRows_thrown (ia (tb_G L xs) dep J_MScriptRows_thrown (fun v M1 => v = some (.int (im_i M 71 0)) ∧ M1 = M)) := ia_St
  have l0 : im_lk (lv_args 0 [.ref 71]) 0 = some (.ref 71) := rfl
  refine iq_aload_n hS 1 J_MScriptRows_thrown_d0 l0 rfl ?_
  refine iq_getI hS 4 J_MScriptRows_thrown_d1 lf_15_65 (Or.inl rfl) (ka_71 hM) rfl ?_
  exact iq_iret J_MScriptRows_thrown_d4 rfl rfl ⟨rfl, rfl⟩
theorem J_M_fault_d0 : decode J_M_fault.2.1 0 = .ok (.aload_n 0, 1) := by decide +kernel
theorem J_M_fault_d1 : decode J_M_fault.2.1 1 = .ok (.iconst 0, 1) := by decide +kernel
theorem J_M_fault_d2 : decode J_M_fault.2.1 2 = .ok (.putfield 58, 3) := by decide +kernel
theorem J_M_fault_d5 : decode J_M_fault.2.1 5 = .ok (.aload_n 0, 1) := by decide +kernel
theorem J_M_fault_d6 : decode J_M_fault.2.1 6 = .ok (.getfield 16, 3) := by decide +kernel
theorem J_M_fault_d9 : decode J_M_fault.2.1 9 = .ok (.invokevirtual 86, 3) := by decide +kernel
theorem J_M_fault_d12 : decode J_M_fault.2.1 12 = .ok (.ireturn, 1) := by decide +kernel
theorem M_fault {L : Nat} {xs : Nat → Int32} {dep : Nat} {w : Bool} {M : im_M} (hM : lw_S w M) : ia (tb_G L xs) (dep + 1) J_M_fault (fun r M1 => r = some (.int (im_i (im_setI (im_setI M 69 0 0) 71 0 (0)) 71 13)) ∧ M1 = (im_setI (im_setI M 69 0 0) 71 0 (0))) (0, lv_args 0 [.ref 69], [], M) := by
  have hS : im_St (tb_G L xs) (dep + 1) J_M_fault (ia (tb_G L xs) (dep + 1) J_M_fault (fun r M1 => r = some (.int (im_i (im_setI (im_setI M 69 0 0) 71 0 (0)) 71 13)) ∧ M1 = (im_setI (im_setI M 69 0 0) 71 0 (0)))) := ia_St
  have l0 : im_lk (lv_args 0 [.ref 69]) 0 = some (.ref 69) := rfl
  refine iq_aload_n hS 1 J_M_fault_d0 l0 rfl ?_
  refine iq_iconst hS 2 J_M_fault_d1 (v := 0) (by decide +kernel) rfl ?_
  refine iq_putI hS 5 J_M_fault_d2 lf_17_58 (Or.inl rfl) rfl (ka_69 hM) rfl ?_
  refine iq_aload_n hS 6 J_M_fault_d5 l0 rfl ?_
  refine iq_getR hS 9 J_M_fault_d6 lf_17_16 (Or.inl ⟨_, rfl⟩) (ka_69 hM) (ra_69_3 hM) rfl ?_
  refine iq_call hS 12 J_M_fault_d9 rfl (pr_inst (vs := []) lc_17_86 lT_320 rfl rfl (by decide) (by decide) rfl (Nat.le_of_ble_eq_true rfl) (Nat.le_of_ble_eq_true rfl) (fun _ => Or.inl (pr_b (ka_71 hM) (by decide) rfl))) (S_fault (M := (im_setI M 69 0 0)) hM) rfl ?_
  rintro v M1 ⟨rfl, rfl⟩
  exact iq_iret J_M_fault_d12 rfl rfl ⟨rfl, rfl⟩
theorem J_M_place_d0 : decode J_M_place.2.1 0 = .ok (.aload_n 0, 1) := by decide +kernel
theorem J_M_place_d1 : decode J_M_place.2.1 1 = .ok (.iconst 0, 1) := by decide +kernel
theorem J_M_place_d2 : decode J_M_place.2.1 2 = .ok (.putfield 58, 3) := by decide +kernel
theorem J_M_place_d5 : decode J_M_place.2.1 5 = .ok (.aload_n 0, 1) := by decide +kernel
theorem J_M_place_d6 : decode J_M_place.2.1 6 = .ok (.getfield 16, 3) := by decide +kernel
theorem J_M_place_d9 : decode J_M_place.2.1 9 = .ok (.invokevirtual 89, 3) := by decide +kernel
theorem J_M_place_d12 : decode J_M_place.2.1 12 = .ok (.ireturn, 1) := by decide +kernel
theorem M_place {L : Nat} {xs : Nat → Int32} {dep : Nat} {w : Bool} {M : im_M} (hM : lw_S w M) : ia (tb_G L xs) (dep + 1) J_M_place (fun r M1 => r = some (.int (im_i (im_setI (im_setI M 69 0 0) 71 0 (0)) 71 14)) ∧ M1 = (im_setI (im_setI M 69 0 0) 71 0 (0))) (0, lv_args 0 [.ref 69], [], M) := by
  have hS : im_St (tb_G L xs) (dep + 1) J_M_place (ia (tb_G L xs) (dep + 1) J_M_place (fun r M1 => r = some (.int (im_i (im_setI (im_setI M 69 0 0) 71 0 (0)) 71 14)) ∧ M1 = (im_setI (im_setI M 69 0 0) 71 0 (0)))) := ia_St
  have l0 : im_lk (lv_args 0 [.ref 69]) 0 = some (.ref 69) := rfl
  refine iq_aload_n hS 1 J_M_place_d0 l0 rfl ?_
  refine iq_iconst hS 2 J_M_place_d1 (v := 0) (by decide +kernel) rfl ?_
  refine iq_putI hS 5 J_M_place_d2 lf_17_58 (Or.inl rfl) rfl (ka_69 hM) rfl ?_
  refine iq_aload_n hS 6 J_M_place_d5 l0 rfl ?_
  refine iq_getR hS 9 J_M_place_d6 lf_17_16 (Or.inl ⟨_, rfl⟩) (ka_69 hM) (ra_69_3 hM) rfl ?_
  refine iq_call hS 12 J_M_place_d9 rfl (pr_inst (vs := []) lc_17_89 lT_322 rfl rfl (by decide) (by decide) rfl (Nat.le_of_ble_eq_true rfl) (Nat.le_of_ble_eq_true rfl) (fun _ => Or.inl (pr_b (ka_71 hM) (by decide) rfl))) (S_place (M := (im_setI M 69 0 0)) hM) rfl ?_
  rintro v M1 ⟨rfl, rfl⟩
  exact iq_iret J_M_place_d12 rfl rfl ⟨rfl, rfl⟩
