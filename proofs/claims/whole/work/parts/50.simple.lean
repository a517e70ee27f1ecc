/-! THE SIMPLEST CALLS -/
theorem ix_lt {i : Int32} {M : im_M} {a n : Nat} (h : (im_k M a).2 = n) (hi : i.toInt < (n : Int)) : i.toInt < ((im_k M a).2 : Int) := by rw [h]; exact hi
theorem pr_b {L : Nat} {xs : Nat → Int32} {M : im_M} {b c : Nat} {s : String} (h : b < im_n M ∧ (im_k M b).1 = c) (hc : c < 32) (hn : (tb_cl[c]?).map (fun q => q.1) = some s) : b < im_n M ∧ (im_k M b).1 < 32 ∧ ((ig_cl (tb_G L xs))[(im_k M b).1]?).map (fun q => q.1) = some s := ⟨h.1, by rw [h.2]; exact hc, by rw [h.2]; exact hn⟩
theorem J_H_wipe_d0 : decode J_H_wipe.2.1 0 = .ok (.aload_n 0, 1) := by decide +kernel
theorem J_H_wipe_d1 : decode J_H_wipe.2.1 1 = .ok (.getfield 10, 3) := by decide +kernel
theorem J_H_wipe_d4 : decode J_H_wipe.2.1 4 = .ok (.getfield 91, 3) := by decide +kernel
theorem J_H_wipe_d7 : decode J_H_wipe.2.1 7 = .ok (.istore_n 1, 1) := by decide +kernel
theorem J_H_wipe_d8 : decode J_H_wipe.2.1 8 = .ok (.aload_n 0, 1) := by decide +kernel
theorem J_H_wipe_d9 : decode J_H_wipe.2.1 9 = .ok (.getfield 10, 3) := by decide +kernel
theorem J_H_wipe_d12 : decode J_H_wipe.2.1 12 = .ok (.iconst 0, 1) := by decide +kernel
theorem J_H_wipe_d13 : decode J_H_wipe.2.1 13 = .ok (.putfield 91, 3) := by decide +kernel
theorem J_H_wipe_d16 : decode J_H_wipe.2.1 16 = .ok (.iload_n 1, 1) := by decide +kernel
theorem J_H_wipe_d17 : decode J_H_wipe.2.1 17 = .ok (.ireturn, 1) := by decide +kernel
theorem H_wipe {L : Nat} {xs : Nat → Int32} {dep : Nat} {w : Bool} {M : im_M}  (hM : lw_S w M) : ia (tb_G L xs) dep J_H_wipe (fun v M1 => v = some (.int (im_i M 1 1)) ∧ M1 = (im_setI M 1 1 (0))) (0, lv_args 0 [.ref 0], [], M) := by
  have hS : im_St (tb_G L xs) dep J_H_wipe (ia (tb_G L xs) dep J_H_wipe (fun v M1 => v = some (.int (im_i M 1 1)) ∧ M1 = (im_setI M 1 1 (0)))) := ia_St
  have l0 : im_lk (lv_args 0 [.ref 0]) 0 = some (.ref 0) := rfl
  refine iq_aload_n hS 1 J_H_wipe_d0 l0 rfl ?_
  refine iq_getR hS 4 J_H_wipe_d1 lf_11_10 (Or.inl ⟨_, rfl⟩) (ka_0 hM) (ra_0_0 hM) rfl ?_
  refine iq_getI hS 7 J_H_wipe_d4 lf_11_91 (Or.inl rfl) (ka_1 hM) rfl ?_
  refine iq_istore_n hS 8 J_H_wipe_d7 (by decide) rfl ?_
  refine iq_aload_n hS 9 J_H_wipe_d8 (lk_1r l0 (by decide)) rfl ?_
  refine iq_getR hS 12 J_H_wipe_d9 lf_11_10 (Or.inl ⟨_, rfl⟩) (ka_0 hM) (ra_0_0 hM) rfl ?_
  refine iq_iconst hS 13 J_H_wipe_d12 (v := 0) (by decide +kernel) rfl ?_
  refine iq_putI hS 16 J_H_wipe_d13 lf_11_91 (Or.inl rfl) rfl (ka_1 hM) rfl ?_
  refine iq_iload_n hS 17 J_H_wipe_d16 lk_1s rfl ?_
  exact iq_iret J_H_wipe_d17 rfl rfl ⟨rfl, rfl⟩
theorem J_H_fault_d0 : decode J_H_fault.2.1 0 = .ok (.aload_n 0, 1) := by decide +kernel
theorem J_H_fault_d1 : decode J_H_fault.2.1 1 = .ok (.getfield 30, 3) := by decide +kernel
theorem J_H_fault_d4 : decode J_H_fault.2.1 4 = .ok (.getfield 116, 3) := by decide +kernel
theorem J_H_fault_d7 : decode J_H_fault.2.1 7 = .ok (.ireturn, 1) := by decide +kernel
theorem H_fault {L : Nat} {xs : Nat → Int32} {dep : Nat} {w : Bool} {M : im_M}  (hM : lw_S w M) : ia (tb_G L xs) dep J_H_fault (fun v M1 => v = some (.int (im_i M 15 6)) ∧ M1 = M) (0, lv_args 0 [.ref 0], [], M) := by
  have hS : im_St (tb_G L xs) dep J_H_fault (ia (tb_G L xs) dep J_H_fault (fun v M1 => v = some (.int (im_i M 15 6)) ∧ M1 = M)) := ia_St
  have l0 : im_lk (lv_args 0 [.ref 0]) 0 = some (.ref 0) := rfl
  refine iq_aload_n hS 1 J_H_fault_d0 l0 rfl ?_
  refine iq_getR hS 4 J_H_fault_d1 lf_11_30 (Or.inl ⟨_, rfl⟩) (ka_0 hM) (ra_0_2 hM) rfl ?_
  refine iq_getI hS 7 J_H_fault_d4 lf_11_116 (Or.inl rfl) (ka_15 hM) rfl ?_
  exact iq_iret J_H_fault_d7 rfl rfl ⟨rfl, rfl⟩
theorem J_H_place_d0 : decode J_H_place.2.1 0 = .ok (.aload_n 0, 1) := by decide +kernel
theorem J_H_place_d1 : decode J_H_place.2.1 1 = .ok (.getfield 30, 3) := by decide +kernel
theorem J_H_place_d4 : decode J_H_place.2.1 4 = .ok (.getfield 119, 3) := by decide +kernel
theorem J_H_place_d7 : decode J_H_place.2.1 7 = .ok (.ireturn, 1) := by decide +kernel
theorem H_place {L : Nat} {xs : Nat → Int32} {dep : Nat} {w : Bool} {M : im_M}  (hM : lw_S w M) : ia (tb_G L xs) dep J_H_place (fun v M1 => v = some (.int (im_i M 15 7)) ∧ M1 = M) (0, lv_args 0 [.ref 0], [], M) := by
  have hS : im_St (tb_G L xs) dep J_H_place (ia (tb_G L xs) dep J_H_place (fun v M1 => v = some (.int (im_i M 15 7)) ∧ M1 = M)) := ia_St
  have l0 : im_lk (lv_args 0 [.ref 0]) 0 = some (.ref 0) := rfl
  refine iq_aload_n hS 1 J_H_place_d0 l0 rfl ?_
  refine iq_getR hS 4 J_H_place_d1 lf_11_30 (Or.inl ⟨_, rfl⟩) (ka_0 hM) (ra_0_2 hM) rfl ?_
  refine iq_getI hS 7 J_H_place_d4 lf_11_119 (Or.inl rfl) (ka_15 hM) rfl ?_
  exact iq_iret J_H_place_d7 rfl rfl ⟨rfl, rfl⟩
theorem J_M_wipe_d0 : decode J_M_wipe.2.1 0 = .ok (.aload_n 0, 1) := by decide +kernel
theorem J_M_wipe_d1 : decode J_M_wipe.2.1 1 = .ok (.iconst 0, 1) := by decide +kernel
theorem J_M_wipe_d2 : decode J_M_wipe.2.1 2 = .ok (.putfield 58, 3) := by decide +kernel
theorem J_M_wipe_d5 : decode J_M_wipe.2.1 5 = .ok (.aload_n 0, 1) := by decide +kernel
theorem J_M_wipe_d6 : decode J_M_wipe.2.1 6 = .ok (.getfield 61, 3) := by decide +kernel
theorem J_M_wipe_d9 : decode J_M_wipe.2.1 9 = .ok (.istore_n 1, 1) := by decide +kernel
theorem J_M_wipe_d10 : decode J_M_wipe.2.1 10 = .ok (.aload_n 0, 1) := by decide +kernel
theorem J_M_wipe_d11 : decode J_M_wipe.2.1 11 = .ok (.iconst 0, 1) := by decide +kernel
theorem J_M_wipe_d12 : decode J_M_wipe.2.1 12 = .ok (.putfield 61, 3) := by decide +kernel
theorem J_M_wipe_d15 : decode J_M_wipe.2.1 15 = .ok (.iload_n 1, 1) := by decide +kernel
theorem J_M_wipe_d16 : decode J_M_wipe.2.1 16 = .ok (.ireturn, 1) := by decide +kernel
theorem M_wipe {L : Nat} {xs : Nat → Int32} {dep : Nat} {w : Bool} {M : im_M}  (hM : lw_S w M) : ia (tb_G L xs) dep J_M_wipe (fun v M1 => v = some (.int (im_i (im_setI M 69 0 (0)) 69 2)) ∧ M1 = (im_setI (im_setI M 69 0 (0)) 69 2 (0))) (0, lv_args 0 [.ref 69], [], M) := by
  have hS : im_St (tb_G L xs) dep J_M_wipe (ia (tb_G L xs) dep J_M_wipe (fun v M1 => v = some (.int (im_i (im_setI M 69 0 (0)) 69 2)) ∧ M1 = (im_setI (im_setI M 69 0 (0)) 69 2 (0)))) := ia_St
  have l0 : im_lk (lv_args 0 [.ref 69]) 0 = some (.ref 69) := rfl
  refine iq_aload_n hS 1 J_M_wipe_d0 l0 rfl ?_
  refine iq_iconst hS 2 J_M_wipe_d1 (v := 0) (by decide +kernel) rfl ?_
  refine iq_putI hS 5 J_M_wipe_d2 lf_17_58 (Or.inl rfl) rfl (ka_69 hM) rfl ?_
  refine iq_aload_n hS 6 J_M_wipe_d5 l0 rfl ?_
  refine iq_getI hS 9 J_M_wipe_d6 lf_17_61 (Or.inl rfl) (ka_69 hM) rfl ?_
  refine iq_istore_n hS 10 J_M_wipe_d9 (by decide) rfl ?_
  refine iq_aload_n hS 11 J_M_wipe_d10 (lk_1r l0 (by decide)) rfl ?_
  refine iq_iconst hS 12 J_M_wipe_d11 (v := 0) (by decide +kernel) rfl ?_
  refine iq_putI hS 15 J_M_wipe_d12 lf_17_61 (Or.inl rfl) rfl (ka_69 hM) rfl ?_
  refine iq_iload_n hS 16 J_M_wipe_d15 lk_1s rfl ?_
  exact iq_iret J_M_wipe_d16 rfl rfl ⟨rfl, rfl⟩
theorem J_M_thrown_d0 : decode J_M_thrown.2.1 0 = .ok (.aload_n 0, 1) := by decide +kernel
theorem J_M_thrown_d1 : decode J_M_thrown.2.1 1 = .ok (.getfield 58, 3) := by decide +kernel
theorem J_M_thrown_d4 : decode J_M_thrown.2.1 4 = .ok (.ireturn, 1) := by decide +kernel
theorem M_thrown {L : Nat} {xs : Nat → Int32} {dep : Nat} {w : Bool} {M : im_M}  (hM : lw_S w M) : ia (tb_G L xs) dep J_M_thrown (fun v M1 => v = some (.int (im_i M 69 0)) ∧ M1 = M) (0, lv_args 0 [.ref 69], [], M) := by
  have hS : im_St (tb_G L xs) dep J_M_thrown (ia (tb_G L xs) dep J_M_thrown (fun v M1 => v = some (.int (im_i M 69 0)) ∧ M1 = M)) := ia_St
  have l0 : im_lk (lv_args 0 [.ref 69]) 0 = some (.ref 69) := rfl
  refine iq_aload_n hS 1 J_M_thrown_d0 l0 rfl ?_
  refine iq_getI hS 4 J_M_thrown_d1 lf_17_58 (Or.inl rfl) (ka_69 hM) rfl ?_
  exact iq_iret J_M_thrown_d4 rfl rfl ⟨rfl, rfl⟩
