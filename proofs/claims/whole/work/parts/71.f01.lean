/-! METHODS AS FUNCTIONS -/
noncomputable def f_H_wipe (M : im_M) : Option (Int32 × im_M) := some ((im_i M 1 1), (im_setI M 1 1 0))
theorem f_H_wipe_ok {L : Nat} {xs : Nat → Int32} {dep : Nat} {w : Bool} {M : im_M} {Q : Int32 × im_M → Prop} (hM : lw_S w M) (h : ed (f_H_wipe M) Q) : ia (tb_G L xs) dep J_H_wipe (rwI w Q) (0, lv_args 0 [.ref 0], [], M) := by
  have hS : im_St (tb_G L xs) dep J_H_wipe (ia (tb_G L xs) dep J_H_wipe (rwI w Q)) := ia_St
  unfold f_H_wipe at h
  have l0 : im_lk (lv_args 0 [.ref 0]) 0 = some (.ref 0) := rfl
  refine iq_aload_n hS 1 J_H_wipe_d0 l0 rfl ?_
  refine iq_getR hS 4 J_H_wipe_d1 lf_11_10 (Or.inl ⟨_, rfl⟩) (ka_0 hM) (ra_0_0 hM) rfl ?_
  refine iq_getI hS 7 J_H_wipe_d4 lf_11_91 (Or.inl rfl) (ka_1 hM) rfl ?_
  refine iq_istore_n hS 8 J_H_wipe_d7 (by decide) rfl ?_
  refine iq_aload_n hS 9 J_H_wipe_d8 (lk_1r l0 (by decide)) rfl ?_
  refine iq_getR hS 12 J_H_wipe_d9 lf_11_10 (Or.inl ⟨_, rfl⟩) (ka_0 hM) (ra_0_0 hM) rfl ?_
  refine iq_iconst hS 13 J_H_wipe_d12 (v := 0) (by decide +kernel) rfl ?_
  refine iq_putI hS 16 J_H_wipe_d13 lf_11_91 (Or.inl rfl) rfl (ka_1 hM) rfl ?_
  refine iq_iload_n hS 17 J_H_wipe_d16 lk_1s rfl ?_
  exact iq_iret J_H_wipe_d17 rfl rfl ⟨_, rfl, hM, ed_some h⟩
noncomputable def f_HTape_rewind (M : im_M) : Option (im_M) := gd (inb 0 5) <| some (im_setI (im_setI M 1 6 0) 8 (Int32.toNatClampNeg 0) 0)
theorem J_HTape_rewind_d0 : decode J_HTape_rewind.2.1 0 = .ok (.aload_n 0, 1) := by decide +kernel
theorem J_HTape_rewind_d1 : decode J_HTape_rewind.2.1 1 = .ok (.iconst 0, 1) := by decide +kernel
theorem J_HTape_rewind_d2 : decode J_HTape_rewind.2.1 2 = .ok (.putfield 44, 3) := by decide +kernel
theorem J_HTape_rewind_d5 : decode J_HTape_rewind.2.1 5 = .ok (.aload_n 0, 1) := by decide +kernel
theorem J_HTape_rewind_d6 : decode J_HTape_rewind.2.1 6 = .ok (.getfield 31, 3) := by decide +kernel
theorem J_HTape_rewind_d9 : decode J_HTape_rewind.2.1 9 = .ok (.iconst 0, 1) := by decide +kernel
theorem J_HTape_rewind_d10 : decode J_HTape_rewind.2.1 10 = .ok (.iconst 0, 1) := by decide +kernel
theorem J_HTape_rewind_d11 : decode J_HTape_rewind.2.1 11 = .ok (.iastore, 1) := by decide +kernel
theorem J_HTape_rewind_d12 : decode J_HTape_rewind.2.1 12 = .ok (.return_, 1) := by decide +kernel
theorem f_HTape_rewind_ok {L : Nat} {xs : Nat → Int32} {dep : Nat} {w : Bool} {M : im_M} {Q : im_M → Prop} (hM : lw_S w M) (h : ed (f_HTape_rewind M) Q) : ia (tb_G L xs) dep J_HTape_rewind (rwV w Q) (0, lv_args 0 [.ref 1], [], M) := by
  have hS : im_St (tb_G L xs) dep J_HTape_rewind (ia (tb_G L xs) dep J_HTape_rewind (rwV w Q)) := ia_St
  unfold f_HTape_rewind at h
  have l0 : im_lk (lv_args 0 [.ref 1]) 0 = some (.ref 1) := rfl
  refine iq_aload_n hS 1 J_HTape_rewind_d0 l0 rfl ?_
  refine iq_iconst hS 2 J_HTape_rewind_d1 (v := 0) (by decide +kernel) rfl ?_
  refine iq_putI hS 5 J_HTape_rewind_d2 lf_10_44 (Or.inl rfl) rfl (ka_1 hM) rfl ?_
  refine iq_aload_n hS 6 J_HTape_rewind_d5 l0 rfl ?_
  refine iq_getR hS 9 J_HTape_rewind_d6 lf_10_31 (Or.inr ⟨_, rfl⟩) (ka_1 hM) (ra_1_8 hM) rfl ?_
  refine iq_iconst hS 10 J_HTape_rewind_d9 (v := 0) (by decide +kernel) rfl ?_
  refine iq_iconst hS 11 J_HTape_rewind_d10 (v := 0) (by decide +kernel) rfl ?_
  obtain ⟨g11, h⟩ := ed_gd h
  refine iq_iastore hS 12 J_HTape_rewind_d11 ⟨(ka_8 hM).1, (ka_8 hM).2, g11.1, ix_lt (kl_8 hM) g11.2⟩ rfl ?_
  exact iq_ret J_HTape_rewind_d12 rfl ⟨rfl, hM, ed_some h⟩
noncomputable def f_HTape_next (M : im_M) : Option (Int32) := gd (inb (im_i M 1 6) 5) <| if ¬ (im_i M 1 6) = 0 then gd (inb (im_i M 1 6) 5) <| gd (inb (im_i M 7 (Int32.toNatClampNeg (im_i M 1 6))) 8) <| if (im_i M 4 (Int32.toNatClampNeg (im_i M 7 (Int32.toNatClampNeg (im_i M 1 6))))) ≤ (im_i M 8 (Int32.toNatClampNeg (im_i M 1 6))) then some (-1) else gd (inb (((im_i M 7 (Int32.toNatClampNeg (im_i M 1 6))) * 400) + (im_i M 8 (Int32.toNatClampNeg (im_i M 1 6)))) 3200) <| some ((im_i M 3 (Int32.toNatClampNeg (((im_i M 7 (Int32.toNatClampNeg (im_i M 1 6))) * 400) + (im_i M 8 (Int32.toNatClampNeg (im_i M 1 6)))))) &&& 255) else if (im_i M 1 1) ≤ (im_i M 8 (Int32.toNatClampNeg (im_i M 1 6))) then some (-1) else gd (inb (im_i M 8 (Int32.toNatClampNeg (im_i M 1 6))) 4096) <| some ((im_i M 2 (Int32.toNatClampNeg (im_i M 8 (Int32.toNatClampNeg (im_i M 1 6))))) &&& 255)
theorem J_HTape_next_d0 : decode J_HTape_next.2.1 0 = .ok (.aload_n 0, 1) := by decide +kernel
theorem J_HTape_next_d1 : decode J_HTape_next.2.1 1 = .ok (.getfield 31, 3) := by decide +kernel
theorem J_HTape_next_d4 : decode J_HTape_next.2.1 4 = .ok (.aload_n 0, 1) := by decide +kernel
theorem J_HTape_next_d5 : decode J_HTape_next.2.1 5 = .ok (.getfield 44, 3) := by decide +kernel
theorem J_HTape_next_d8 : decode J_HTape_next.2.1 8 = .ok (.iaload, 1) := by decide +kernel
theorem J_HTape_next_d9 : decode J_HTape_next.2.1 9 = .ok (.istore_n 1, 1) := by decide +kernel
theorem J_HTape_next_d10 : decode J_HTape_next.2.1 10 = .ok (.aload_n 0, 1) := by decide +kernel
theorem J_HTape_next_d11 : decode J_HTape_next.2.1 11 = .ok (.getfield 44, 3) := by decide +kernel
theorem J_HTape_next_d14 : decode J_HTape_next.2.1 14 = .ok (.ifCond .ne 26, 3) := by decide +kernel
theorem J_HTape_next_d17 : decode J_HTape_next.2.1 17 = .ok (.iload_n 1, 1) := by decide +kernel
theorem J_HTape_next_d18 : decode J_HTape_next.2.1 18 = .ok (.aload_n 0, 1) := by decide +kernel
theorem J_HTape_next_d19 : decode J_HTape_next.2.1 19 = .ok (.getfield 40, 3) := by decide +kernel
theorem J_HTape_next_d22 : decode J_HTape_next.2.1 22 = .ok (.if_icmp .ge 16, 3) := by decide +kernel
theorem J_HTape_next_d25 : decode J_HTape_next.2.1 25 = .ok (.aload_n 0, 1) := by decide +kernel
theorem J_HTape_next_d26 : decode J_HTape_next.2.1 26 = .ok (.getfield 11, 3) := by decide +kernel
theorem J_HTape_next_d29 : decode J_HTape_next.2.1 29 = .ok (.iload_n 1, 1) := by decide +kernel
theorem J_HTape_next_d30 : decode J_HTape_next.2.1 30 = .ok (.baload, 1) := by decide +kernel
theorem J_HTape_next_d31 : decode J_HTape_next.2.1 31 = .ok (.sipush 255, 3) := by decide +kernel
theorem J_HTape_next_d34 : decode J_HTape_next.2.1 34 = .ok (.iand, 1) := by decide +kernel
theorem J_HTape_next_d35 : decode J_HTape_next.2.1 35 = .ok (.goto 4, 3) := by decide +kernel
theorem J_HTape_next_d38 : decode J_HTape_next.2.1 38 = .ok (.iconst (-1), 1) := by decide +kernel
theorem J_HTape_next_d39 : decode J_HTape_next.2.1 39 = .ok (.ireturn, 1) := by decide +kernel
theorem J_HTape_next_d40 : decode J_HTape_next.2.1 40 = .ok (.aload_n 0, 1) := by decide +kernel
theorem J_HTape_next_d41 : decode J_HTape_next.2.1 41 = .ok (.getfield 28, 3) := by decide +kernel
theorem J_HTape_next_d44 : decode J_HTape_next.2.1 44 = .ok (.aload_n 0, 1) := by decide +kernel
theorem J_HTape_next_d45 : decode J_HTape_next.2.1 45 = .ok (.getfield 44, 3) := by decide +kernel
theorem J_HTape_next_d48 : decode J_HTape_next.2.1 48 = .ok (.iaload, 1) := by decide +kernel
theorem J_HTape_next_d49 : decode J_HTape_next.2.1 49 = .ok (.istore_n 2, 1) := by decide +kernel
theorem J_HTape_next_d50 : decode J_HTape_next.2.1 50 = .ok (.iload_n 1, 1) := by decide +kernel
theorem J_HTape_next_d51 : decode J_HTape_next.2.1 51 = .ok (.aload_n 0, 1) := by decide +kernel
theorem J_HTape_next_d52 : decode J_HTape_next.2.1 52 = .ok (.getfield 18, 3) := by decide +kernel
theorem J_HTape_next_d55 : decode J_HTape_next.2.1 55 = .ok (.iload_n 2, 1) := by decide +kernel
theorem J_HTape_next_d56 : decode J_HTape_next.2.1 56 = .ok (.iaload, 1) := by decide +kernel
theorem J_HTape_next_d57 : decode J_HTape_next.2.1 57 = .ok (.if_icmp .ge 22, 3) := by decide +kernel
theorem J_HTape_next_d60 : decode J_HTape_next.2.1 60 = .ok (.aload_n 0, 1) := by decide +kernel
theorem J_HTape_next_d61 : decode J_HTape_next.2.1 61 = .ok (.getfield 15, 3) := by decide +kernel
theorem J_HTape_next_d64 : decode J_HTape_next.2.1 64 = .ok (.iload_n 2, 1) := by decide +kernel
theorem J_HTape_next_d65 : decode J_HTape_next.2.1 65 = .ok (.sipush 400, 3) := by decide +kernel
theorem J_HTape_next_d68 : decode J_HTape_next.2.1 68 = .ok (.imul, 1) := by decide +kernel
theorem J_HTape_next_d69 : decode J_HTape_next.2.1 69 = .ok (.iload_n 1, 1) := by decide +kernel
theorem J_HTape_next_d70 : decode J_HTape_next.2.1 70 = .ok (.iadd, 1) := by decide +kernel
theorem J_HTape_next_d71 : decode J_HTape_next.2.1 71 = .ok (.baload, 1) := by decide +kernel
theorem J_HTape_next_d72 : decode J_HTape_next.2.1 72 = .ok (.sipush 255, 3) := by decide +kernel
theorem J_HTape_next_d75 : decode J_HTape_next.2.1 75 = .ok (.iand, 1) := by decide +kernel
theorem J_HTape_next_d76 : decode J_HTape_next.2.1 76 = .ok (.goto 4, 3) := by decide +kernel
theorem J_HTape_next_d79 : decode J_HTape_next.2.1 79 = .ok (.iconst (-1), 1) := by decide +kernel
theorem J_HTape_next_d80 : decode J_HTape_next.2.1 80 = .ok (.ireturn, 1) := by decide +kernel
theorem f_HTape_next_ok {L : Nat} {xs : Nat → Int32} {dep : Nat} {w : Bool} {M : im_M} {Q : Int32 → Prop} (hM : lw_S w M) (h : ed (f_HTape_next M) Q) : ia (tb_G L xs) dep J_HTape_next (rpI M Q) (0, lv_args 0 [.ref 1], [], M) := by
  have hS : im_St (tb_G L xs) dep J_HTape_next (ia (tb_G L xs) dep J_HTape_next (rpI M Q)) := ia_St
  unfold f_HTape_next at h
  have l0 : im_lk (lv_args 0 [.ref 1]) 0 = some (.ref 1) := rfl
  refine iq_aload_n hS 1 J_HTape_next_d0 l0 rfl ?_
  refine iq_getR hS 4 J_HTape_next_d1 lf_10_31 (Or.inr ⟨_, rfl⟩) (ka_1 hM) (ra_1_8 hM) rfl ?_
  refine iq_aload_n hS 5 J_HTape_next_d4 l0 rfl ?_
  refine iq_getI hS 8 J_HTape_next_d5 lf_10_44 (Or.inl rfl) (ka_1 hM) rfl ?_
  obtain ⟨g8, h⟩ := ed_gd h
  refine iq_iaload hS 9 J_HTape_next_d8 ⟨(ka_8 hM).1, (ka_8 hM).2, g8.1, ix_lt (kl_8 hM) g8.2⟩ rfl ?_
  refine iq_istore_n hS 10 J_HTape_next_d9 (by decide) rfl ?_
  refine iq_aload_n hS 11 J_HTape_next_d10 (lk_1r l0 (by decide)) rfl ?_
  refine iq_getI hS 14 J_HTape_next_d11 lf_10_44 (Or.inl rfl) (ka_1 hM) rfl ?_
  refine iq_if_ne hS 17 J_HTape_next_d14 (t := 40) rfl (fun q14 => ?_) rfl (fun q14 => ?_)
  · replace h := ed_pos q14 h
    refine iq_aload_n hS 41 J_HTape_next_d40 (lk_1r l0 (by decide)) rfl ?_
    refine iq_getR hS 44 J_HTape_next_d41 lf_10_28 (Or.inr ⟨_, rfl⟩) (ka_1 hM) (ra_1_7 hM) rfl ?_
    refine iq_aload_n hS 45 J_HTape_next_d44 (lk_1r l0 (by decide)) rfl ?_
    refine iq_getI hS 48 J_HTape_next_d45 lf_10_44 (Or.inl rfl) (ka_1 hM) rfl ?_
    obtain ⟨g48, h⟩ := ed_gd h
    refine iq_iaload hS 49 J_HTape_next_d48 ⟨(ka_7 hM).1, (ka_7 hM).2, g48.1, ix_lt (kl_7 hM) g48.2⟩ rfl ?_
    refine iq_istore_n hS 50 J_HTape_next_d49 (by decide) rfl ?_
    refine iq_iload_n hS 51 J_HTape_next_d50 (lk_1i lk_1s (by decide)) rfl ?_
    refine iq_aload_n hS 52 J_HTape_next_d51 (lk_1r (lk_1r l0 (by decide)) (by decide)) rfl ?_
    refine iq_getR hS 55 J_HTape_next_d52 lf_10_18 (Or.inr ⟨_, rfl⟩) (ka_1 hM) (ra_1_3 hM) rfl ?_
    refine iq_iload_n hS 56 J_HTape_next_d55 lk_1s rfl ?_
    obtain ⟨g56, h⟩ := ed_gd h
    refine iq_iaload hS 57 J_HTape_next_d56 ⟨(ka_4 hM).1, (ka_4 hM).2, g56.1, ix_lt (kl_4 hM) g56.2⟩ rfl ?_
    refine iq_icmp_ge hS 60 J_HTape_next_d57 (t := 79) rfl (fun q57 => ?_) rfl (fun q57 => ?_)
    · replace h := ed_pos q57 h
      refine iq_iconst hS 80 J_HTape_next_d79 (v := (-1)) (by decide +kernel) rfl ?_
      exact iq_iret J_HTape_next_d80 rfl rfl ⟨_, rfl, rfl, ed_some h⟩
    · replace h := ed_neg q57 h
      refine iq_aload_n hS 61 J_HTape_next_d60 (lk_1r (lk_1r l0 (by decide)) (by decide)) rfl ?_
      refine iq_getR hS 64 J_HTape_next_d61 lf_10_15 (Or.inr ⟨_, rfl⟩) (ka_1 hM) (ra_1_2 hM) rfl ?_
      refine iq_iload_n hS 65 J_HTape_next_d64 lk_1s rfl ?_
      refine iq_sipush hS 68 J_HTape_next_d65 (v := 400) (by decide +kernel) rfl ?_
      refine iq_imul hS 69 J_HTape_next_d68 rfl ?_
      refine iq_iload_n hS 70 J_HTape_next_d69 (lk_1i lk_1s (by decide)) rfl ?_
      refine iq_iadd hS 71 J_HTape_next_d70 rfl ?_
      obtain ⟨g71, h⟩ := ed_gd h
      refine iq_baload hS 72 J_HTape_next_d71 ⟨(ka_3 hM).1, (ka_3 hM).2, g71.1, ix_lt (kl_3 hM) g71.2⟩ rfl ?_
      refine iq_sipush hS 75 J_HTape_next_d72 (v := 255) (by decide +kernel) rfl ?_
      refine iq_iand hS 76 J_HTape_next_d75 rfl ?_
      refine iq_goto hS J_HTape_next_d76 (t := 80) rfl ?_
      exact iq_iret J_HTape_next_d80 rfl rfl ⟨_, rfl, rfl, ed_some h⟩
  · replace h := ed_neg q14 h
    refine iq_iload_n hS 18 J_HTape_next_d17 lk_1s rfl ?_
    refine iq_aload_n hS 19 J_HTape_next_d18 (lk_1r l0 (by decide)) rfl ?_
    refine iq_getI hS 22 J_HTape_next_d19 lf_10_40 (Or.inl rfl) (ka_1 hM) rfl ?_
    refine iq_icmp_ge hS 25 J_HTape_next_d22 (t := 38) rfl (fun q22 => ?_) rfl (fun q22 => ?_)
    · replace h := ed_pos q22 h
      refine iq_iconst hS 39 J_HTape_next_d38 (v := (-1)) (by decide +kernel) rfl ?_
      exact iq_iret J_HTape_next_d39 rfl rfl ⟨_, rfl, rfl, ed_some h⟩
    · replace h := ed_neg q22 h
      refine iq_aload_n hS 26 J_HTape_next_d25 (lk_1r l0 (by decide)) rfl ?_
      refine iq_getR hS 29 J_HTape_next_d26 lf_10_11 (Or.inr ⟨_, rfl⟩) (ka_1 hM) (ra_1_0 hM) rfl ?_
      refine iq_iload_n hS 30 J_HTape_next_d29 lk_1s rfl ?_
      obtain ⟨g30, h⟩ := ed_gd h
      refine iq_baload hS 31 J_HTape_next_d30 ⟨(ka_2 hM).1, (ka_2 hM).2, g30.1, ix_lt (kl_2 hM) g30.2⟩ rfl ?_
      refine iq_sipush hS 34 J_HTape_next_d31 (v := 255) (by decide +kernel) rfl ?_
      refine iq_iand hS 35 J_HTape_next_d34 rfl ?_
      refine iq_goto hS J_HTape_next_d35 (t := 39) rfl ?_
      exact iq_iret J_HTape_next_d39 rfl rfl ⟨_, rfl, rfl, ed_some h⟩
noncomputable def f_HTape_pass (M : im_M) : Option (im_M) := gd (inb (im_i M 1 6) 5) <| gd (inb (im_i M 1 6) 5) <| some (im_setI M 8 (Int32.toNatClampNeg (im_i M 1 6)) ((im_i M 8 (Int32.toNatClampNeg (im_i M 1 6))) + 1))
theorem J_HTape_pass_d0 : decode J_HTape_pass.2.1 0 = .ok (.aload_n 0, 1) := by decide +kernel
theorem J_HTape_pass_d1 : decode J_HTape_pass.2.1 1 = .ok (.getfield 31, 3) := by decide +kernel
theorem J_HTape_pass_d4 : decode J_HTape_pass.2.1 4 = .ok (.aload_n 0, 1) := by decide +kernel
theorem J_HTape_pass_d5 : decode J_HTape_pass.2.1 5 = .ok (.getfield 44, 3) := by decide +kernel
theorem J_HTape_pass_d8 : decode J_HTape_pass.2.1 8 = .ok (.dup2, 1) := by decide +kernel
theorem J_HTape_pass_d9 : decode J_HTape_pass.2.1 9 = .ok (.iaload, 1) := by decide +kernel
theorem J_HTape_pass_d10 : decode J_HTape_pass.2.1 10 = .ok (.iconst 1, 1) := by decide +kernel
theorem J_HTape_pass_d11 : decode J_HTape_pass.2.1 11 = .ok (.iadd, 1) := by decide +kernel
theorem J_HTape_pass_d12 : decode J_HTape_pass.2.1 12 = .ok (.iastore, 1) := by decide +kernel
theorem J_HTape_pass_d13 : decode J_HTape_pass.2.1 13 = .ok (.return_, 1) := by decide +kernel
theorem f_HTape_pass_ok {L : Nat} {xs : Nat → Int32} {dep : Nat} {w : Bool} {M : im_M} {Q : im_M → Prop} (hM : lw_S w M) (h : ed (f_HTape_pass M) Q) : ia (tb_G L xs) dep J_HTape_pass (rwV w Q) (0, lv_args 0 [.ref 1], [], M) := by
  have hS : im_St (tb_G L xs) dep J_HTape_pass (ia (tb_G L xs) dep J_HTape_pass (rwV w Q)) := ia_St
  unfold f_HTape_pass at h
  have l0 : im_lk (lv_args 0 [.ref 1]) 0 = some (.ref 1) := rfl
  refine iq_aload_n hS 1 J_HTape_pass_d0 l0 rfl ?_
  refine iq_getR hS 4 J_HTape_pass_d1 lf_10_31 (Or.inr ⟨_, rfl⟩) (ka_1 hM) (ra_1_8 hM) rfl ?_
  refine iq_aload_n hS 5 J_HTape_pass_d4 l0 rfl ?_
  refine iq_getI hS 8 J_HTape_pass_d5 lf_10_44 (Or.inl rfl) (ka_1 hM) rfl ?_
  refine iq_dup2 hS 9 J_HTape_pass_d8 rfl rfl rfl ?_
  obtain ⟨g9, h⟩ := ed_gd h
  refine iq_iaload hS 10 J_HTape_pass_d9 ⟨(ka_8 hM).1, (ka_8 hM).2, g9.1, ix_lt (kl_8 hM) g9.2⟩ rfl ?_
  refine iq_iconst hS 11 J_HTape_pass_d10 (v := 1) (by decide +kernel) rfl ?_
  refine iq_iadd hS 12 J_HTape_pass_d11 rfl ?_
  obtain ⟨g12, h⟩ := ed_gd h
  refine iq_iastore hS 13 J_HTape_pass_d12 ⟨(ka_8 hM).1, (ka_8 hM).2, g12.1, ix_lt (kl_8 hM) g12.2⟩ rfl ?_
  exact iq_ret J_HTape_pass_d13 rfl ⟨rfl, hM, ed_some h⟩
noncomputable def f_HTape_passBlanks_L2 (x2 : Int32) (M3 : im_M) : Option ((Int32 × im_M) ⊕ (im_M)) := if 4096 ≤ x2 then some (.inr M3) else bd1 (f_HTape_next M3) fun (x4 : Int32) => if x4 < 0 then some (.inr M3) else bd1 (f_HTape_next M3) fun (x5 : Int32) => if 32 < x5 then some (.inr M3) else bd1 (f_HTape_pass M3) fun (M6 : im_M) => some (.inl ((x2 + 1), M6))
noncomputable def f_HTape_passBlanks (M : im_M) : Option (im_M) := bd1 (lp (uc2 (f_HTape_passBlanks_L2)) (0, M)) fun (M7 : im_M) => some M7
theorem J_HTape_passBlanks_d0 : decode J_HTape_passBlanks.2.1 0 = .ok (.iconst 0, 1) := by decide +kernel
theorem J_HTape_passBlanks_d1 : decode J_HTape_passBlanks.2.1 1 = .ok (.istore_n 1, 1) := by decide +kernel
theorem J_HTape_passBlanks_d2 : decode J_HTape_passBlanks.2.1 2 = .ok (.iload_n 1, 1) := by decide +kernel
theorem J_HTape_passBlanks_d3 : decode J_HTape_passBlanks.2.1 3 = .ok (.sipush 4096, 3) := by decide +kernel
theorem J_HTape_passBlanks_d6 : decode J_HTape_passBlanks.2.1 6 = .ok (.if_icmp .ge 29, 3) := by decide +kernel
theorem J_HTape_passBlanks_d9 : decode J_HTape_passBlanks.2.1 9 = .ok (.aload_n 0, 1) := by decide +kernel
theorem J_HTape_passBlanks_d10 : decode J_HTape_passBlanks.2.1 10 = .ok (.invokevirtual 47, 3) := by decide +kernel
theorem J_HTape_passBlanks_d13 : decode J_HTape_passBlanks.2.1 13 = .ok (.ifCond .lt 22, 3) := by decide +kernel
theorem J_HTape_passBlanks_d16 : decode J_HTape_passBlanks.2.1 16 = .ok (.aload_n 0, 1) := by decide +kernel
theorem J_HTape_passBlanks_d17 : decode J_HTape_passBlanks.2.1 17 = .ok (.invokevirtual 47, 3) := by decide +kernel
theorem J_HTape_passBlanks_d20 : decode J_HTape_passBlanks.2.1 20 = .ok (.bipush 32, 2) := by decide +kernel
theorem J_HTape_passBlanks_d22 : decode J_HTape_passBlanks.2.1 22 = .ok (.if_icmp .gt 13, 3) := by decide +kernel
theorem J_HTape_passBlanks_d25 : decode J_HTape_passBlanks.2.1 25 = .ok (.aload_n 0, 1) := by decide +kernel
theorem J_HTape_passBlanks_d26 : decode J_HTape_passBlanks.2.1 26 = .ok (.invokevirtual 51, 3) := by decide +kernel
theorem J_HTape_passBlanks_d29 : decode J_HTape_passBlanks.2.1 29 = .ok (.iinc 1 1, 3) := by decide +kernel
theorem J_HTape_passBlanks_d32 : decode J_HTape_passBlanks.2.1 32 = .ok (.goto (-30), 3) := by decide +kernel
theorem J_HTape_passBlanks_d35 : decode J_HTape_passBlanks.2.1 35 = .ok (.return_, 1) := by decide +kernel
theorem f_HTape_passBlanks_ok {L : Nat} {xs : Nat → Int32} {dep : Nat} {w : Bool} {M : im_M} {Q : im_M → Prop} (hM : lw_S w M) (h : ed (f_HTape_passBlanks M) Q) : ia (tb_G L xs) (dep + 1) J_HTape_passBlanks (rwV w Q) (0, lv_args 0 [.ref 1], [], M) := by
  have hS : im_St (tb_G L xs) (dep + 1) J_HTape_passBlanks (ia (tb_G L xs) (dep + 1) J_HTape_passBlanks (rwV w Q)) := ia_St
  unfold f_HTape_passBlanks at h
  have l0 : im_lk (lv_args 0 [.ref 1]) 0 = some (.ref 1) := rfl
  refine iq_iconst hS 1 J_HTape_passBlanks_d0 (v := 0) (by decide +kernel) rfl ?_
  refine iq_istore_n hS 2 J_HTape_passBlanks_d1 (by decide) rfl ?_
  obtain ⟨Q1, hQ1, h⟩ := bd1_ed h
  have K1 : ∀ (M2 : im_M) (L' : List (Nat × Value)), lw_S w M2 → Q1 M2 → ia (tb_G L xs) (dep + 1) J_HTape_passBlanks (rwV w Q) (35, L', [], M2) := by
    intro M2 L' hM2  h
    replace h := hQ1 _ h
    exact iq_ret J_HTape_passBlanks_d35 rfl ⟨rfl, hM2, ed_some h⟩
  obtain ⟨r1, hr1, hq1⟩ := h
  obtain ⟨n1, hn1⟩ := lp_n hr1
  have I1 : ∀ (n : Nat) (x3 : Int32) (M4 : im_M) (L' : List (Nat × Value)), lw_S w M4 → im_lk L' 0 = some (.ref 1) → im_lk L' 1 = some (.int x3) → lpn (uc2 (f_HTape_passBlanks_L2)) n (x3, M4) = some r1 → ia (tb_G L xs) (dep + 1) J_HTape_passBlanks (rwV w Q) (2, L', [], M4) := by
    intro n
    induction n with
    | zero => intro x3 M4 L' hM4 l5 l6 hn; exact (lpn_0 hn).elim
    | succ n ih =>
      intro x3 M4 L' hM4 l5 l6 hn
      have h := lpn_ed2 hn
      unfold f_HTape_passBlanks_L2 at h
      refine iq_iload_n hS 3 J_HTape_passBlanks_d2 l6 rfl ?_
      refine iq_sipush hS 6 J_HTape_passBlanks_d3 (v := 4096) (by decide +kernel) rfl ?_
      refine iq_icmp_ge hS 9 J_HTape_passBlanks_d6 (t := 35) rfl (fun q6 => ?_) rfl (fun q6 => ?_)
      · replace h := ed_pos q6 h
        exact K1 _ _ hM4  (lq_r h hq1)
      · replace h := ed_neg q6 h
        refine iq_aload_n hS 10 J_HTape_passBlanks_d9 l5 rfl ?_
        obtain ⟨Q7, hQ7, h⟩ := bd1_ed h
        refine iq_cpI hS 13 J_HTape_passBlanks_d10 rfl (pr_inst (vs := []) lc_10_47 lT_17 rfl rfl (by decide) (by decide) rfl (Nat.le_of_ble_eq_true rfl) (Nat.le_of_ble_eq_true rfl) (fun _ => Or.inl (pr_b (ka_1 hM4) (by decide) rfl))) (f_HTape_next_ok (dep := dep + 0) hM4 h) rfl ?_
        intro x7 h
        replace h := hQ7 _ h
        refine iq_if_lt hS 16 J_HTape_passBlanks_d13 (t := 35) rfl (fun q13 => ?_) rfl (fun q13 => ?_)
        · replace h := ed_pos q13 h
          exact K1 _ _ hM4  (lq_r h hq1)
        · replace h := ed_neg q13 h
          refine iq_aload_n hS 17 J_HTape_passBlanks_d16 l5 rfl ?_
          obtain ⟨Q8, hQ8, h⟩ := bd1_ed h
          refine iq_cpI hS 20 J_HTape_passBlanks_d17 rfl (pr_inst (vs := []) lc_10_47 lT_17 rfl rfl (by decide) (by decide) rfl (Nat.le_of_ble_eq_true rfl) (Nat.le_of_ble_eq_true rfl) (fun _ => Or.inl (pr_b (ka_1 hM4) (by decide) rfl))) (f_HTape_next_ok (dep := dep + 0) hM4 h) rfl ?_
          intro x8 h
          replace h := hQ8 _ h
          refine iq_bipush hS 22 J_HTape_passBlanks_d20 (v := 32) (by decide +kernel) rfl ?_
          refine iq_icmp_gt hS 25 J_HTape_passBlanks_d22 (t := 35) rfl (fun q22 => ?_) rfl (fun q22 => ?_)
          · replace h := ed_pos q22 h
            exact K1 _ _ hM4  (lq_r h hq1)
          · replace h := ed_neg q22 h
            refine iq_aload_n hS 26 J_HTape_passBlanks_d25 l5 rfl ?_
            obtain ⟨Q9, hQ9, h⟩ := bd1_ed h
            refine iq_cwV hS 29 J_HTape_passBlanks_d26 rfl (pr_inst (vs := []) lc_10_51 lT_18 rfl rfl (by decide) (by decide) rfl (Nat.le_of_ble_eq_true rfl) (Nat.le_of_ble_eq_true rfl) (fun _ => Or.inl (pr_b (ka_1 hM4) (by decide) rfl))) (f_HTape_pass_ok (dep := dep + 0) hM4 h) rfl ?_
            intro M9 hM9 h
            replace h := hQ9 _ h
            refine iq_iincv hS 32 J_HTape_passBlanks_d29 (c := 1) (by decide +kernel) l6 (by decide) rfl ?_
            refine iq_goto hS J_HTape_passBlanks_d32 (t := 2) rfl ?_
            exact ih _ _ _ hM9 (lk_1r l5 (by decide)) lk_1s (lq_l h)
  exact I1 n1 _ _ _ hM (lk_1r l0 (by decide)) lk_1s hn1
noncomputable def f_String_isLatin1 (M : im_M) : Option (Int32) := if (1 : Int32) = 0 then some 0 else if ¬ (0 : Int32) = 0 then some 0 else some 1
theorem J_String_isLatin1_d0 : decode J_String_isLatin1.2.1 0 = .ok (.getstatic 38, 3) := by decide +kernel
theorem J_String_isLatin1_d3 : decode J_String_isLatin1.2.1 3 = .ok (.ifCond .eq 14, 3) := by decide +kernel
theorem J_String_isLatin1_d6 : decode J_String_isLatin1.2.1 6 = .ok (.aload_n 0, 1) := by decide +kernel
theorem J_String_isLatin1_d7 : decode J_String_isLatin1.2.1 7 = .ok (.getfield 15, 3) := by decide +kernel
theorem J_String_isLatin1_d10 : decode J_String_isLatin1.2.1 10 = .ok (.ifCond .ne 7, 3) := by decide +kernel
theorem J_String_isLatin1_d13 : decode J_String_isLatin1.2.1 13 = .ok (.iconst 1, 1) := by decide +kernel
theorem J_String_isLatin1_d14 : decode J_String_isLatin1.2.1 14 = .ok (.goto 4, 3) := by decide +kernel
theorem J_String_isLatin1_d17 : decode J_String_isLatin1.2.1 17 = .ok (.iconst 0, 1) := by decide +kernel
theorem J_String_isLatin1_d18 : decode J_String_isLatin1.2.1 18 = .ok (.ireturn, 1) := by decide +kernel
theorem f_String_isLatin1_ok {L : Nat} {xs : Nat → Int32} {dep : Nat} {w : Bool} {M : im_M} {Q : Int32 → Prop} (hM : lw_S w M) (h : ed (f_String_isLatin1 M) Q) : ia (tb_G L xs) dep J_String_isLatin1 (rpI M Q) (0, lv_args 0 [.ref 2000000], [], M) := by
  have hS : im_St (tb_G L xs) dep J_String_isLatin1 (ia (tb_G L xs) dep J_String_isLatin1 (rpI M Q)) := ia_St
  unfold f_String_isLatin1 at h
  have l0 : im_lk (lv_args 0 [.ref 2000000]) 0 = some (.ref 2000000) := rfl
  refine iq_getstatic hS 3 J_String_isLatin1_d0 gs_19_38 rfl ?_
  refine iq_if_eq hS 6 J_String_isLatin1_d3 (t := 17) rfl (fun q3 => ?_) rfl (fun q3 => ?_)
  · replace h := ed_pos q3 h
    refine iq_iconst hS 18 J_String_isLatin1_d17 (v := 0) (by decide +kernel) rfl ?_
    exact iq_iret J_String_isLatin1_d18 rfl rfl ⟨_, rfl, rfl, ed_some h⟩
  · replace h := ed_neg q3 h
    refine iq_aload_n hS 7 J_String_isLatin1_d6 l0 rfl ?_
    refine iq_xcod hS 10 J_String_isLatin1_d7 (gf_of (by decide +kernel)) (gvT_of (by decide +kernel)) xks_0 rfl ?_
    refine iq_if_ne hS 13 J_String_isLatin1_d10 (t := 17) rfl (fun q10 => ?_) rfl (fun q10 => ?_)
    · replace h := ed_pos q10 h
      refine iq_iconst hS 18 J_String_isLatin1_d17 (v := 0) (by decide +kernel) rfl ?_
      exact iq_iret J_String_isLatin1_d18 rfl rfl ⟨_, rfl, rfl, ed_some h⟩
    · replace h := ed_neg q10 h
      refine iq_iconst hS 14 J_String_isLatin1_d13 (v := 1) (by decide +kernel) rfl ?_
      refine iq_goto hS J_String_isLatin1_d14 (t := 18) rfl ?_
      exact iq_iret J_String_isLatin1_d18 rfl rfl ⟨_, rfl, rfl, ed_some h⟩
noncomputable def f_String_coder (M : im_M) : Option (Int32) := if (1 : Int32) = 0 then some 1 else some 0
theorem J_String_coder_d0 : decode J_String_coder.2.1 0 = .ok (.getstatic 38, 3) := by decide +kernel
theorem J_String_coder_d3 : decode J_String_coder.2.1 3 = .ok (.ifCond .eq 10, 3) := by decide +kernel
theorem J_String_coder_d6 : decode J_String_coder.2.1 6 = .ok (.aload_n 0, 1) := by decide +kernel
theorem J_String_coder_d7 : decode J_String_coder.2.1 7 = .ok (.getfield 15, 3) := by decide +kernel
theorem J_String_coder_d10 : decode J_String_coder.2.1 10 = .ok (.goto 4, 3) := by decide +kernel
theorem J_String_coder_d13 : decode J_String_coder.2.1 13 = .ok (.iconst 1, 1) := by decide +kernel
theorem J_String_coder_d14 : decode J_String_coder.2.1 14 = .ok (.ireturn, 1) := by decide +kernel
theorem f_String_coder_ok {L : Nat} {xs : Nat → Int32} {dep : Nat} {w : Bool} {M : im_M} {Q : Int32 → Prop} (hM : lw_S w M) (h : ed (f_String_coder M) Q) : ia (tb_G L xs) dep J_String_coder (rpI M Q) (0, lv_args 0 [.ref 2000000], [], M) := by
  have hS : im_St (tb_G L xs) dep J_String_coder (ia (tb_G L xs) dep J_String_coder (rpI M Q)) := ia_St
  unfold f_String_coder at h
  have l0 : im_lk (lv_args 0 [.ref 2000000]) 0 = some (.ref 2000000) := rfl
  refine iq_getstatic hS 3 J_String_coder_d0 gs_19_38 rfl ?_
  refine iq_if_eq hS 6 J_String_coder_d3 (t := 13) rfl (fun q3 => ?_) rfl (fun q3 => ?_)
  · replace h := ed_pos q3 h
    refine iq_iconst hS 14 J_String_coder_d13 (v := 1) (by decide +kernel) rfl ?_
    exact iq_iret J_String_coder_d14 rfl rfl ⟨_, rfl, rfl, ed_some h⟩
  · replace h := ed_neg q3 h
    refine iq_aload_n hS 7 J_String_coder_d6 l0 rfl ?_
    refine iq_xcod hS 10 J_String_coder_d7 (gf_of (by decide +kernel)) (gvT_of (by decide +kernel)) xks_0 rfl ?_
    refine iq_goto hS J_String_coder_d10 (t := 14) rfl ?_
    exact iq_iret J_String_coder_d14 rfl rfl ⟨_, rfl, rfl, ed_some h⟩
noncomputable def f_String_length (M : im_M) : Option (Int32) := bd1 (f_String_coder M) fun (x1 : Int32) => some ((Int32.ofNat 23) >>> (x1 &&& 31))
theorem J_String_length_d0 : decode J_String_length.2.1 0 = .ok (.aload_n 0, 1) := by decide +kernel
theorem J_String_length_d1 : decode J_String_length.2.1 1 = .ok (.getfield 9, 3) := by decide +kernel
theorem J_String_length_d4 : decode J_String_length.2.1 4 = .ok (.arraylength, 1) := by decide +kernel
theorem J_String_length_d5 : decode J_String_length.2.1 5 = .ok (.aload_n 0, 1) := by decide +kernel
theorem J_String_length_d6 : decode J_String_length.2.1 6 = .ok (.invokevirtual 335, 3) := by decide +kernel
theorem J_String_length_d9 : decode J_String_length.2.1 9 = .ok (.ishr, 1) := by decide +kernel
theorem J_String_length_d10 : decode J_String_length.2.1 10 = .ok (.ireturn, 1) := by decide +kernel
theorem f_String_length_ok {L : Nat} {xs : Nat → Int32} {dep : Nat} {w : Bool} {M : im_M} {Q : Int32 → Prop} (hM : lw_S w M) (h : ed (f_String_length M) Q) : ia (tb_G L xs) (dep + 1) J_String_length (rpI M Q) (0, lv_args 0 [.ref 2000000], [], M) := by
  have hS : im_St (tb_G L xs) (dep + 1) J_String_length (ia (tb_G L xs) (dep + 1) J_String_length (rpI M Q)) := ia_St
  unfold f_String_length at h
  have l0 : im_lk (lv_args 0 [.ref 2000000]) 0 = some (.ref 2000000) := rfl
  refine iq_aload_n hS 1 J_String_length_d0 l0 rfl ?_
  refine iq_xval hS 4 J_String_length_d1 (gf_of (by decide +kernel)) (gvT_of (by decide +kernel)) xks_0 (b := 3000000) rfl rfl ?_
  refine iq_xalen hS 5 J_String_length_d4 (by rw [(hM).1]; decide) (Or.inr (by rw [xkb_0])) rfl ?_
  rw [xkb_0]
  refine iq_aload_n hS 6 J_String_length_d5 l0 rfl ?_
  obtain ⟨Q1, hQ1, h⟩ := bd1_ed h
  refine iq_cpI hS 9 J_String_length_d6 rfl (pr_inst (vs := []) lc_19_335 lT_24 rfl rfl (by decide) (by decide) rfl (Nat.le_of_ble_eq_true rfl) (Nat.le_of_ble_eq_true rfl) (fun _ => Or.inr ⟨xks_0, rfl⟩)) (f_String_coder_ok (dep := dep + 0) hM h) rfl ?_
  intro x1 h
  replace h := hQ1 _ h
  refine iq_ishr hS 10 J_String_length_d9 rfl ?_
  exact iq_iret J_String_length_d10 rfl rfl ⟨_, rfl, rfl, ed_some h⟩
noncomputable def f_StringLatin1_canEncode (p0 : Int32) (M : im_M) : Option (Int32) := if p0 < 0 then some 0 else if 255 < p0 then some 0 else some 1
theorem J_StringLatin1_canEncode_d0 : decode J_StringLatin1_canEncode.2.1 0 = .ok (.iload_n 0, 1) := by decide +kernel
theorem J_StringLatin1_canEncode_d1 : decode J_StringLatin1_canEncode.2.1 1 = .ok (.ifCond .lt 14, 3) := by decide +kernel
theorem J_StringLatin1_canEncode_d4 : decode J_StringLatin1_canEncode.2.1 4 = .ok (.iload_n 0, 1) := by decide +kernel
theorem J_StringLatin1_canEncode_d5 : decode J_StringLatin1_canEncode.2.1 5 = .ok (.sipush 255, 3) := by decide +kernel
theorem J_StringLatin1_canEncode_d8 : decode J_StringLatin1_canEncode.2.1 8 = .ok (.if_icmp .gt 7, 3) := by decide +kernel
theorem J_StringLatin1_canEncode_d11 : decode J_StringLatin1_canEncode.2.1 11 = .ok (.iconst 1, 1) := by decide +kernel
theorem J_StringLatin1_canEncode_d12 : decode J_StringLatin1_canEncode.2.1 12 = .ok (.goto 4, 3) := by decide +kernel
theorem J_StringLatin1_canEncode_d15 : decode J_StringLatin1_canEncode.2.1 15 = .ok (.iconst 0, 1) := by decide +kernel
theorem J_StringLatin1_canEncode_d16 : decode J_StringLatin1_canEncode.2.1 16 = .ok (.ireturn, 1) := by decide +kernel
theorem f_StringLatin1_canEncode_ok {L : Nat} {xs : Nat → Int32} {dep : Nat} {w : Bool} {p0 : Int32} {M : im_M} {Q : Int32 → Prop} (hM : lw_S w M) (h : ed (f_StringLatin1_canEncode p0 M) Q) : ia (tb_G L xs) dep J_StringLatin1_canEncode (rpI M Q) (0, lv_args 0 [.int p0], [], M) := by
  have hS : im_St (tb_G L xs) dep J_StringLatin1_canEncode (ia (tb_G L xs) dep J_StringLatin1_canEncode (rpI M Q)) := ia_St
  unfold f_StringLatin1_canEncode at h
  have l0 : im_lk (lv_args 0 [.int p0]) 0 = some (.int p0) := rfl
  refine iq_iload_n hS 1 J_StringLatin1_canEncode_d0 l0 rfl ?_
  refine iq_if_lt hS 4 J_StringLatin1_canEncode_d1 (t := 15) rfl (fun q1 => ?_) rfl (fun q1 => ?_)
  · replace h := ed_pos q1 h
    refine iq_iconst hS 16 J_StringLatin1_canEncode_d15 (v := 0) (by decide +kernel) rfl ?_
    exact iq_iret J_StringLatin1_canEncode_d16 rfl rfl ⟨_, rfl, rfl, ed_some h⟩
  · replace h := ed_neg q1 h
    refine iq_iload_n hS 5 J_StringLatin1_canEncode_d4 l0 rfl ?_
    refine iq_sipush hS 8 J_StringLatin1_canEncode_d5 (v := 255) (by decide +kernel) rfl ?_
    refine iq_icmp_gt hS 11 J_StringLatin1_canEncode_d8 (t := 15) rfl (fun q8 => ?_) rfl (fun q8 => ?_)
    · replace h := ed_pos q8 h
      refine iq_iconst hS 16 J_StringLatin1_canEncode_d15 (v := 0) (by decide +kernel) rfl ?_
      exact iq_iret J_StringLatin1_canEncode_d16 rfl rfl ⟨_, rfl, rfl, ed_some h⟩
    · replace h := ed_neg q8 h
      refine iq_iconst hS 12 J_StringLatin1_canEncode_d11 (v := 1) (by decide +kernel) rfl ?_
      refine iq_goto hS J_StringLatin1_canEncode_d12 (t := 16) rfl ?_
      exact iq_iret J_StringLatin1_canEncode_d16 rfl rfl ⟨_, rfl, rfl, ed_some h⟩
noncomputable def f_Math_max (p0 : Int32) (p1 : Int32) (M : im_M) : Option (Int32) := if p0 < p1 then some p1 else some p0
theorem J_Math_max_d0 : decode J_Math_max.2.1 0 = .ok (.iload_n 0, 1) := by decide +kernel
theorem J_Math_max_d1 : decode J_Math_max.2.1 1 = .ok (.iload_n 1, 1) := by decide +kernel
theorem J_Math_max_d2 : decode J_Math_max.2.1 2 = .ok (.if_icmp .lt 7, 3) := by decide +kernel
theorem J_Math_max_d5 : decode J_Math_max.2.1 5 = .ok (.iload_n 0, 1) := by decide +kernel
theorem J_Math_max_d6 : decode J_Math_max.2.1 6 = .ok (.goto 4, 3) := by decide +kernel
theorem J_Math_max_d9 : decode J_Math_max.2.1 9 = .ok (.iload_n 1, 1) := by decide +kernel
theorem J_Math_max_d10 : decode J_Math_max.2.1 10 = .ok (.ireturn, 1) := by decide +kernel
theorem f_Math_max_ok {L : Nat} {xs : Nat → Int32} {dep : Nat} {w : Bool} {p0 : Int32} {p1 : Int32} {M : im_M} {Q : Int32 → Prop} (hM : lw_S w M) (h : ed (f_Math_max p0 p1 M) Q) : ia (tb_G L xs) dep J_Math_max (rpI M Q) (0, lv_args 0 [.int p0, .int p1], [], M) := by
  have hS : im_St (tb_G L xs) dep J_Math_max (ia (tb_G L xs) dep J_Math_max (rpI M Q)) := ia_St
  unfold f_Math_max at h
  have l0 : im_lk (lv_args 0 [.int p0, .int p1]) 0 = some (.int p0) := rfl
  have l1 : im_lk (lv_args 0 [.int p0, .int p1]) 1 = some (.int p1) := rfl
  refine iq_iload_n hS 1 J_Math_max_d0 l0 rfl ?_
  refine iq_iload_n hS 2 J_Math_max_d1 l1 rfl ?_
  refine iq_icmp_lt hS 5 J_Math_max_d2 (t := 9) rfl (fun q2 => ?_) rfl (fun q2 => ?_)
  · replace h := ed_pos q2 h
    refine iq_iload_n hS 10 J_Math_max_d9 l1 rfl ?_
    exact iq_iret J_Math_max_d10 rfl rfl ⟨_, rfl, rfl, ed_some h⟩
  · replace h := ed_neg q2 h
    refine iq_iload_n hS 6 J_Math_max_d5 l0 rfl ?_
    refine iq_goto hS J_Math_max_d6 (t := 10) rfl ?_
    exact iq_iret J_Math_max_d10 rfl rfl ⟨_, rfl, rfl, ed_some h⟩
noncomputable def f_Math_min (p0 : Int32) (p1 : Int32) (M : im_M) : Option (Int32) := if p1 < p0 then some p1 else some p0
theorem J_Math_min_d0 : decode J_Math_min.2.1 0 = .ok (.iload_n 0, 1) := by decide +kernel
theorem J_Math_min_d1 : decode J_Math_min.2.1 1 = .ok (.iload_n 1, 1) := by decide +kernel
theorem J_Math_min_d2 : decode J_Math_min.2.1 2 = .ok (.if_icmp .gt 7, 3) := by decide +kernel
theorem J_Math_min_d5 : decode J_Math_min.2.1 5 = .ok (.iload_n 0, 1) := by decide +kernel
theorem J_Math_min_d6 : decode J_Math_min.2.1 6 = .ok (.goto 4, 3) := by decide +kernel
theorem J_Math_min_d9 : decode J_Math_min.2.1 9 = .ok (.iload_n 1, 1) := by decide +kernel
theorem J_Math_min_d10 : decode J_Math_min.2.1 10 = .ok (.ireturn, 1) := by decide +kernel
theorem f_Math_min_ok {L : Nat} {xs : Nat → Int32} {dep : Nat} {w : Bool} {p0 : Int32} {p1 : Int32} {M : im_M} {Q : Int32 → Prop} (hM : lw_S w M) (h : ed (f_Math_min p0 p1 M) Q) : ia (tb_G L xs) dep J_Math_min (rpI M Q) (0, lv_args 0 [.int p0, .int p1], [], M) := by
  have hS : im_St (tb_G L xs) dep J_Math_min (ia (tb_G L xs) dep J_Math_min (rpI M Q)) := ia_St
  unfold f_Math_min at h
  have l0 : im_lk (lv_args 0 [.int p0, .int p1]) 0 = some (.int p0) := rfl
  have l1 : im_lk (lv_args 0 [.int p0, .int p1]) 1 = some (.int p1) := rfl
  refine iq_iload_n hS 1 J_Math_min_d0 l0 rfl ?_
  refine iq_iload_n hS 2 J_Math_min_d1 l1 rfl ?_
  refine iq_icmp_gt hS 5 J_Math_min_d2 (t := 9) rfl (fun q2 => ?_) rfl (fun q2 => ?_)
  · replace h := ed_pos q2 h
    refine iq_iload_n hS 10 J_Math_min_d9 l1 rfl ?_
    exact iq_iret J_Math_min_d10 rfl rfl ⟨_, rfl, rfl, ed_some h⟩
  · replace h := ed_neg q2 h
    refine iq_iload_n hS 6 J_Math_min_d5 l0 rfl ?_
    refine iq_goto hS J_Math_min_d6 (t := 10) rfl ?_
    exact iq_iret J_Math_min_d10 rfl rfl ⟨_, rfl, rfl, ed_some h⟩
noncomputable def f_StringLatin1_indexOfChar_L7 (v2 : Int32) (v3 : Int32) (M5 : im_M) (x4 : Int32) : Option ((Int32) ⊕ ((Unit) ⊕ (Int32))) := if v2 ≤ x4 then some (.inr (.inl ())) else gd (inb x4 23) <| if ¬ (xb_0 x4) = v3 then some (.inl (x4 + 1)) else some (.inr (.inr x4))
noncomputable def f_StringLatin1_indexOfChar (p1 : Int32) (p2 : Int32) (p3 : Int32) (M : im_M) : Option (Int32) := bs0 (lp (uc1 (f_StringLatin1_indexOfChar_L7 p3 ((Int32.toInt8 p1).toInt32) M)) p2) (fun (_ : Unit) => some (-1)) (fun t => some t)
theorem J_StringLatin1_indexOfChar_d0 : decode J_StringLatin1_indexOfChar.2.1 0 = .ok (.iload_n 1, 1) := by decide +kernel
theorem J_StringLatin1_indexOfChar_d1 : decode J_StringLatin1_indexOfChar.2.1 1 = .ok (.i2b, 1) := by decide +kernel
theorem J_StringLatin1_indexOfChar_d2 : decode J_StringLatin1_indexOfChar.2.1 2 = .ok (.istore 4, 2) := by decide +kernel
theorem J_StringLatin1_indexOfChar_d4 : decode J_StringLatin1_indexOfChar.2.1 4 = .ok (.iload_n 2, 1) := by decide +kernel
theorem J_StringLatin1_indexOfChar_d5 : decode J_StringLatin1_indexOfChar.2.1 5 = .ok (.istore 5, 2) := by decide +kernel
theorem J_StringLatin1_indexOfChar_d7 : decode J_StringLatin1_indexOfChar.2.1 7 = .ok (.iload 5, 2) := by decide +kernel
theorem J_StringLatin1_indexOfChar_d9 : decode J_StringLatin1_indexOfChar.2.1 9 = .ok (.iload_n 3, 1) := by decide +kernel
theorem J_StringLatin1_indexOfChar_d10 : decode J_StringLatin1_indexOfChar.2.1 10 = .ok (.if_icmp .ge 21, 3) := by decide +kernel
theorem J_StringLatin1_indexOfChar_d13 : decode J_StringLatin1_indexOfChar.2.1 13 = .ok (.aload_n 0, 1) := by decide +kernel
theorem J_StringLatin1_indexOfChar_d14 : decode J_StringLatin1_indexOfChar.2.1 14 = .ok (.iload 5, 2) := by decide +kernel
theorem J_StringLatin1_indexOfChar_d16 : decode J_StringLatin1_indexOfChar.2.1 16 = .ok (.baload, 1) := by decide +kernel
theorem J_StringLatin1_indexOfChar_d17 : decode J_StringLatin1_indexOfChar.2.1 17 = .ok (.iload 4, 2) := by decide +kernel
theorem J_StringLatin1_indexOfChar_d19 : decode J_StringLatin1_indexOfChar.2.1 19 = .ok (.if_icmp .ne 6, 3) := by decide +kernel
theorem J_StringLatin1_indexOfChar_d22 : decode J_StringLatin1_indexOfChar.2.1 22 = .ok (.iload 5, 2) := by decide +kernel
theorem J_StringLatin1_indexOfChar_d24 : decode J_StringLatin1_indexOfChar.2.1 24 = .ok (.ireturn, 1) := by decide +kernel
theorem J_StringLatin1_indexOfChar_d25 : decode J_StringLatin1_indexOfChar.2.1 25 = .ok (.iinc 5 1, 3) := by decide +kernel
theorem J_StringLatin1_indexOfChar_d28 : decode J_StringLatin1_indexOfChar.2.1 28 = .ok (.goto (-21), 3) := by decide +kernel
theorem J_StringLatin1_indexOfChar_d31 : decode J_StringLatin1_indexOfChar.2.1 31 = .ok (.iconst (-1), 1) := by decide +kernel
theorem J_StringLatin1_indexOfChar_d32 : decode J_StringLatin1_indexOfChar.2.1 32 = .ok (.ireturn, 1) := by decide +kernel
theorem f_StringLatin1_indexOfChar_ok {L : Nat} {xs : Nat → Int32} {dep : Nat} {w : Bool} {p1 : Int32} {p2 : Int32} {p3 : Int32} {M : im_M} {Q : Int32 → Prop} (hM : lw_S w M) (h : ed (f_StringLatin1_indexOfChar p1 p2 p3 M) Q) : ia (tb_G L xs) dep J_StringLatin1_indexOfChar (rpI M Q) (0, lv_args 0 [.ref 3000000, .int p1, .int p2, .int p3], [], M) := by
  have hS : im_St (tb_G L xs) dep J_StringLatin1_indexOfChar (ia (tb_G L xs) dep J_StringLatin1_indexOfChar (rpI M Q)) := ia_St
  unfold f_StringLatin1_indexOfChar at h
  have l0 : im_lk (lv_args 0 [.ref 3000000, .int p1, .int p2, .int p3]) 0 = some (.ref 3000000) := rfl
  have l1 : im_lk (lv_args 0 [.ref 3000000, .int p1, .int p2, .int p3]) 1 = some (.int p1) := rfl
  have l2 : im_lk (lv_args 0 [.ref 3000000, .int p1, .int p2, .int p3]) 2 = some (.int p2) := rfl
  have l3 : im_lk (lv_args 0 [.ref 3000000, .int p1, .int p2, .int p3]) 3 = some (.int p3) := rfl
  refine iq_iload_n hS 1 J_StringLatin1_indexOfChar_d0 l1 rfl ?_
  refine iq_i2b hS 2 J_StringLatin1_indexOfChar_d1 rfl ?_
  refine iq_istore hS 4 J_StringLatin1_indexOfChar_d2 (by decide) rfl ?_
  refine iq_iload_n hS 5 J_StringLatin1_indexOfChar_d4 (lk_1i l2 (by decide)) rfl ?_
  refine iq_istore hS 7 J_StringLatin1_indexOfChar_d5 (by decide) rfl ?_
  obtain ⟨Q1, hQ1, hR1, h⟩ := bs0_ed h
  have K1 : ∀  (L' : List (Nat × Value)), Q1 (.inl ()) → ia (tb_G L xs) dep J_StringLatin1_indexOfChar (rpI M Q) (31, L', [], M) := by
    intro  L'  h
    replace h := hQ1  h
    refine iq_iconst hS 32 J_StringLatin1_indexOfChar_d31 (v := (-1)) (by decide +kernel) rfl ?_
    exact iq_iret J_StringLatin1_indexOfChar_d32 rfl rfl ⟨_, rfl, rfl, ed_some h⟩
  obtain ⟨r1, hr1, hq1⟩ := h
  obtain ⟨n1, hn1⟩ := lp_n hr1
  have I1 : ∀ (n : Nat) (x2 : Int32) (L' : List (Nat × Value)), im_lk L' 0 = some (.ref 3000000) → im_lk L' 3 = some (.int p3) → im_lk L' 4 = some (.int ((Int32.toInt8 p1).toInt32)) → im_lk L' 5 = some (.int x2) → lpn (uc1 (f_StringLatin1_indexOfChar_L7 p3 ((Int32.toInt8 p1).toInt32) M)) n x2 = some r1 → ia (tb_G L xs) dep J_StringLatin1_indexOfChar (rpI M Q) (7, L', [], M) := by
    intro n
    induction n with
    | zero => intro x2 L' l3 l4 l5 l6 hn; exact (lpn_0 hn).elim
    | succ n ih =>
      intro x2 L' l3 l4 l5 l6 hn
      have h := lpn_ed1 hn
      unfold f_StringLatin1_indexOfChar_L7 at h
      refine iq_iload hS 9 J_StringLatin1_indexOfChar_d7 l6 rfl ?_
      refine iq_iload_n hS 10 J_StringLatin1_indexOfChar_d9 l4 rfl ?_
      refine iq_icmp_ge hS 13 J_StringLatin1_indexOfChar_d10 (t := 31) rfl (fun q10 => ?_) rfl (fun q10 => ?_)
      · replace h := ed_pos q10 h
        exact K1  _  (lq_r h hq1)
      · replace h := ed_neg q10 h
        refine iq_aload_n hS 14 J_StringLatin1_indexOfChar_d13 l3 rfl ?_
        refine iq_iload hS 16 J_StringLatin1_indexOfChar_d14 l6 rfl ?_
        obtain ⟨g16, h⟩ := ed_gd h
        refine iq_xlb_0 hS 17 J_StringLatin1_indexOfChar_d16 hM g16 rfl ?_
        refine iq_iload hS 19 J_StringLatin1_indexOfChar_d17 l5 rfl ?_
        refine iq_icmp_ne hS 22 J_StringLatin1_indexOfChar_d19 (t := 25) rfl (fun q19 => ?_) rfl (fun q19 => ?_)
        · replace h := ed_pos q19 h
          refine iq_iincv hS 28 J_StringLatin1_indexOfChar_d25 (c := 1) (by decide +kernel) l6 (by decide) rfl ?_
          refine iq_goto hS J_StringLatin1_indexOfChar_d28 (t := 7) rfl ?_
          exact ih _ _ (lk_1r l3 (by decide)) (lk_1i l4 (by decide)) (lk_1i l5 (by decide)) lk_1s (lq_l h)
        · replace h := ed_neg q19 h
          refine iq_iload hS 24 J_StringLatin1_indexOfChar_d22 l6 rfl ?_
          exact iq_iret J_StringLatin1_indexOfChar_d24 rfl rfl ⟨_, rfl, rfl, ed_some (hR1 _ (lq_r h hq1))⟩
  exact I1 n1 _ _ (lk_1r (lk_1r l0 (by decide)) (by decide)) (lk_1i (lk_1i l3 (by decide)) (by decide)) (lk_1i lk_1s (by decide)) lk_1s hn1
noncomputable def f_StringLatin1_indexOf (p1 : Int32) (p2 : Int32) (p3 : Int32) (M : im_M) : Option (Int32) := bd1 (f_StringLatin1_canEncode p1 M) fun (x1 : Int32) => if ¬ x1 = 0 then bd1 (f_Math_max p2 0 M) fun (x2 : Int32) => bd1 (f_Math_min p3 (Int32.ofNat 23) M) fun (x3 : Int32) => if x2 < x3 then bd1 (f_StringLatin1_indexOfChar p1 x2 x3 M) fun (x4 : Int32) => some x4 else some (-1) else some (-1)
theorem J_StringLatin1_indexOf_d0 : decode J_StringLatin1_indexOf.2.1 0 = .ok (.iload_n 1, 1) := by decide +kernel
theorem J_StringLatin1_indexOf_d1 : decode J_StringLatin1_indexOf.2.1 1 = .ok (.invokestatic 88, 3) := by decide +kernel
theorem J_StringLatin1_indexOf_d4 : decode J_StringLatin1_indexOf.2.1 4 = .ok (.ifCond .ne 5, 3) := by decide +kernel
theorem J_StringLatin1_indexOf_d7 : decode J_StringLatin1_indexOf.2.1 7 = .ok (.iconst (-1), 1) := by decide +kernel
theorem J_StringLatin1_indexOf_d8 : decode J_StringLatin1_indexOf.2.1 8 = .ok (.ireturn, 1) := by decide +kernel
theorem J_StringLatin1_indexOf_d9 : decode J_StringLatin1_indexOf.2.1 9 = .ok (.iload_n 2, 1) := by decide +kernel
theorem J_StringLatin1_indexOf_d10 : decode J_StringLatin1_indexOf.2.1 10 = .ok (.iconst 0, 1) := by decide +kernel
theorem J_StringLatin1_indexOf_d11 : decode J_StringLatin1_indexOf.2.1 11 = .ok (.invokestatic 92, 3) := by decide +kernel
theorem J_StringLatin1_indexOf_d14 : decode J_StringLatin1_indexOf.2.1 14 = .ok (.istore_n 2, 1) := by decide +kernel
theorem J_StringLatin1_indexOf_d15 : decode J_StringLatin1_indexOf.2.1 15 = .ok (.iload_n 3, 1) := by decide +kernel
theorem J_StringLatin1_indexOf_d16 : decode J_StringLatin1_indexOf.2.1 16 = .ok (.aload_n 0, 1) := by decide +kernel
theorem J_StringLatin1_indexOf_d17 : decode J_StringLatin1_indexOf.2.1 17 = .ok (.arraylength, 1) := by decide +kernel
theorem J_StringLatin1_indexOf_d18 : decode J_StringLatin1_indexOf.2.1 18 = .ok (.invokestatic 38, 3) := by decide +kernel
theorem J_StringLatin1_indexOf_d21 : decode J_StringLatin1_indexOf.2.1 21 = .ok (.istore_n 3, 1) := by decide +kernel
theorem J_StringLatin1_indexOf_d22 : decode J_StringLatin1_indexOf.2.1 22 = .ok (.iload_n 2, 1) := by decide +kernel
theorem J_StringLatin1_indexOf_d23 : decode J_StringLatin1_indexOf.2.1 23 = .ok (.iload_n 3, 1) := by decide +kernel
theorem J_StringLatin1_indexOf_d24 : decode J_StringLatin1_indexOf.2.1 24 = .ok (.if_icmp .lt 5, 3) := by decide +kernel
theorem J_StringLatin1_indexOf_d27 : decode J_StringLatin1_indexOf.2.1 27 = .ok (.iconst (-1), 1) := by decide +kernel
theorem J_StringLatin1_indexOf_d28 : decode J_StringLatin1_indexOf.2.1 28 = .ok (.ireturn, 1) := by decide +kernel
theorem J_StringLatin1_indexOf_d29 : decode J_StringLatin1_indexOf.2.1 29 = .ok (.aload_n 0, 1) := by decide +kernel
theorem J_StringLatin1_indexOf_d30 : decode J_StringLatin1_indexOf.2.1 30 = .ok (.iload_n 1, 1) := by decide +kernel
theorem J_StringLatin1_indexOf_d31 : decode J_StringLatin1_indexOf.2.1 31 = .ok (.iload_n 2, 1) := by decide +kernel
theorem J_StringLatin1_indexOf_d32 : decode J_StringLatin1_indexOf.2.1 32 = .ok (.iload_n 3, 1) := by decide +kernel
theorem J_StringLatin1_indexOf_d33 : decode J_StringLatin1_indexOf.2.1 33 = .ok (.invokestatic 95, 3) := by decide +kernel
theorem J_StringLatin1_indexOf_d36 : decode J_StringLatin1_indexOf.2.1 36 = .ok (.ireturn, 1) := by decide +kernel
theorem f_StringLatin1_indexOf_ok {L : Nat} {xs : Nat → Int32} {dep : Nat} {w : Bool} {p1 : Int32} {p2 : Int32} {p3 : Int32} {M : im_M} {Q : Int32 → Prop} (hM : lw_S w M) (h : ed (f_StringLatin1_indexOf p1 p2 p3 M) Q) : ia (tb_G L xs) (dep + 1) J_StringLatin1_indexOf (rpI M Q) (0, lv_args 0 [.ref 3000000, .int p1, .int p2, .int p3], [], M) := by
  have hS : im_St (tb_G L xs) (dep + 1) J_StringLatin1_indexOf (ia (tb_G L xs) (dep + 1) J_StringLatin1_indexOf (rpI M Q)) := ia_St
  unfold f_StringLatin1_indexOf at h
  have l0 : im_lk (lv_args 0 [.ref 3000000, .int p1, .int p2, .int p3]) 0 = some (.ref 3000000) := rfl
  have l1 : im_lk (lv_args 0 [.ref 3000000, .int p1, .int p2, .int p3]) 1 = some (.int p1) := rfl
  have l2 : im_lk (lv_args 0 [.ref 3000000, .int p1, .int p2, .int p3]) 2 = some (.int p2) := rfl
  have l3 : im_lk (lv_args 0 [.ref 3000000, .int p1, .int p2, .int p3]) 3 = some (.int p3) := rfl
  refine iq_iload_n hS 1 J_StringLatin1_indexOf_d0 l1 rfl ?_
  obtain ⟨Q1, hQ1, h⟩ := bd1_ed h
  refine iq_cpI hS 4 J_StringLatin1_indexOf_d1 rfl (pr_stat (vs := [_]) lc_20_88 lT_26 rfl rfl (by decide) rfl (Nat.le_of_ble_eq_true rfl) (Nat.le_of_ble_eq_true rfl)) (f_StringLatin1_canEncode_ok (dep := dep + 0) hM h) rfl ?_
  intro x1 h
  replace h := hQ1 _ h
  refine iq_if_ne hS 7 J_StringLatin1_indexOf_d4 (t := 9) rfl (fun q4 => ?_) rfl (fun q4 => ?_)
  · replace h := ed_pos q4 h
    refine iq_iload_n hS 10 J_StringLatin1_indexOf_d9 l2 rfl ?_
    refine iq_iconst hS 11 J_StringLatin1_indexOf_d10 (v := 0) (by decide +kernel) rfl ?_
    obtain ⟨Q2, hQ2, h⟩ := bd1_ed h
    refine iq_cpI hS 14 J_StringLatin1_indexOf_d11 rfl (pr_stat (vs := [_, _]) lc_20_92 lT_27 rfl rfl (by decide) rfl (Nat.le_of_ble_eq_true rfl) (Nat.le_of_ble_eq_true rfl)) (f_Math_max_ok (dep := dep + 0) hM h) rfl ?_
    intro x2 h
    replace h := hQ2 _ h
    refine iq_istore_n hS 15 J_StringLatin1_indexOf_d14 (by decide) rfl ?_
    refine iq_iload_n hS 16 J_StringLatin1_indexOf_d15 (lk_1i l3 (by decide)) rfl ?_
    refine iq_aload_n hS 17 J_StringLatin1_indexOf_d16 (lk_1r l0 (by decide)) rfl ?_
    refine iq_xalen hS 18 J_StringLatin1_indexOf_d17 (by rw [(hM).1]; decide) (Or.inr (by rw [xkb_0])) rfl ?_
    rw [xkb_0]
    obtain ⟨Q3, hQ3, h⟩ := bd1_ed h
    refine iq_cpI hS 21 J_StringLatin1_indexOf_d18 rfl (pr_stat (vs := [_, _]) lc_20_38 lT_28 rfl rfl (by decide) rfl (Nat.le_of_ble_eq_true rfl) (Nat.le_of_ble_eq_true rfl)) (f_Math_min_ok (dep := dep + 0) hM h) rfl ?_
    intro x3 h
    replace h := hQ3 _ h
    refine iq_istore_n hS 22 J_StringLatin1_indexOf_d21 (by decide) rfl ?_
    refine iq_iload_n hS 23 J_StringLatin1_indexOf_d22 (lk_1i lk_1s (by decide)) rfl ?_
    refine iq_iload_n hS 24 J_StringLatin1_indexOf_d23 lk_1s rfl ?_
    refine iq_icmp_lt hS 27 J_StringLatin1_indexOf_d24 (t := 29) rfl (fun q24 => ?_) rfl (fun q24 => ?_)
    · replace h := ed_pos q24 h
      refine iq_aload_n hS 30 J_StringLatin1_indexOf_d29 (lk_1r (lk_1r l0 (by decide)) (by decide)) rfl ?_
      refine iq_iload_n hS 31 J_StringLatin1_indexOf_d30 (lk_1i (lk_1i l1 (by decide)) (by decide)) rfl ?_
      refine iq_iload_n hS 32 J_StringLatin1_indexOf_d31 (lk_1i lk_1s (by decide)) rfl ?_
      refine iq_iload_n hS 33 J_StringLatin1_indexOf_d32 lk_1s rfl ?_
      obtain ⟨Q4, hQ4, h⟩ := bd1_ed h
      refine iq_cpI hS 36 J_StringLatin1_indexOf_d33 rfl (pr_stat (vs := [_, _, _, _]) lc_20_95 lT_29 rfl rfl (by decide) rfl (Nat.le_of_ble_eq_true rfl) (Nat.le_of_ble_eq_true rfl)) (f_StringLatin1_indexOfChar_ok (dep := dep + 0) hM h) rfl ?_
      intro x4 h
      replace h := hQ4 _ h
      exact iq_iret J_StringLatin1_indexOf_d36 rfl rfl ⟨_, rfl, rfl, ed_some h⟩
    · replace h := ed_neg q24 h
      refine iq_iconst hS 28 J_StringLatin1_indexOf_d27 (v := (-1)) (by decide +kernel) rfl ?_
      exact iq_iret J_StringLatin1_indexOf_d28 rfl rfl ⟨_, rfl, rfl, ed_some h⟩
  · replace h := ed_neg q4 h
    refine iq_iconst hS 8 J_StringLatin1_indexOf_d7 (v := (-1)) (by decide +kernel) rfl ?_
    exact iq_iret J_StringLatin1_indexOf_d8 rfl rfl ⟨_, rfl, rfl, ed_some h⟩
noncomputable def f_String_indexOf2 (p0 : Int32) (p1 : Int32) (M : im_M) : Option (Int32) := bd1 (f_String_isLatin1 M) fun (x1 : Int32) => if x1 = 0 then bd1 (f_String_length M) fun (x2 : Int32) => none else bd1 (f_String_length M) fun (x3 : Int32) => bd1 (f_StringLatin1_indexOf p0 p1 x3 M) fun (x4 : Int32) => some x4
theorem J_String_indexOf2_d0 : decode J_String_indexOf2.2.1 0 = .ok (.aload_n 0, 1) := by decide +kernel
theorem J_String_indexOf2_d1 : decode J_String_indexOf2.2.1 1 = .ok (.invokevirtual 492, 3) := by decide +kernel
theorem J_String_indexOf2_d4 : decode J_String_indexOf2.2.1 4 = .ok (.ifCond .eq 19, 3) := by decide +kernel
theorem J_String_indexOf2_d7 : decode J_String_indexOf2.2.1 7 = .ok (.aload_n 0, 1) := by decide +kernel
theorem J_String_indexOf2_d8 : decode J_String_indexOf2.2.1 8 = .ok (.getfield 9, 3) := by decide +kernel
theorem J_String_indexOf2_d11 : decode J_String_indexOf2.2.1 11 = .ok (.iload_n 1, 1) := by decide +kernel
theorem J_String_indexOf2_d12 : decode J_String_indexOf2.2.1 12 = .ok (.iload_n 2, 1) := by decide +kernel
theorem J_String_indexOf2_d13 : decode J_String_indexOf2.2.1 13 = .ok (.aload_n 0, 1) := by decide +kernel
theorem J_String_indexOf2_d14 : decode J_String_indexOf2.2.1 14 = .ok (.invokevirtual 505, 3) := by decide +kernel
theorem J_String_indexOf2_d17 : decode J_String_indexOf2.2.1 17 = .ok (.invokestatic 637, 3) := by decide +kernel
theorem J_String_indexOf2_d20 : decode J_String_indexOf2.2.1 20 = .ok (.goto 16, 3) := by decide +kernel
theorem J_String_indexOf2_d23 : decode J_String_indexOf2.2.1 23 = .ok (.aload_n 0, 1) := by decide +kernel
theorem J_String_indexOf2_d24 : decode J_String_indexOf2.2.1 24 = .ok (.getfield 9, 3) := by decide +kernel
theorem J_String_indexOf2_d27 : decode J_String_indexOf2.2.1 27 = .ok (.iload_n 1, 1) := by decide +kernel
theorem J_String_indexOf2_d28 : decode J_String_indexOf2.2.1 28 = .ok (.iload_n 2, 1) := by decide +kernel
theorem J_String_indexOf2_d29 : decode J_String_indexOf2.2.1 29 = .ok (.aload_n 0, 1) := by decide +kernel
theorem J_String_indexOf2_d30 : decode J_String_indexOf2.2.1 30 = .ok (.invokevirtual 505, 3) := by decide +kernel
theorem J_String_indexOf2_d36 : decode J_String_indexOf2.2.1 36 = .ok (.ireturn, 1) := by decide +kernel
theorem f_String_indexOf2_ok {L : Nat} {xs : Nat → Int32} {dep : Nat} {w : Bool} {p0 : Int32} {p1 : Int32} {M : im_M} {Q : Int32 → Prop} (hM : lw_S w M) (h : ed (f_String_indexOf2 p0 p1 M) Q) : ia (tb_G L xs) (dep + 2) J_String_indexOf2 (rpI M Q) (0, lv_args 0 [.ref 2000000, .int p0, .int p1], [], M) := by
  have hS : im_St (tb_G L xs) (dep + 2) J_String_indexOf2 (ia (tb_G L xs) (dep + 2) J_String_indexOf2 (rpI M Q)) := ia_St
  unfold f_String_indexOf2 at h
  have l0 : im_lk (lv_args 0 [.ref 2000000, .int p0, .int p1]) 0 = some (.ref 2000000) := rfl
  have l1 : im_lk (lv_args 0 [.ref 2000000, .int p0, .int p1]) 1 = some (.int p0) := rfl
  have l2 : im_lk (lv_args 0 [.ref 2000000, .int p0, .int p1]) 2 = some (.int p1) := rfl
  refine iq_aload_n hS 1 J_String_indexOf2_d0 l0 rfl ?_
  obtain ⟨Q1, hQ1, h⟩ := bd1_ed h
  refine iq_cpI hS 4 J_String_indexOf2_d1 rfl (pr_inst (vs := []) lc_19_492 lT_22 rfl rfl (by decide) (by decide) rfl (Nat.le_of_ble_eq_true rfl) (Nat.le_of_ble_eq_true rfl) (fun _ => Or.inr ⟨xks_0, rfl⟩)) (f_String_isLatin1_ok (dep := dep + 1) hM h) rfl ?_
  intro x1 h
  replace h := hQ1 _ h
  refine iq_if_eq hS 7 J_String_indexOf2_d4 (t := 23) rfl (fun q4 => ?_) rfl (fun q4 => ?_)
  · replace h := ed_pos q4 h
    refine iq_aload_n hS 24 J_String_indexOf2_d23 l0 rfl ?_
    refine iq_xval hS 27 J_String_indexOf2_d24 (gf_of (by decide +kernel)) (gvT_of (by decide +kernel)) xks_0 (b := 3000000) rfl rfl ?_
    refine iq_iload_n hS 28 J_String_indexOf2_d27 l1 rfl ?_
    refine iq_iload_n hS 29 J_String_indexOf2_d28 l2 rfl ?_
    refine iq_aload_n hS 30 J_String_indexOf2_d29 l0 rfl ?_
    obtain ⟨Q2, hQ2, h⟩ := bd1_ed h
    refine iq_cpI hS 33 J_String_indexOf2_d30 rfl (pr_inst (vs := []) lc_19_505 lT_23 rfl rfl (by decide) (by decide) rfl (Nat.le_of_ble_eq_true rfl) (Nat.le_of_ble_eq_true rfl) (fun _ => Or.inr ⟨xks_0, rfl⟩)) (f_String_length_ok (dep := dep + 0) hM h) rfl ?_
    intro x2 h
    replace h := hQ2 _ h
    exact (ed_none h).elim
  · replace h := ed_neg q4 h
    refine iq_aload_n hS 8 J_String_indexOf2_d7 l0 rfl ?_
    refine iq_xval hS 11 J_String_indexOf2_d8 (gf_of (by decide +kernel)) (gvT_of (by decide +kernel)) xks_0 (b := 3000000) rfl rfl ?_
    refine iq_iload_n hS 12 J_String_indexOf2_d11 l1 rfl ?_
    refine iq_iload_n hS 13 J_String_indexOf2_d12 l2 rfl ?_
    refine iq_aload_n hS 14 J_String_indexOf2_d13 l0 rfl ?_
    obtain ⟨Q3, hQ3, h⟩ := bd1_ed h
    refine iq_cpI hS 17 J_String_indexOf2_d14 rfl (pr_inst (vs := []) lc_19_505 lT_23 rfl rfl (by decide) (by decide) rfl (Nat.le_of_ble_eq_true rfl) (Nat.le_of_ble_eq_true rfl) (fun _ => Or.inr ⟨xks_0, rfl⟩)) (f_String_length_ok (dep := dep + 0) hM h) rfl ?_
    intro x3 h
    replace h := hQ3 _ h
    obtain ⟨Q4, hQ4, h⟩ := bd1_ed h
    refine iq_cpI hS 20 J_String_indexOf2_d17 rfl (pr_stat (vs := [_, _, _, _]) lc_19_637 lT_25 rfl rfl (by decide) rfl (Nat.le_of_ble_eq_true rfl) (Nat.le_of_ble_eq_true rfl)) (f_StringLatin1_indexOf_ok (dep := dep + 0) hM h) rfl ?_
    intro x4 h
    replace h := hQ4 _ h
    refine iq_goto hS J_String_indexOf2_d20 (t := 36) rfl ?_
    exact iq_iret J_String_indexOf2_d36 rfl rfl ⟨_, rfl, rfl, ed_some h⟩
noncomputable def f_String_indexOf (p0 : Int32) (M : im_M) : Option (Int32) := bd1 (f_String_indexOf2 p0 0 M) fun (x1 : Int32) => some x1
theorem J_String_indexOf_d0 : decode J_String_indexOf.2.1 0 = .ok (.aload_n 0, 1) := by decide +kernel
theorem J_String_indexOf_d1 : decode J_String_indexOf.2.1 1 = .ok (.iload_n 1, 1) := by decide +kernel
theorem J_String_indexOf_d2 : decode J_String_indexOf.2.1 2 = .ok (.iconst 0, 1) := by decide +kernel
theorem J_String_indexOf_d3 : decode J_String_indexOf.2.1 3 = .ok (.invokevirtual 633, 3) := by decide +kernel
theorem J_String_indexOf_d6 : decode J_String_indexOf.2.1 6 = .ok (.ireturn, 1) := by decide +kernel
theorem f_String_indexOf_ok {L : Nat} {xs : Nat → Int32} {dep : Nat} {w : Bool} {p0 : Int32} {M : im_M} {Q : Int32 → Prop} (hM : lw_S w M) (h : ed (f_String_indexOf p0 M) Q) : ia (tb_G L xs) (dep + 3) J_String_indexOf (rpI M Q) (0, lv_args 0 [.ref 2000000, .int p0], [], M) := by
  have hS : im_St (tb_G L xs) (dep + 3) J_String_indexOf (ia (tb_G L xs) (dep + 3) J_String_indexOf (rpI M Q)) := ia_St
  unfold f_String_indexOf at h
  have l0 : im_lk (lv_args 0 [.ref 2000000, .int p0]) 0 = some (.ref 2000000) := rfl
  have l1 : im_lk (lv_args 0 [.ref 2000000, .int p0]) 1 = some (.int p0) := rfl
  refine iq_aload_n hS 1 J_String_indexOf_d0 l0 rfl ?_
  refine iq_iload_n hS 2 J_String_indexOf_d1 l1 rfl ?_
  refine iq_iconst hS 3 J_String_indexOf_d2 (v := 0) (by decide +kernel) rfl ?_
  obtain ⟨Q1, hQ1, h⟩ := bd1_ed h
  refine iq_cpI hS 6 J_String_indexOf_d3 rfl (pr_inst (vs := [_, _]) lc_19_633 lT_21 rfl rfl (by decide) (by decide) rfl (Nat.le_of_ble_eq_true rfl) (Nat.le_of_ble_eq_true rfl) (fun _ => Or.inr ⟨xks_0, rfl⟩)) (f_String_indexOf2_ok (dep := dep + 0) hM h) rfl ?_
  intro x1 h
  replace h := hQ1 _ h
  exact iq_iret J_String_indexOf_d6 rfl rfl ⟨_, rfl, rfl, ed_some h⟩
noncomputable def f_HSetter_canStand (p0 : Int32) (M : im_M) : Option (Int32) := if p0 = 0 ∨ p0 = 1 then if ¬ (im_i M 15 8) = 0 then some 0 else some 1 else if p0 = 2 then some 1 else if p0 = 3 then if (im_i M 15 8) = 0 then some 0 else if ¬ (im_i M 1 6) = 0 then some 0 else some 1 else if p0 = 22 then if (im_i M 15 8) = 0 then some 0 else if (im_i M 23 2) = (-1) then some 0 else some 1 else gd ((im_i M 15 8) = 0 ∨ (im_i M 15 8) = 1) <| some (im_i M 15 8)
theorem J_HSetter_canStand_d0 : decode J_HSetter_canStand.2.1 0 = .ok (.iload_n 1, 1) := by decide +kernel
theorem J_HSetter_canStand_d1 : decode J_HSetter_canStand.2.1 1 = .ok (.lookupswitch 113 #[(0, 51), (1, 51), (2, 64), (3, 66), (22, 89)], 51) := by decide +kernel
theorem J_HSetter_canStand_d52 : decode J_HSetter_canStand.2.1 52 = .ok (.aload_n 0, 1) := by decide +kernel
theorem J_HSetter_canStand_d53 : decode J_HSetter_canStand.2.1 53 = .ok (.getfield 62, 3) := by decide +kernel
theorem J_HSetter_canStand_d56 : decode J_HSetter_canStand.2.1 56 = .ok (.ifCond .ne 7, 3) := by decide +kernel
theorem J_HSetter_canStand_d59 : decode J_HSetter_canStand.2.1 59 = .ok (.iconst 1, 1) := by decide +kernel
theorem J_HSetter_canStand_d60 : decode J_HSetter_canStand.2.1 60 = .ok (.goto 4, 3) := by decide +kernel
theorem J_HSetter_canStand_d63 : decode J_HSetter_canStand.2.1 63 = .ok (.iconst 0, 1) := by decide +kernel
theorem J_HSetter_canStand_d64 : decode J_HSetter_canStand.2.1 64 = .ok (.ireturn, 1) := by decide +kernel
theorem J_HSetter_canStand_d65 : decode J_HSetter_canStand.2.1 65 = .ok (.iconst 1, 1) := by decide +kernel
theorem J_HSetter_canStand_d66 : decode J_HSetter_canStand.2.1 66 = .ok (.ireturn, 1) := by decide +kernel
theorem J_HSetter_canStand_d67 : decode J_HSetter_canStand.2.1 67 = .ok (.aload_n 0, 1) := by decide +kernel
theorem J_HSetter_canStand_d68 : decode J_HSetter_canStand.2.1 68 = .ok (.getfield 62, 3) := by decide +kernel
theorem J_HSetter_canStand_d71 : decode J_HSetter_canStand.2.1 71 = .ok (.ifCond .eq 17, 3) := by decide +kernel
theorem J_HSetter_canStand_d74 : decode J_HSetter_canStand.2.1 74 = .ok (.aload_n 0, 1) := by decide +kernel
theorem J_HSetter_canStand_d75 : decode J_HSetter_canStand.2.1 75 = .ok (.getfield 25, 3) := by decide +kernel
theorem J_HSetter_canStand_d78 : decode J_HSetter_canStand.2.1 78 = .ok (.getfield 79, 3) := by decide +kernel
theorem J_HSetter_canStand_d81 : decode J_HSetter_canStand.2.1 81 = .ok (.ifCond .ne 7, 3) := by decide +kernel
theorem J_HSetter_canStand_d84 : decode J_HSetter_canStand.2.1 84 = .ok (.iconst 1, 1) := by decide +kernel
theorem J_HSetter_canStand_d85 : decode J_HSetter_canStand.2.1 85 = .ok (.goto 4, 3) := by decide +kernel
theorem J_HSetter_canStand_d88 : decode J_HSetter_canStand.2.1 88 = .ok (.iconst 0, 1) := by decide +kernel
theorem J_HSetter_canStand_d89 : decode J_HSetter_canStand.2.1 89 = .ok (.ireturn, 1) := by decide +kernel
theorem J_HSetter_canStand_d90 : decode J_HSetter_canStand.2.1 90 = .ok (.aload_n 0, 1) := by decide +kernel
theorem J_HSetter_canStand_d91 : decode J_HSetter_canStand.2.1 91 = .ok (.getfield 62, 3) := by decide +kernel
theorem J_HSetter_canStand_d94 : decode J_HSetter_canStand.2.1 94 = .ok (.ifCond .eq 18, 3) := by decide +kernel
theorem J_HSetter_canStand_d97 : decode J_HSetter_canStand.2.1 97 = .ok (.aload_n 0, 1) := by decide +kernel
theorem J_HSetter_canStand_d98 : decode J_HSetter_canStand.2.1 98 = .ok (.getfield 44, 3) := by decide +kernel
theorem J_HSetter_canStand_d101 : decode J_HSetter_canStand.2.1 101 = .ok (.getfield 128, 3) := by decide +kernel
theorem J_HSetter_canStand_d104 : decode J_HSetter_canStand.2.1 104 = .ok (.iconst (-1), 1) := by decide +kernel
theorem J_HSetter_canStand_d105 : decode J_HSetter_canStand.2.1 105 = .ok (.if_icmp .eq 7, 3) := by decide +kernel
theorem J_HSetter_canStand_d108 : decode J_HSetter_canStand.2.1 108 = .ok (.iconst 1, 1) := by decide +kernel
theorem J_HSetter_canStand_d109 : decode J_HSetter_canStand.2.1 109 = .ok (.goto 4, 3) := by decide +kernel
theorem J_HSetter_canStand_d112 : decode J_HSetter_canStand.2.1 112 = .ok (.iconst 0, 1) := by decide +kernel
theorem J_HSetter_canStand_d113 : decode J_HSetter_canStand.2.1 113 = .ok (.ireturn, 1) := by decide +kernel
theorem J_HSetter_canStand_d114 : decode J_HSetter_canStand.2.1 114 = .ok (.aload_n 0, 1) := by decide +kernel
theorem J_HSetter_canStand_d115 : decode J_HSetter_canStand.2.1 115 = .ok (.getfield 62, 3) := by decide +kernel
theorem J_HSetter_canStand_d118 : decode J_HSetter_canStand.2.1 118 = .ok (.ireturn, 1) := by decide +kernel
theorem f_HSetter_canStand_ok {L : Nat} {xs : Nat → Int32} {dep : Nat} {w : Bool} {p0 : Int32} {M : im_M} {Q : Int32 → Prop} (hM : lw_S w M) (h : ed (f_HSetter_canStand p0 M) Q) : ia (tb_G L xs) dep J_HSetter_canStand (rpI M Q) (0, lv_args 0 [.ref 15, .int p0], [], M) := by
  have hS : im_St (tb_G L xs) dep J_HSetter_canStand (ia (tb_G L xs) dep J_HSetter_canStand (rpI M Q)) := ia_St
  unfold f_HSetter_canStand at h
  have l0 : im_lk (lv_args 0 [.ref 15, .int p0]) 0 = some (.ref 15) := rfl
  have l1 : im_lk (lv_args 0 [.ref 15, .int p0]) 1 = some (.int p0) := rfl
  refine iq_iload_n hS 1 J_HSetter_canStand_d0 l1 rfl ?_
  by_cases q1_0 : p0 = 0 ∨ p0 = 1
  · replace h := ed_pos q1_0 h
    refine iq_lsw hS J_HSetter_canStand_d1 (t := 52) (by rcases q1_0 with z | z <;> exact sl_v z (by decide +kernel)) ?_
    refine iq_aload_n hS 53 J_HSetter_canStand_d52 l0 rfl ?_
    refine iq_getI hS 56 J_HSetter_canStand_d53 lf_8_62 (Or.inr rfl) (ka_15 hM) rfl ?_
    refine iq_if_ne hS 59 J_HSetter_canStand_d56 (t := 63) rfl (fun q56 => ?_) rfl (fun q56 => ?_)
    · replace h := ed_pos q56 h
      refine iq_iconst hS 64 J_HSetter_canStand_d63 (v := 0) (by decide +kernel) rfl ?_
      exact iq_iret J_HSetter_canStand_d64 rfl rfl ⟨_, rfl, rfl, ed_some h⟩
    · replace h := ed_neg q56 h
      refine iq_iconst hS 60 J_HSetter_canStand_d59 (v := 1) (by decide +kernel) rfl ?_
      refine iq_goto hS J_HSetter_canStand_d60 (t := 64) rfl ?_
      exact iq_iret J_HSetter_canStand_d64 rfl rfl ⟨_, rfl, rfl, ed_some h⟩
  replace h := ed_neg q1_0 h
  by_cases q1_2 : p0 = 2
  · replace h := ed_pos q1_2 h
    refine iq_lsw hS J_HSetter_canStand_d1 (t := 65) (sl_v q1_2 (by decide +kernel)) ?_
    refine iq_iconst hS 66 J_HSetter_canStand_d65 (v := 1) (by decide +kernel) rfl ?_
    exact iq_iret J_HSetter_canStand_d66 rfl rfl ⟨_, rfl, rfl, ed_some h⟩
  replace h := ed_neg q1_2 h
  by_cases q1_3 : p0 = 3
  · replace h := ed_pos q1_3 h
    refine iq_lsw hS J_HSetter_canStand_d1 (t := 67) (sl_v q1_3 (by decide +kernel)) ?_
    refine iq_aload_n hS 68 J_HSetter_canStand_d67 l0 rfl ?_
    refine iq_getI hS 71 J_HSetter_canStand_d68 lf_8_62 (Or.inr rfl) (ka_15 hM) rfl ?_
    refine iq_if_eq hS 74 J_HSetter_canStand_d71 (t := 88) rfl (fun q71 => ?_) rfl (fun q71 => ?_)
    · replace h := ed_pos q71 h
      refine iq_iconst hS 89 J_HSetter_canStand_d88 (v := 0) (by decide +kernel) rfl ?_
      exact iq_iret J_HSetter_canStand_d89 rfl rfl ⟨_, rfl, rfl, ed_some h⟩
    · replace h := ed_neg q71 h
      refine iq_aload_n hS 75 J_HSetter_canStand_d74 l0 rfl ?_
      refine iq_getR hS 78 J_HSetter_canStand_d75 lf_8_25 (Or.inl ⟨_, rfl⟩) (ka_15 hM) (ra_15_0 hM) rfl ?_
      refine iq_getI hS 81 J_HSetter_canStand_d78 lf_8_79 (Or.inl rfl) (ka_1 hM) rfl ?_
      refine iq_if_ne hS 84 J_HSetter_canStand_d81 (t := 88) rfl (fun q81 => ?_) rfl (fun q81 => ?_)
      · replace h := ed_pos q81 h
        refine iq_iconst hS 89 J_HSetter_canStand_d88 (v := 0) (by decide +kernel) rfl ?_
        exact iq_iret J_HSetter_canStand_d89 rfl rfl ⟨_, rfl, rfl, ed_some h⟩
      · replace h := ed_neg q81 h
        refine iq_iconst hS 85 J_HSetter_canStand_d84 (v := 1) (by decide +kernel) rfl ?_
        refine iq_goto hS J_HSetter_canStand_d85 (t := 89) rfl ?_
        exact iq_iret J_HSetter_canStand_d89 rfl rfl ⟨_, rfl, rfl, ed_some h⟩
  replace h := ed_neg q1_3 h
  by_cases q1_22 : p0 = 22
  · replace h := ed_pos q1_22 h
    refine iq_lsw hS J_HSetter_canStand_d1 (t := 90) (sl_v q1_22 (by decide +kernel)) ?_
    refine iq_aload_n hS 91 J_HSetter_canStand_d90 l0 rfl ?_
    refine iq_getI hS 94 J_HSetter_canStand_d91 lf_8_62 (Or.inr rfl) (ka_15 hM) rfl ?_
    refine iq_if_eq hS 97 J_HSetter_canStand_d94 (t := 112) rfl (fun q94 => ?_) rfl (fun q94 => ?_)
    · replace h := ed_pos q94 h
      refine iq_iconst hS 113 J_HSetter_canStand_d112 (v := 0) (by decide +kernel) rfl ?_
      exact iq_iret J_HSetter_canStand_d113 rfl rfl ⟨_, rfl, rfl, ed_some h⟩
    · replace h := ed_neg q94 h
      refine iq_aload_n hS 98 J_HSetter_canStand_d97 l0 rfl ?_
      refine iq_getR hS 101 J_HSetter_canStand_d98 lf_8_44 (Or.inl ⟨_, rfl⟩) (ka_15 hM) (ra_15_3 hM) rfl ?_
      refine iq_getI hS 104 J_HSetter_canStand_d101 lf_8_128 (Or.inl rfl) (ka_23 hM) rfl ?_
      refine iq_iconst hS 105 J_HSetter_canStand_d104 (v := (-1)) (by decide +kernel) rfl ?_
      refine iq_icmp_eq hS 108 J_HSetter_canStand_d105 (t := 112) rfl (fun q105 => ?_) rfl (fun q105 => ?_)
      · replace h := ed_pos q105 h
        refine iq_iconst hS 113 J_HSetter_canStand_d112 (v := 0) (by decide +kernel) rfl ?_
        exact iq_iret J_HSetter_canStand_d113 rfl rfl ⟨_, rfl, rfl, ed_some h⟩
      · replace h := ed_neg q105 h
        refine iq_iconst hS 109 J_HSetter_canStand_d108 (v := 1) (by decide +kernel) rfl ?_
        refine iq_goto hS J_HSetter_canStand_d109 (t := 113) rfl ?_
        exact iq_iret J_HSetter_canStand_d113 rfl rfl ⟨_, rfl, rfl, ed_some h⟩
  replace h := ed_neg q1_22 h
  refine iq_lsw hS J_HSetter_canStand_d1 (t := 114) (sl_d [0, 1, 2, 3, 22] (by decide) (by decide +kernel) (by decide +kernel) (sw_nc (fun z => q1_0 (Or.inl z)) (sw_nc (fun z => q1_0 (Or.inr z)) (sw_nc q1_2 (sw_nc q1_3 (sw_nc q1_22 sw_nn)))))) ?_
  refine iq_aload_n hS 115 J_HSetter_canStand_d114 l0 rfl ?_
  refine iq_getI hS 118 J_HSetter_canStand_d115 lf_8_62 (Or.inr rfl) (ka_15 hM) rfl ?_
  obtain ⟨g118, h⟩ := ed_gd h
  exact iq_iret J_HSetter_canStand_d118 rfl (nar_z g118) ⟨_, rfl, rfl, ed_some h⟩
noncomputable def f_HSetter_leaveOut_L2 (v2 : Int32) (x3 : Int32) (M4 : im_M) : Option ((Int32 × im_M) ⊕ (im_M)) := if 4 ≤ x3 then some (.inr M4) else bd1 (if ¬ v2 = 13 then gd (inb (((12 : Int32) * v2) + ((3 : Int32) * x3)) 276) <| some (xa_0 (((12 : Int32) * v2) + ((3 : Int32) * x3))) else gd (inb x3 4) <| some (im_i M4 18 (Int32.toNatClampNeg x3))) fun (y6 : Int32) => gd (inb x3 4) <| some (.inl ((x3 + 1), (im_setI M4 9 (Int32.toNatClampNeg x3) y6)))
noncomputable def f_HSetter_leaveOut (p0 : Int32) (M : im_M) : Option (im_M) := bd1 (lp (uc2 (f_HSetter_leaveOut_L2 p0)) (0, M)) fun (M10 : im_M) => some M10
theorem J_HSetter_leaveOut_d0 : decode J_HSetter_leaveOut.2.1 0 = .ok (.iconst 0, 1) := by decide +kernel
theorem J_HSetter_leaveOut_d1 : decode J_HSetter_leaveOut.2.1 1 = .ok (.istore_n 2, 1) := by decide +kernel
theorem J_HSetter_leaveOut_d2 : decode J_HSetter_leaveOut.2.1 2 = .ok (.iload_n 2, 1) := by decide +kernel
theorem J_HSetter_leaveOut_d3 : decode J_HSetter_leaveOut.2.1 3 = .ok (.iconst 4, 1) := by decide +kernel
theorem J_HSetter_leaveOut_d4 : decode J_HSetter_leaveOut.2.1 4 = .ok (.if_icmp .ge 45, 3) := by decide +kernel
theorem J_HSetter_leaveOut_d7 : decode J_HSetter_leaveOut.2.1 7 = .ok (.aload_n 0, 1) := by decide +kernel
theorem J_HSetter_leaveOut_d8 : decode J_HSetter_leaveOut.2.1 8 = .ok (.getfield 25, 3) := by decide +kernel
theorem J_HSetter_leaveOut_d11 : decode J_HSetter_leaveOut.2.1 11 = .ok (.getfield 131, 3) := by decide +kernel
theorem J_HSetter_leaveOut_d14 : decode J_HSetter_leaveOut.2.1 14 = .ok (.iload_n 2, 1) := by decide +kernel
theorem J_HSetter_leaveOut_d15 : decode J_HSetter_leaveOut.2.1 15 = .ok (.iload_n 1, 1) := by decide +kernel
theorem J_HSetter_leaveOut_d16 : decode J_HSetter_leaveOut.2.1 16 = .ok (.bipush 13, 2) := by decide +kernel
theorem J_HSetter_leaveOut_d18 : decode J_HSetter_leaveOut.2.1 18 = .ok (.if_icmp .ne 12, 3) := by decide +kernel
theorem J_HSetter_leaveOut_d21 : decode J_HSetter_leaveOut.2.1 21 = .ok (.aload_n 0, 1) := by decide +kernel
theorem J_HSetter_leaveOut_d22 : decode J_HSetter_leaveOut.2.1 22 = .ok (.getfield 22, 3) := by decide +kernel
theorem J_HSetter_leaveOut_d25 : decode J_HSetter_leaveOut.2.1 25 = .ok (.iload_n 2, 1) := by decide +kernel
theorem J_HSetter_leaveOut_d26 : decode J_HSetter_leaveOut.2.1 26 = .ok (.iaload, 1) := by decide +kernel
theorem J_HSetter_leaveOut_d27 : decode J_HSetter_leaveOut.2.1 27 = .ok (.goto 15, 3) := by decide +kernel
theorem J_HSetter_leaveOut_d30 : decode J_HSetter_leaveOut.2.1 30 = .ok (.getstatic 134, 3) := by decide +kernel
theorem J_HSetter_leaveOut_d33 : decode J_HSetter_leaveOut.2.1 33 = .ok (.bipush 12, 2) := by decide +kernel
theorem J_HSetter_leaveOut_d35 : decode J_HSetter_leaveOut.2.1 35 = .ok (.iload_n 1, 1) := by decide +kernel
theorem J_HSetter_leaveOut_d36 : decode J_HSetter_leaveOut.2.1 36 = .ok (.imul, 1) := by decide +kernel
theorem J_HSetter_leaveOut_d37 : decode J_HSetter_leaveOut.2.1 37 = .ok (.iconst 3, 1) := by decide +kernel
theorem J_HSetter_leaveOut_d38 : decode J_HSetter_leaveOut.2.1 38 = .ok (.iload_n 2, 1) := by decide +kernel
theorem J_HSetter_leaveOut_d39 : decode J_HSetter_leaveOut.2.1 39 = .ok (.imul, 1) := by decide +kernel
theorem J_HSetter_leaveOut_d40 : decode J_HSetter_leaveOut.2.1 40 = .ok (.iadd, 1) := by decide +kernel
theorem J_HSetter_leaveOut_d41 : decode J_HSetter_leaveOut.2.1 41 = .ok (.iaload, 1) := by decide +kernel
theorem J_HSetter_leaveOut_d42 : decode J_HSetter_leaveOut.2.1 42 = .ok (.iastore, 1) := by decide +kernel
theorem J_HSetter_leaveOut_d43 : decode J_HSetter_leaveOut.2.1 43 = .ok (.iinc 2 1, 3) := by decide +kernel
theorem J_HSetter_leaveOut_d46 : decode J_HSetter_leaveOut.2.1 46 = .ok (.goto (-44), 3) := by decide +kernel
theorem J_HSetter_leaveOut_d49 : decode J_HSetter_leaveOut.2.1 49 = .ok (.return_, 1) := by decide +kernel
theorem f_HSetter_leaveOut_ok {L : Nat} {xs : Nat → Int32} {dep : Nat} {w : Bool} {p0 : Int32} {M : im_M} {Q : im_M → Prop} (hM : lw_S w M) (h : ed (f_HSetter_leaveOut p0 M) Q) : ia (tb_G L xs) dep J_HSetter_leaveOut (rwV w Q) (0, lv_args 0 [.ref 15, .int p0], [], M) := by
  have hS : im_St (tb_G L xs) dep J_HSetter_leaveOut (ia (tb_G L xs) dep J_HSetter_leaveOut (rwV w Q)) := ia_St
  unfold f_HSetter_leaveOut at h
  have l0 : im_lk (lv_args 0 [.ref 15, .int p0]) 0 = some (.ref 15) := rfl
  have l1 : im_lk (lv_args 0 [.ref 15, .int p0]) 1 = some (.int p0) := rfl
  refine iq_iconst hS 1 J_HSetter_leaveOut_d0 (v := 0) (by decide +kernel) rfl ?_
  refine iq_istore_n hS 2 J_HSetter_leaveOut_d1 (by decide) rfl ?_
  obtain ⟨Q1, hQ1, h⟩ := bd1_ed h
  have K1 : ∀ (M2 : im_M) (L' : List (Nat × Value)), lw_S w M2 → Q1 M2 → ia (tb_G L xs) dep J_HSetter_leaveOut (rwV w Q) (49, L', [], M2) := by
    intro M2 L' hM2  h
    replace h := hQ1 _ h
    exact iq_ret J_HSetter_leaveOut_d49 rfl ⟨rfl, hM2, ed_some h⟩
  obtain ⟨r1, hr1, hq1⟩ := h
  obtain ⟨n1, hn1⟩ := lp_n hr1
  have I1 : ∀ (n : Nat) (x3 : Int32) (M4 : im_M) (L' : List (Nat × Value)), lw_S w M4 → im_lk L' 0 = some (.ref 15) → im_lk L' 1 = some (.int p0) → im_lk L' 2 = some (.int x3) → lpn (uc2 (f_HSetter_leaveOut_L2 p0)) n (x3, M4) = some r1 → ia (tb_G L xs) dep J_HSetter_leaveOut (rwV w Q) (2, L', [], M4) := by
    intro n
    induction n with
    | zero => intro x3 M4 L' hM4 l5 l6 l7 hn; exact (lpn_0 hn).elim
    | succ n ih =>
      intro x3 M4 L' hM4 l5 l6 l7 hn
      have h := lpn_ed2 hn
      unfold f_HSetter_leaveOut_L2 at h
      refine iq_iload_n hS 3 J_HSetter_leaveOut_d2 l7 rfl ?_
      refine iq_iconst hS 4 J_HSetter_leaveOut_d3 (v := 4) (by decide +kernel) rfl ?_
      refine iq_icmp_ge hS 7 J_HSetter_leaveOut_d4 (t := 49) rfl (fun q4 => ?_) rfl (fun q4 => ?_)
      · replace h := ed_pos q4 h
        exact K1 _ _ hM4  (lq_r h hq1)
      · replace h := ed_neg q4 h
        refine iq_aload_n hS 8 J_HSetter_leaveOut_d7 l5 rfl ?_
        refine iq_getR hS 11 J_HSetter_leaveOut_d8 lf_8_25 (Or.inl ⟨_, rfl⟩) (ka_15 hM4) (ra_15_0 hM4) rfl ?_
        refine iq_getR hS 14 J_HSetter_leaveOut_d11 lf_8_131 (Or.inr ⟨_, rfl⟩) (ka_1 hM4) (ra_1_9 hM4) rfl ?_
        refine iq_iload_n hS 15 J_HSetter_leaveOut_d14 l7 rfl ?_
        refine iq_iload_n hS 16 J_HSetter_leaveOut_d15 l6 rfl ?_
        refine iq_bipush hS 18 J_HSetter_leaveOut_d16 (v := 13) (by decide +kernel) rfl ?_
        obtain ⟨Q8, hQ8, h⟩ := bd1_ed h
        have J8 : ∀ (y9 : Int32) (L' : List (Nat × Value)), im_lk L' 0 = some (.ref 15) → im_lk L' 1 = some (.int p0) → im_lk L' 2 = some (.int x3) → Q8 y9 → ia (tb_G L xs) dep J_HSetter_leaveOut (rwV w Q) (42, L', [.int y9, .int x3, .ref 9], M4) := by
          intro y9 L' l10 l11 l12 h
          replace h := hQ8 _ h
          obtain ⟨g42, h⟩ := ed_gd h
          refine iq_iastore hS 43 J_HSetter_leaveOut_d42 ⟨(ka_9 hM4).1, (ka_9 hM4).2, g42.1, ix_lt (kl_9 hM4) g42.2⟩ rfl ?_
          refine iq_iincv hS 46 J_HSetter_leaveOut_d43 (c := 1) (by decide +kernel) l12 (by decide) rfl ?_
          refine iq_goto hS J_HSetter_leaveOut_d46 (t := 2) rfl ?_
          exact ih _ _ _ hM4 (lk_1r l10 (by decide)) (lk_1i l11 (by decide)) lk_1s (lq_l h)
        refine iq_icmp_ne hS 21 J_HSetter_leaveOut_d18 (t := 30) rfl (fun q18 => ?_) rfl (fun q18 => ?_)
        · replace h := ed_pos q18 h
          refine iq_getstatic hS 33 J_HSetter_leaveOut_d30 gs_8_134 rfl ?_
          refine iq_bipush hS 35 J_HSetter_leaveOut_d33 (v := 12) (by decide +kernel) rfl ?_
          refine iq_iload_n hS 36 J_HSetter_leaveOut_d35 l6 rfl ?_
          refine iq_imul hS 37 J_HSetter_leaveOut_d36 rfl ?_
          refine iq_iconst hS 38 J_HSetter_leaveOut_d37 (v := 3) (by decide +kernel) rfl ?_
          refine iq_iload_n hS 39 J_HSetter_leaveOut_d38 l7 rfl ?_
          refine iq_imul hS 40 J_HSetter_leaveOut_d39 rfl ?_
          refine iq_iadd hS 41 J_HSetter_leaveOut_d40 rfl ?_
          obtain ⟨g41, h⟩ := ed_gd h
          refine iq_xl_0 hS 42 J_HSetter_leaveOut_d41 hM4 g41 rfl ?_
          exact J8 _ _ l5 l6 l7 (ed_some h)
        · replace h := ed_neg q18 h
          refine iq_aload_n hS 22 J_HSetter_leaveOut_d21 l5 rfl ?_
          refine iq_getR hS 25 J_HSetter_leaveOut_d22 lf_8_22 (Or.inr ⟨_, rfl⟩) (ka_15 hM4) (ra_15_14 hM4) rfl ?_
          refine iq_iload_n hS 26 J_HSetter_leaveOut_d25 l7 rfl ?_
          obtain ⟨g26, h⟩ := ed_gd h
          refine iq_iaload hS 27 J_HSetter_leaveOut_d26 ⟨(ka_18 hM4).1, (ka_18 hM4).2, g26.1, ix_lt (kl_18 hM4) g26.2⟩ rfl ?_
          refine iq_goto hS J_HSetter_leaveOut_d27 (t := 42) rfl ?_
          exact J8 _ _ l5 l6 l7 (ed_some h)
  exact I1 n1 _ _ _ hM (lk_1r l0 (by decide)) (lk_1i l1 (by decide)) lk_1s hn1
noncomputable def f_HTape_isDigit (p0 : Int32) (M : im_M) : Option (Int32) := if p0 < 48 then some 0 else if 57 < p0 then some 0 else some 1
theorem J_HTape_isDigit_d0 : decode J_HTape_isDigit.2.1 0 = .ok (.iload_n 0, 1) := by decide +kernel
theorem J_HTape_isDigit_d1 : decode J_HTape_isDigit.2.1 1 = .ok (.bipush 48, 2) := by decide +kernel
theorem J_HTape_isDigit_d3 : decode J_HTape_isDigit.2.1 3 = .ok (.if_icmp .lt 13, 3) := by decide +kernel
theorem J_HTape_isDigit_d6 : decode J_HTape_isDigit.2.1 6 = .ok (.iload_n 0, 1) := by decide +kernel
theorem J_HTape_isDigit_d7 : decode J_HTape_isDigit.2.1 7 = .ok (.bipush 57, 2) := by decide +kernel
theorem J_HTape_isDigit_d9 : decode J_HTape_isDigit.2.1 9 = .ok (.if_icmp .gt 7, 3) := by decide +kernel
theorem J_HTape_isDigit_d12 : decode J_HTape_isDigit.2.1 12 = .ok (.iconst 1, 1) := by decide +kernel
theorem J_HTape_isDigit_d13 : decode J_HTape_isDigit.2.1 13 = .ok (.goto 4, 3) := by decide +kernel
theorem J_HTape_isDigit_d16 : decode J_HTape_isDigit.2.1 16 = .ok (.iconst 0, 1) := by decide +kernel
theorem J_HTape_isDigit_d17 : decode J_HTape_isDigit.2.1 17 = .ok (.ireturn, 1) := by decide +kernel
theorem f_HTape_isDigit_ok {L : Nat} {xs : Nat → Int32} {dep : Nat} {w : Bool} {p0 : Int32} {M : im_M} {Q : Int32 → Prop} (hM : lw_S w M) (h : ed (f_HTape_isDigit p0 M) Q) : ia (tb_G L xs) dep J_HTape_isDigit (rpI M Q) (0, lv_args 0 [.int p0], [], M) := by
  have hS : im_St (tb_G L xs) dep J_HTape_isDigit (ia (tb_G L xs) dep J_HTape_isDigit (rpI M Q)) := ia_St
  unfold f_HTape_isDigit at h
  have l0 : im_lk (lv_args 0 [.int p0]) 0 = some (.int p0) := rfl
  refine iq_iload_n hS 1 J_HTape_isDigit_d0 l0 rfl ?_
  refine iq_bipush hS 3 J_HTape_isDigit_d1 (v := 48) (by decide +kernel) rfl ?_
  refine iq_icmp_lt hS 6 J_HTape_isDigit_d3 (t := 16) rfl (fun q3 => ?_) rfl (fun q3 => ?_)
  · replace h := ed_pos q3 h
    refine iq_iconst hS 17 J_HTape_isDigit_d16 (v := 0) (by decide +kernel) rfl ?_
    exact iq_iret J_HTape_isDigit_d17 rfl rfl ⟨_, rfl, rfl, ed_some h⟩
  · replace h := ed_neg q3 h
    refine iq_iload_n hS 7 J_HTape_isDigit_d6 l0 rfl ?_
    refine iq_bipush hS 9 J_HTape_isDigit_d7 (v := 57) (by decide +kernel) rfl ?_
    refine iq_icmp_gt hS 12 J_HTape_isDigit_d9 (t := 16) rfl (fun q9 => ?_) rfl (fun q9 => ?_)
    · replace h := ed_pos q9 h
      refine iq_iconst hS 17 J_HTape_isDigit_d16 (v := 0) (by decide +kernel) rfl ?_
      exact iq_iret J_HTape_isDigit_d17 rfl rfl ⟨_, rfl, rfl, ed_some h⟩
    · replace h := ed_neg q9 h
      refine iq_iconst hS 13 J_HTape_isDigit_d12 (v := 1) (by decide +kernel) rfl ?_
      refine iq_goto hS J_HTape_isDigit_d13 (t := 17) rfl ?_
      exact iq_iret J_HTape_isDigit_d17 rfl rfl ⟨_, rfl, rfl, ed_some h⟩
noncomputable def f_HTape_takeNumber_L28 (v10 : Int32) (v11 : Int32) (x12 : Int32) (x13 : Int32) (M14 : im_M) : Option ((Int32 × Int32 × im_M) ⊕ (Int32 × Int32 × im_M)) := if 6 ≤ x13 then some (.inr (x12, x13, M14)) else bd1 (f_HTape_next M14) fun (x15 : Int32) => bd1 (f_HTape_isDigit x15 M14) fun (x16 : Int32) => if x16 = 0 then some (.inr (x12, x13, M14)) else bd1 (f_HTape_next M14) fun (x17 : Int32) => bd1 (f_HTape_pass M14) fun (M18 : im_M) => some (.inl (((((10 : Int32) * x12) + x17) - 48), (x13 + 1), M18))
noncomputable def f_HTape_takeNumber (p0 : Int32) (M : im_M) : Option (Int32 × im_M) := bd1 (f_HTape_next M) fun (x1 : Int32) => bd1 (if ((if ¬ x1 = 45 then 0 else 1) : Int32) = 0 then some M else bd1 (f_HTape_pass M) fun (M4 : im_M) => some M4) fun (M5 : im_M) => bd3 (lp (uc3 (f_HTape_takeNumber_L28 p0 ((if ¬ x1 = 45 then 0 else 1) : Int32))) (0, 0, M5)) fun (y19 : Int32) (y20 : Int32) (M21 : im_M) => if 5 < y20 then some (0, M21) else jn0 (fun (_ : Unit) => if y20 ≤ 0 then some (1, M21) else gd (inb p0 4) <| some (1, (im_setI M21 9 (Int32.toNatClampNeg p0) ((if ((if ¬ x1 = 45 then 0 else 1) : Int32) = 0 then y19 else (-y19)) : Int32)))) fun k22 => if ((if ¬ x1 = 45 then 0 else 1) : Int32) = 0 then k22 () else if ¬ y20 = 0 then k22 () else some (0, M21)
theorem J_HTape_takeNumber_d0 : decode J_HTape_takeNumber.2.1 0 = .ok (.aload_n 0, 1) := by decide +kernel
theorem J_HTape_takeNumber_d1 : decode J_HTape_takeNumber.2.1 1 = .ok (.invokevirtual 47, 3) := by decide +kernel
theorem J_HTape_takeNumber_d4 : decode J_HTape_takeNumber.2.1 4 = .ok (.bipush 45, 2) := by decide +kernel
theorem J_HTape_takeNumber_d6 : decode J_HTape_takeNumber.2.1 6 = .ok (.if_icmp .ne 7, 3) := by decide +kernel
theorem J_HTape_takeNumber_d9 : decode J_HTape_takeNumber.2.1 9 = .ok (.iconst 1, 1) := by decide +kernel
theorem J_HTape_takeNumber_d10 : decode J_HTape_takeNumber.2.1 10 = .ok (.goto 4, 3) := by decide +kernel
theorem J_HTape_takeNumber_d13 : decode J_HTape_takeNumber.2.1 13 = .ok (.iconst 0, 1) := by decide +kernel
theorem J_HTape_takeNumber_d14 : decode J_HTape_takeNumber.2.1 14 = .ok (.istore_n 2, 1) := by decide +kernel
theorem J_HTape_takeNumber_d15 : decode J_HTape_takeNumber.2.1 15 = .ok (.iload_n 2, 1) := by decide +kernel
theorem J_HTape_takeNumber_d16 : decode J_HTape_takeNumber.2.1 16 = .ok (.ifCond .eq 7, 3) := by decide +kernel
theorem J_HTape_takeNumber_d19 : decode J_HTape_takeNumber.2.1 19 = .ok (.aload_n 0, 1) := by decide +kernel
theorem J_HTape_takeNumber_d20 : decode J_HTape_takeNumber.2.1 20 = .ok (.invokevirtual 51, 3) := by decide +kernel
theorem J_HTape_takeNumber_d23 : decode J_HTape_takeNumber.2.1 23 = .ok (.iconst 0, 1) := by decide +kernel
theorem J_HTape_takeNumber_d24 : decode J_HTape_takeNumber.2.1 24 = .ok (.istore_n 3, 1) := by decide +kernel
theorem J_HTape_takeNumber_d25 : decode J_HTape_takeNumber.2.1 25 = .ok (.iconst 0, 1) := by decide +kernel
theorem J_HTape_takeNumber_d26 : decode J_HTape_takeNumber.2.1 26 = .ok (.istore 4, 2) := by decide +kernel
theorem J_HTape_takeNumber_d28 : decode J_HTape_takeNumber.2.1 28 = .ok (.iload 4, 2) := by decide +kernel
theorem J_HTape_takeNumber_d30 : decode J_HTape_takeNumber.2.1 30 = .ok (.bipush 6, 2) := by decide +kernel
theorem J_HTape_takeNumber_d32 : decode J_HTape_takeNumber.2.1 32 = .ok (.if_icmp .ge 36, 3) := by decide +kernel
theorem J_HTape_takeNumber_d35 : decode J_HTape_takeNumber.2.1 35 = .ok (.aload_n 0, 1) := by decide +kernel
theorem J_HTape_takeNumber_d36 : decode J_HTape_takeNumber.2.1 36 = .ok (.invokevirtual 47, 3) := by decide +kernel
theorem J_HTape_takeNumber_d39 : decode J_HTape_takeNumber.2.1 39 = .ok (.invokestatic 58, 3) := by decide +kernel
theorem J_HTape_takeNumber_d42 : decode J_HTape_takeNumber.2.1 42 = .ok (.ifCond .eq 26, 3) := by decide +kernel
theorem J_HTape_takeNumber_d45 : decode J_HTape_takeNumber.2.1 45 = .ok (.bipush 10, 2) := by decide +kernel
theorem J_HTape_takeNumber_d47 : decode J_HTape_takeNumber.2.1 47 = .ok (.iload_n 3, 1) := by decide +kernel
theorem J_HTape_takeNumber_d48 : decode J_HTape_takeNumber.2.1 48 = .ok (.imul, 1) := by decide +kernel
theorem J_HTape_takeNumber_d49 : decode J_HTape_takeNumber.2.1 49 = .ok (.aload_n 0, 1) := by decide +kernel
theorem J_HTape_takeNumber_d50 : decode J_HTape_takeNumber.2.1 50 = .ok (.invokevirtual 47, 3) := by decide +kernel
theorem J_HTape_takeNumber_d53 : decode J_HTape_takeNumber.2.1 53 = .ok (.iadd, 1) := by decide +kernel
theorem J_HTape_takeNumber_d54 : decode J_HTape_takeNumber.2.1 54 = .ok (.bipush 48, 2) := by decide +kernel
theorem J_HTape_takeNumber_d56 : decode J_HTape_takeNumber.2.1 56 = .ok (.isub, 1) := by decide +kernel
theorem J_HTape_takeNumber_d57 : decode J_HTape_takeNumber.2.1 57 = .ok (.istore_n 3, 1) := by decide +kernel
theorem J_HTape_takeNumber_d58 : decode J_HTape_takeNumber.2.1 58 = .ok (.aload_n 0, 1) := by decide +kernel
theorem J_HTape_takeNumber_d59 : decode J_HTape_takeNumber.2.1 59 = .ok (.invokevirtual 51, 3) := by decide +kernel
theorem J_HTape_takeNumber_d62 : decode J_HTape_takeNumber.2.1 62 = .ok (.iinc 4 1, 3) := by decide +kernel
theorem J_HTape_takeNumber_d65 : decode J_HTape_takeNumber.2.1 65 = .ok (.goto (-37), 3) := by decide +kernel
theorem J_HTape_takeNumber_d68 : decode J_HTape_takeNumber.2.1 68 = .ok (.iload 4, 2) := by decide +kernel
theorem J_HTape_takeNumber_d70 : decode J_HTape_takeNumber.2.1 70 = .ok (.iconst 5, 1) := by decide +kernel
theorem J_HTape_takeNumber_d71 : decode J_HTape_takeNumber.2.1 71 = .ok (.if_icmp .gt 12, 3) := by decide +kernel
theorem J_HTape_takeNumber_d74 : decode J_HTape_takeNumber.2.1 74 = .ok (.iload_n 2, 1) := by decide +kernel
theorem J_HTape_takeNumber_d75 : decode J_HTape_takeNumber.2.1 75 = .ok (.ifCond .eq 10, 3) := by decide +kernel
theorem J_HTape_takeNumber_d78 : decode J_HTape_takeNumber.2.1 78 = .ok (.iload 4, 2) := by decide +kernel
theorem J_HTape_takeNumber_d80 : decode J_HTape_takeNumber.2.1 80 = .ok (.ifCond .ne 5, 3) := by decide +kernel
theorem J_HTape_takeNumber_d83 : decode J_HTape_takeNumber.2.1 83 = .ok (.iconst 0, 1) := by decide +kernel
theorem J_HTape_takeNumber_d84 : decode J_HTape_takeNumber.2.1 84 = .ok (.ireturn, 1) := by decide +kernel
theorem J_HTape_takeNumber_d85 : decode J_HTape_takeNumber.2.1 85 = .ok (.iload 4, 2) := by decide +kernel
theorem J_HTape_takeNumber_d87 : decode J_HTape_takeNumber.2.1 87 = .ok (.ifCond .le 19, 3) := by decide +kernel
theorem J_HTape_takeNumber_d90 : decode J_HTape_takeNumber.2.1 90 = .ok (.aload_n 0, 1) := by decide +kernel
theorem J_HTape_takeNumber_d91 : decode J_HTape_takeNumber.2.1 91 = .ok (.getfield 34, 3) := by decide +kernel
theorem J_HTape_takeNumber_d94 : decode J_HTape_takeNumber.2.1 94 = .ok (.iload_n 1, 1) := by decide +kernel
theorem J_HTape_takeNumber_d95 : decode J_HTape_takeNumber.2.1 95 = .ok (.iload_n 2, 1) := by decide +kernel
theorem J_HTape_takeNumber_d96 : decode J_HTape_takeNumber.2.1 96 = .ok (.ifCond .eq 8, 3) := by decide +kernel
theorem J_HTape_takeNumber_d99 : decode J_HTape_takeNumber.2.1 99 = .ok (.iload_n 3, 1) := by decide +kernel
theorem J_HTape_takeNumber_d100 : decode J_HTape_takeNumber.2.1 100 = .ok (.ineg, 1) := by decide +kernel
theorem J_HTape_takeNumber_d101 : decode J_HTape_takeNumber.2.1 101 = .ok (.goto 4, 3) := by decide +kernel
theorem J_HTape_takeNumber_d104 : decode J_HTape_takeNumber.2.1 104 = .ok (.iload_n 3, 1) := by decide +kernel
theorem J_HTape_takeNumber_d105 : decode J_HTape_takeNumber.2.1 105 = .ok (.iastore, 1) := by decide +kernel
theorem J_HTape_takeNumber_d106 : decode J_HTape_takeNumber.2.1 106 = .ok (.iconst 1, 1) := by decide +kernel
theorem J_HTape_takeNumber_d107 : decode J_HTape_takeNumber.2.1 107 = .ok (.ireturn, 1) := by decide +kernel
theorem f_HTape_takeNumber_ok {L : Nat} {xs : Nat → Int32} {dep : Nat} {w : Bool} {p0 : Int32} {M : im_M} {Q : Int32 × im_M → Prop} (hM : lw_S w M) (h : ed (f_HTape_takeNumber p0 M) Q) : ia (tb_G L xs) (dep + 1) J_HTape_takeNumber (rwI w Q) (0, lv_args 0 [.ref 1, .int p0], [], M) := by
  have hS : im_St (tb_G L xs) (dep + 1) J_HTape_takeNumber (ia (tb_G L xs) (dep + 1) J_HTape_takeNumber (rwI w Q)) := ia_St
  unfold f_HTape_takeNumber at h
  have l0 : im_lk (lv_args 0 [.ref 1, .int p0]) 0 = some (.ref 1) := rfl
  have l1 : im_lk (lv_args 0 [.ref 1, .int p0]) 1 = some (.int p0) := rfl
  refine iq_aload_n hS 1 J_HTape_takeNumber_d0 l0 rfl ?_
  obtain ⟨Q1, hQ1, h⟩ := bd1_ed h
  refine iq_cpI hS 4 J_HTape_takeNumber_d1 rfl (pr_inst (vs := []) lc_10_47 lT_17 rfl rfl (by decide) (by decide) rfl (Nat.le_of_ble_eq_true rfl) (Nat.le_of_ble_eq_true rfl) (fun _ => Or.inl (pr_b (ka_1 hM) (by decide) rfl))) (f_HTape_next_ok (dep := dep + 0) hM h) rfl ?_
  intro x1 h
  replace h := hQ1 _ h
  refine iq_bipush hS 6 J_HTape_takeNumber_d4 (v := 45) (by decide +kernel) rfl ?_
  have J2 : ∀ (z3 : Int32) (L' : List (Nat × Value)), z3 = ((if ¬ x1 = 45 then 0 else 1) : Int32) → im_lk L' 0 = some (.ref 1) → im_lk L' 1 = some (.int p0) → ia (tb_G L xs) (dep + 1) J_HTape_takeNumber (rwI w Q) (14, L', [.int z3], M) := by
    intro z3 L' e4 l5 l6
    subst e4
    refine iq_istore_n hS 15 J_HTape_takeNumber_d14 (by decide) rfl ?_
    refine iq_iload_n hS 16 J_HTape_takeNumber_d15 lk_1s rfl ?_
    obtain ⟨Q7, hQ7, h⟩ := bd1_ed h
    have J7 : ∀ (M9 : im_M) (L' : List (Nat × Value)), lw_S w M9 → im_lk L' 0 = some (.ref 1) → im_lk L' 1 = some (.int p0) → im_lk L' 2 = some (.int ((if ¬ x1 = 45 then 0 else 1) : Int32)) → Q7 M9 → ia (tb_G L xs) (dep + 1) J_HTape_takeNumber (rwI w Q) (23, L', [], M9) := by
      intro M9 L' hM9 l10 l11 l12 h
      replace h := hQ7 _ h
      refine iq_iconst hS 24 J_HTape_takeNumber_d23 (v := 0) (by decide +kernel) rfl ?_
      refine iq_istore_n hS 25 J_HTape_takeNumber_d24 (by decide) rfl ?_
      refine iq_iconst hS 26 J_HTape_takeNumber_d25 (v := 0) (by decide +kernel) rfl ?_
      refine iq_istore hS 28 J_HTape_takeNumber_d26 (by decide) rfl ?_
      obtain ⟨Q13, hQ13, h⟩ := bd3_ed h
      have K13 : ∀ (y14 : Int32) (y15 : Int32) (M16 : im_M) (L' : List (Nat × Value)), lw_S w M16 → im_lk L' 0 = some (.ref 1) → im_lk L' 1 = some (.int p0) → im_lk L' 2 = some (.int ((if ¬ x1 = 45 then 0 else 1) : Int32)) → im_lk L' 3 = some (.int y14) → im_lk L' 4 = some (.int y15) → Q13 (y14, y15, M16) → ia (tb_G L xs) (dep + 1) J_HTape_takeNumber (rwI w Q) (68, L', [], M16) := by
        intro y14 y15 M16 L' hM16 l17 l18 l19 l20 l21 h
        replace h := hQ13 _ _ _ h
        refine iq_iload hS 70 J_HTape_takeNumber_d68 l21 rfl ?_
        refine iq_iconst hS 71 J_HTape_takeNumber_d70 (v := 5) (by decide +kernel) rfl ?_
        refine iq_icmp_gt hS 74 J_HTape_takeNumber_d71 (t := 83) rfl (fun q71 => ?_) rfl (fun q71 => ?_)
        · replace h := ed_pos q71 h
          refine iq_iconst hS 84 J_HTape_takeNumber_d83 (v := 0) (by decide +kernel) rfl ?_
          exact iq_iret J_HTape_takeNumber_d84 rfl rfl ⟨_, rfl, hM16, ed_some h⟩
        · replace h := ed_neg q71 h
          refine iq_iload_n hS 75 J_HTape_takeNumber_d74 l19 rfl ?_
          obtain ⟨k22, Q22, hQ22, hk22, h⟩ := jn0_ed h
          have J22 : ∀  (L' : List (Nat × Value)), im_lk L' 0 = some (.ref 1) → im_lk L' 1 = some (.int p0) → im_lk L' 2 = some (.int ((if ¬ x1 = 45 then 0 else 1) : Int32)) → im_lk L' 3 = some (.int y14) → im_lk L' 4 = some (.int y15) → Q22 () → ia (tb_G L xs) (dep + 1) J_HTape_takeNumber (rwI w Q) (85, L', [], M16) := by
            intro  L' l23 l24 l25 l26 l27 h
            replace h := hQ22  h
            refine iq_iload hS 87 J_HTape_takeNumber_d85 l27 rfl ?_
            refine iq_if_le hS 90 J_HTape_takeNumber_d87 (t := 106) rfl (fun q87 => ?_) rfl (fun q87 => ?_)
            · replace h := ed_pos q87 h
              refine iq_iconst hS 107 J_HTape_takeNumber_d106 (v := 1) (by decide +kernel) rfl ?_
              exact iq_iret J_HTape_takeNumber_d107 rfl rfl ⟨_, rfl, hM16, ed_some h⟩
            · replace h := ed_neg q87 h
              refine iq_aload_n hS 91 J_HTape_takeNumber_d90 l23 rfl ?_
              refine iq_getR hS 94 J_HTape_takeNumber_d91 lf_10_34 (Or.inr ⟨_, rfl⟩) (ka_1 hM16) (ra_1_9 hM16) rfl ?_
              refine iq_iload_n hS 95 J_HTape_takeNumber_d94 l24 rfl ?_
              refine iq_iload_n hS 96 J_HTape_takeNumber_d95 l25 rfl ?_
              have J28 : ∀ (z29 : Int32) (L' : List (Nat × Value)), z29 = ((if ((if ¬ x1 = 45 then 0 else 1) : Int32) = 0 then y14 else (-y14)) : Int32) → ia (tb_G L xs) (dep + 1) J_HTape_takeNumber (rwI w Q) (105, L', [.int z29, .int p0, .ref 9], M16) := by
                intro z29 L' e30 
                subst e30
                obtain ⟨g105, h⟩ := ed_gd h
                refine iq_iastore hS 106 J_HTape_takeNumber_d105 ⟨(ka_9 hM16).1, (ka_9 hM16).2, g105.1, ix_lt (kl_9 hM16) g105.2⟩ rfl ?_
                refine iq_iconst hS 107 J_HTape_takeNumber_d106 (v := 1) (by decide +kernel) rfl ?_
                exact iq_iret J_HTape_takeNumber_d107 rfl rfl ⟨_, rfl, hM16, ed_some h⟩
              refine iq_if_eq hS 99 J_HTape_takeNumber_d96 (t := 104) rfl (fun q96 => ?_) rfl (fun q96 => ?_)
              · refine iq_iload_n hS 105 J_HTape_takeNumber_d104 l26 rfl ?_
                exact J28 _ _ (by rw [if_pos q96]) 
              · refine iq_iload_n hS 100 J_HTape_takeNumber_d99 l26 rfl ?_
                refine iq_ineg hS 101 J_HTape_takeNumber_d100 rfl ?_
                refine iq_goto hS J_HTape_takeNumber_d101 (t := 105) rfl ?_
                exact J28 _ _ (by rw [if_neg q96]) 
          refine iq_if_eq hS 78 J_HTape_takeNumber_d75 (t := 85) rfl (fun q75 => ?_) rfl (fun q75 => ?_)
          · replace h := ed_pos q75 h
            exact J22  _ l17 l18 l19 l20 l21 (hk22  h)
          · replace h := ed_neg q75 h
            refine iq_iload hS 80 J_HTape_takeNumber_d78 l21 rfl ?_
            refine iq_if_ne hS 83 J_HTape_takeNumber_d80 (t := 85) rfl (fun q80 => ?_) rfl (fun q80 => ?_)
            · replace h := ed_pos q80 h
              exact J22  _ l17 l18 l19 l20 l21 (hk22  h)
            · replace h := ed_neg q80 h
              refine iq_iconst hS 84 J_HTape_takeNumber_d83 (v := 0) (by decide +kernel) rfl ?_
              exact iq_iret J_HTape_takeNumber_d84 rfl rfl ⟨_, rfl, hM16, ed_some h⟩
      obtain ⟨r13, hr13, hq13⟩ := h
      obtain ⟨n13, hn13⟩ := lp_n hr13
      have I13 : ∀ (n : Nat) (x31 : Int32) (x32 : Int32) (M33 : im_M) (L' : List (Nat × Value)), lw_S w M33 → im_lk L' 0 = some (.ref 1) → im_lk L' 1 = some (.int p0) → im_lk L' 2 = some (.int ((if ¬ x1 = 45 then 0 else 1) : Int32)) → im_lk L' 3 = some (.int x31) → im_lk L' 4 = some (.int x32) → lpn (uc3 (f_HTape_takeNumber_L28 p0 ((if ¬ x1 = 45 then 0 else 1) : Int32))) n (x31, x32, M33) = some r13 → ia (tb_G L xs) (dep + 1) J_HTape_takeNumber (rwI w Q) (28, L', [], M33) := by
        intro n
        induction n with
        | zero => intro x31 x32 M33 L' hM33 l34 l35 l36 l37 l38 hn; exact (lpn_0 hn).elim
        | succ n ih =>
          intro x31 x32 M33 L' hM33 l34 l35 l36 l37 l38 hn
          have h := lpn_ed3 hn
          unfold f_HTape_takeNumber_L28 at h
          refine iq_iload hS 30 J_HTape_takeNumber_d28 l38 rfl ?_
          refine iq_bipush hS 32 J_HTape_takeNumber_d30 (v := 6) (by decide +kernel) rfl ?_
          refine iq_icmp_ge hS 35 J_HTape_takeNumber_d32 (t := 68) rfl (fun q32 => ?_) rfl (fun q32 => ?_)
          · replace h := ed_pos q32 h
            exact K13 _ _ _ _ hM33 l34 l35 l36 l37 l38 (lq_r h hq13)
          · replace h := ed_neg q32 h
            refine iq_aload_n hS 36 J_HTape_takeNumber_d35 l34 rfl ?_
            obtain ⟨Q39, hQ39, h⟩ := bd1_ed h
            refine iq_cpI hS 39 J_HTape_takeNumber_d36 rfl (pr_inst (vs := []) lc_10_47 lT_17 rfl rfl (by decide) (by decide) rfl (Nat.le_of_ble_eq_true rfl) (Nat.le_of_ble_eq_true rfl) (fun _ => Or.inl (pr_b (ka_1 hM33) (by decide) rfl))) (f_HTape_next_ok (dep := dep + 0) hM33 h) rfl ?_
            intro x39 h
            replace h := hQ39 _ h
            obtain ⟨Q40, hQ40, h⟩ := bd1_ed h
            refine iq_cpI hS 42 J_HTape_takeNumber_d39 rfl (pr_stat (vs := [_]) lc_10_58 lT_35 rfl rfl (by decide) rfl (Nat.le_of_ble_eq_true rfl) (Nat.le_of_ble_eq_true rfl)) (f_HTape_isDigit_ok (dep := dep + 0) hM33 h) rfl ?_
            intro x40 h
            replace h := hQ40 _ h
            refine iq_if_eq hS 45 J_HTape_takeNumber_d42 (t := 68) rfl (fun q42 => ?_) rfl (fun q42 => ?_)
            · replace h := ed_pos q42 h
              exact K13 _ _ _ _ hM33 l34 l35 l36 l37 l38 (lq_r h hq13)
            · replace h := ed_neg q42 h
              refine iq_bipush hS 47 J_HTape_takeNumber_d45 (v := 10) (by decide +kernel) rfl ?_
              refine iq_iload_n hS 48 J_HTape_takeNumber_d47 l37 rfl ?_
              refine iq_imul hS 49 J_HTape_takeNumber_d48 rfl ?_
              refine iq_aload_n hS 50 J_HTape_takeNumber_d49 l34 rfl ?_
              obtain ⟨Q41, hQ41, h⟩ := bd1_ed h
              refine iq_cpI hS 53 J_HTape_takeNumber_d50 rfl (pr_inst (vs := []) lc_10_47 lT_17 rfl rfl (by decide) (by decide) rfl (Nat.le_of_ble_eq_true rfl) (Nat.le_of_ble_eq_true rfl) (fun _ => Or.inl (pr_b (ka_1 hM33) (by decide) rfl))) (f_HTape_next_ok (dep := dep + 0) hM33 h) rfl ?_
              intro x41 h
              replace h := hQ41 _ h
              refine iq_iadd hS 54 J_HTape_takeNumber_d53 rfl ?_
              refine iq_bipush hS 56 J_HTape_takeNumber_d54 (v := 48) (by decide +kernel) rfl ?_
              refine iq_isub hS 57 J_HTape_takeNumber_d56 rfl ?_
              refine iq_istore_n hS 58 J_HTape_takeNumber_d57 (by decide) rfl ?_
              refine iq_aload_n hS 59 J_HTape_takeNumber_d58 (lk_1r l34 (by decide)) rfl ?_
              obtain ⟨Q42, hQ42, h⟩ := bd1_ed h
              refine iq_cwV hS 62 J_HTape_takeNumber_d59 rfl (pr_inst (vs := []) lc_10_51 lT_18 rfl rfl (by decide) (by decide) rfl (Nat.le_of_ble_eq_true rfl) (Nat.le_of_ble_eq_true rfl) (fun _ => Or.inl (pr_b (ka_1 hM33) (by decide) rfl))) (f_HTape_pass_ok (dep := dep + 0) hM33 h) rfl ?_
              intro M42 hM42 h
              replace h := hQ42 _ h
              refine iq_iincv hS 65 J_HTape_takeNumber_d62 (c := 1) (by decide +kernel) (lk_1i l38 (by decide)) (by decide) rfl ?_
              refine iq_goto hS J_HTape_takeNumber_d65 (t := 28) rfl ?_
              exact ih _ _ _ _ hM42 (lk_1r (lk_1r l34 (by decide)) (by decide)) (lk_1i (lk_1i l35 (by decide)) (by decide)) (lk_1i (lk_1i l36 (by decide)) (by decide)) (lk_1i lk_1s (by decide)) lk_1s (lq_l h)
      exact I13 n13 _ _ _ _ hM9 (lk_1r (lk_1r l10 (by decide)) (by decide)) (lk_1i (lk_1i l11 (by decide)) (by decide)) (lk_1i (lk_1i l12 (by decide)) (by decide)) (lk_1i lk_1s (by decide)) lk_1s hn13
    refine iq_if_eq hS 19 J_HTape_takeNumber_d16 (t := 23) rfl (fun q16 => ?_) rfl (fun q16 => ?_)
    · replace h := ed_pos q16 h
      exact J7 _ _ hM (lk_1r l5 (by decide)) (lk_1i l6 (by decide)) lk_1s (ed_some h)
    · replace h := ed_neg q16 h
      refine iq_aload_n hS 20 J_HTape_takeNumber_d19 (lk_1r l5 (by decide)) rfl ?_
      obtain ⟨Q8, hQ8, h⟩ := bd1_ed h
      refine iq_cwV hS 23 J_HTape_takeNumber_d20 rfl (pr_inst (vs := []) lc_10_51 lT_18 rfl rfl (by decide) (by decide) rfl (Nat.le_of_ble_eq_true rfl) (Nat.le_of_ble_eq_true rfl) (fun _ => Or.inl (pr_b (ka_1 hM) (by decide) rfl))) (f_HTape_pass_ok (dep := dep + 0) hM h) rfl ?_
      intro M8 hM8 h
      replace h := hQ8 _ h
      exact J7 _ _ hM8 (lk_1r l5 (by decide)) (lk_1i l6 (by decide)) lk_1s (ed_some h)
  refine iq_icmp_ne hS 9 J_HTape_takeNumber_d6 (t := 13) rfl (fun q6 => ?_) rfl (fun q6 => ?_)
  · refine iq_iconst hS 14 J_HTape_takeNumber_d13 (v := 0) (by decide +kernel) rfl ?_
    exact J2 _ _ (by rw [if_pos q6]) l0 l1
  · refine iq_iconst hS 10 J_HTape_takeNumber_d9 (v := 1) (by decide +kernel) rfl ?_
    refine iq_goto hS J_HTape_takeNumber_d10 (t := 14) rfl ?_
    exact J2 _ _ (by rw [if_neg q6]) l0 l1
noncomputable def f_HTape_takeNumbers_L2 (v2 : Int32) (x3 : Int32) (M4 : im_M) : Option ((Int32 × im_M) ⊕ ((im_M) ⊕ (Int32 × im_M))) := if v2 ≤ x3 then some (.inr (.inl M4)) else bd2 (f_HTape_takeNumber x3 M4) fun (x5 : Int32) (M5 : im_M) => if ¬ x5 = 0 then bd1 (f_HTape_next M5) fun (x6 : Int32) => if x6 = 44 then if ¬ x3 = (v2 - 1) then bd1 (f_HTape_pass M5) fun (M7 : im_M) => some (.inl ((x3 + 1), M7)) else some (.inr (.inr (0, M5))) else some (.inr (.inr (1, M5))) else some (.inr (.inr (0, M5)))
noncomputable def f_HTape_takeNumbers (p0 : Int32) (M : im_M) : Option (Int32 × im_M) := bs1 (lp (uc2 (f_HTape_takeNumbers_L2 p0)) (0, M)) (fun (M8 : im_M) => some (1, M8)) (fun t => some t)
theorem J_HTape_takeNumbers_d0 : decode J_HTape_takeNumbers.2.1 0 = .ok (.iconst 0, 1) := by decide +kernel
theorem J_HTape_takeNumbers_d1 : decode J_HTape_takeNumbers.2.1 1 = .ok (.istore_n 2, 1) := by decide +kernel
theorem J_HTape_takeNumbers_d2 : decode J_HTape_takeNumbers.2.1 2 = .ok (.iload_n 2, 1) := by decide +kernel
theorem J_HTape_takeNumbers_d3 : decode J_HTape_takeNumbers.2.1 3 = .ok (.iload_n 1, 1) := by decide +kernel
theorem J_HTape_takeNumbers_d4 : decode J_HTape_takeNumbers.2.1 4 = .ok (.if_icmp .ge 43, 3) := by decide +kernel
theorem J_HTape_takeNumbers_d7 : decode J_HTape_takeNumbers.2.1 7 = .ok (.aload_n 0, 1) := by decide +kernel
theorem J_HTape_takeNumbers_d8 : decode J_HTape_takeNumbers.2.1 8 = .ok (.iload_n 2, 1) := by decide +kernel
theorem J_HTape_takeNumbers_d9 : decode J_HTape_takeNumbers.2.1 9 = .ok (.invokevirtual 54, 3) := by decide +kernel
theorem J_HTape_takeNumbers_d12 : decode J_HTape_takeNumbers.2.1 12 = .ok (.ifCond .ne 5, 3) := by decide +kernel
theorem J_HTape_takeNumbers_d15 : decode J_HTape_takeNumbers.2.1 15 = .ok (.iconst 0, 1) := by decide +kernel
theorem J_HTape_takeNumbers_d16 : decode J_HTape_takeNumbers.2.1 16 = .ok (.ireturn, 1) := by decide +kernel
theorem J_HTape_takeNumbers_d17 : decode J_HTape_takeNumbers.2.1 17 = .ok (.aload_n 0, 1) := by decide +kernel
theorem J_HTape_takeNumbers_d18 : decode J_HTape_takeNumbers.2.1 18 = .ok (.invokevirtual 47, 3) := by decide +kernel
theorem J_HTape_takeNumbers_d21 : decode J_HTape_takeNumbers.2.1 21 = .ok (.bipush 44, 2) := by decide +kernel
theorem J_HTape_takeNumbers_d23 : decode J_HTape_takeNumbers.2.1 23 = .ok (.if_icmp .eq 5, 3) := by decide +kernel
theorem J_HTape_takeNumbers_d26 : decode J_HTape_takeNumbers.2.1 26 = .ok (.iconst 1, 1) := by decide +kernel
theorem J_HTape_takeNumbers_d27 : decode J_HTape_takeNumbers.2.1 27 = .ok (.ireturn, 1) := by decide +kernel
theorem J_HTape_takeNumbers_d28 : decode J_HTape_takeNumbers.2.1 28 = .ok (.iload_n 2, 1) := by decide +kernel
theorem J_HTape_takeNumbers_d29 : decode J_HTape_takeNumbers.2.1 29 = .ok (.iload_n 1, 1) := by decide +kernel
theorem J_HTape_takeNumbers_d30 : decode J_HTape_takeNumbers.2.1 30 = .ok (.iconst 1, 1) := by decide +kernel
theorem J_HTape_takeNumbers_d31 : decode J_HTape_takeNumbers.2.1 31 = .ok (.isub, 1) := by decide +kernel
theorem J_HTape_takeNumbers_d32 : decode J_HTape_takeNumbers.2.1 32 = .ok (.if_icmp .ne 5, 3) := by decide +kernel
theorem J_HTape_takeNumbers_d35 : decode J_HTape_takeNumbers.2.1 35 = .ok (.iconst 0, 1) := by decide +kernel
theorem J_HTape_takeNumbers_d36 : decode J_HTape_takeNumbers.2.1 36 = .ok (.ireturn, 1) := by decide +kernel
theorem J_HTape_takeNumbers_d37 : decode J_HTape_takeNumbers.2.1 37 = .ok (.aload_n 0, 1) := by decide +kernel
theorem J_HTape_takeNumbers_d38 : decode J_HTape_takeNumbers.2.1 38 = .ok (.invokevirtual 51, 3) := by decide +kernel
theorem J_HTape_takeNumbers_d41 : decode J_HTape_takeNumbers.2.1 41 = .ok (.iinc 2 1, 3) := by decide +kernel
theorem J_HTape_takeNumbers_d44 : decode J_HTape_takeNumbers.2.1 44 = .ok (.goto (-42), 3) := by decide +kernel
theorem J_HTape_takeNumbers_d47 : decode J_HTape_takeNumbers.2.1 47 = .ok (.iconst 1, 1) := by decide +kernel
theorem J_HTape_takeNumbers_d48 : decode J_HTape_takeNumbers.2.1 48 = .ok (.ireturn, 1) := by decide +kernel
theorem f_HTape_takeNumbers_ok {L : Nat} {xs : Nat → Int32} {dep : Nat} {w : Bool} {p0 : Int32} {M : im_M} {Q : Int32 × im_M → Prop} (hM : lw_S w M) (h : ed (f_HTape_takeNumbers p0 M) Q) : ia (tb_G L xs) (dep + 2) J_HTape_takeNumbers (rwI w Q) (0, lv_args 0 [.ref 1, .int p0], [], M) := by
  have hS : im_St (tb_G L xs) (dep + 2) J_HTape_takeNumbers (ia (tb_G L xs) (dep + 2) J_HTape_takeNumbers (rwI w Q)) := ia_St
  unfold f_HTape_takeNumbers at h
  have l0 : im_lk (lv_args 0 [.ref 1, .int p0]) 0 = some (.ref 1) := rfl
  have l1 : im_lk (lv_args 0 [.ref 1, .int p0]) 1 = some (.int p0) := rfl
  refine iq_iconst hS 1 J_HTape_takeNumbers_d0 (v := 0) (by decide +kernel) rfl ?_
  refine iq_istore_n hS 2 J_HTape_takeNumbers_d1 (by decide) rfl ?_
  obtain ⟨Q1, hQ1, hR1, h⟩ := bs1_ed h
  have K1 : ∀ (M2 : im_M) (L' : List (Nat × Value)), lw_S w M2 → Q1 (.inl M2) → ia (tb_G L xs) (dep + 2) J_HTape_takeNumbers (rwI w Q) (47, L', [], M2) := by
    intro M2 L' hM2  h
    replace h := hQ1 _ h
    refine iq_iconst hS 48 J_HTape_takeNumbers_d47 (v := 1) (by decide +kernel) rfl ?_
    exact iq_iret J_HTape_takeNumbers_d48 rfl rfl ⟨_, rfl, hM2, ed_some h⟩
  obtain ⟨r1, hr1, hq1⟩ := h
  obtain ⟨n1, hn1⟩ := lp_n hr1
  have I1 : ∀ (n : Nat) (x3 : Int32) (M4 : im_M) (L' : List (Nat × Value)), lw_S w M4 → im_lk L' 0 = some (.ref 1) → im_lk L' 1 = some (.int p0) → im_lk L' 2 = some (.int x3) → lpn (uc2 (f_HTape_takeNumbers_L2 p0)) n (x3, M4) = some r1 → ia (tb_G L xs) (dep + 2) J_HTape_takeNumbers (rwI w Q) (2, L', [], M4) := by
    intro n
    induction n with
    | zero => intro x3 M4 L' hM4 l5 l6 l7 hn; exact (lpn_0 hn).elim
    | succ n ih =>
      intro x3 M4 L' hM4 l5 l6 l7 hn
      have h := lpn_ed2 hn
      unfold f_HTape_takeNumbers_L2 at h
      refine iq_iload_n hS 3 J_HTape_takeNumbers_d2 l7 rfl ?_
      refine iq_iload_n hS 4 J_HTape_takeNumbers_d3 l6 rfl ?_
      refine iq_icmp_ge hS 7 J_HTape_takeNumbers_d4 (t := 47) rfl (fun q4 => ?_) rfl (fun q4 => ?_)
      · replace h := ed_pos q4 h
        exact K1 _ _ hM4  (lq_r h hq1)
      · replace h := ed_neg q4 h
        refine iq_aload_n hS 8 J_HTape_takeNumbers_d7 l5 rfl ?_
        refine iq_iload_n hS 9 J_HTape_takeNumbers_d8 l7 rfl ?_
        obtain ⟨Q8, hQ8, h⟩ := bd2_ed h
        refine iq_cwI hS 12 J_HTape_takeNumbers_d9 rfl (pr_inst (vs := [_]) lc_10_54 lT_34 rfl rfl (by decide) (by decide) rfl (Nat.le_of_ble_eq_true rfl) (Nat.le_of_ble_eq_true rfl) (fun _ => Or.inl (pr_b (ka_1 hM4) (by decide) rfl))) (f_HTape_takeNumber_ok (dep := dep + 0) hM4 h) rfl ?_
        intro x8 M8 hM8 h
        replace h := hQ8 _ _ h
        refine iq_if_ne hS 15 J_HTape_takeNumbers_d12 (t := 17) rfl (fun q12 => ?_) rfl (fun q12 => ?_)
        · replace h := ed_pos q12 h
          refine iq_aload_n hS 18 J_HTape_takeNumbers_d17 l5 rfl ?_
          obtain ⟨Q9, hQ9, h⟩ := bd1_ed h
          refine iq_cpI hS 21 J_HTape_takeNumbers_d18 rfl (pr_inst (vs := []) lc_10_47 lT_17 rfl rfl (by decide) (by decide) rfl (Nat.le_of_ble_eq_true rfl) (Nat.le_of_ble_eq_true rfl) (fun _ => Or.inl (pr_b (ka_1 hM8) (by decide) rfl))) (f_HTape_next_ok (dep := dep + 1) hM8 h) rfl ?_
          intro x9 h
          replace h := hQ9 _ h
          refine iq_bipush hS 23 J_HTape_takeNumbers_d21 (v := 44) (by decide +kernel) rfl ?_
          refine iq_icmp_eq hS 26 J_HTape_takeNumbers_d23 (t := 28) rfl (fun q23 => ?_) rfl (fun q23 => ?_)
          · replace h := ed_pos q23 h
            refine iq_iload_n hS 29 J_HTape_takeNumbers_d28 l7 rfl ?_
            refine iq_iload_n hS 30 J_HTape_takeNumbers_d29 l6 rfl ?_
            refine iq_iconst hS 31 J_HTape_takeNumbers_d30 (v := 1) (by decide +kernel) rfl ?_
            refine iq_isub hS 32 J_HTape_takeNumbers_d31 rfl ?_
            refine iq_icmp_ne hS 35 J_HTape_takeNumbers_d32 (t := 37) rfl (fun q32 => ?_) rfl (fun q32 => ?_)
            · replace h := ed_pos q32 h
              refine iq_aload_n hS 38 J_HTape_takeNumbers_d37 l5 rfl ?_
              obtain ⟨Q10, hQ10, h⟩ := bd1_ed h
              refine iq_cwV hS 41 J_HTape_takeNumbers_d38 rfl (pr_inst (vs := []) lc_10_51 lT_18 rfl rfl (by decide) (by decide) rfl (Nat.le_of_ble_eq_true rfl) (Nat.le_of_ble_eq_true rfl) (fun _ => Or.inl (pr_b (ka_1 hM8) (by decide) rfl))) (f_HTape_pass_ok (dep := dep + 1) hM8 h) rfl ?_
              intro M10 hM10 h
              replace h := hQ10 _ h
              refine iq_iincv hS 44 J_HTape_takeNumbers_d41 (c := 1) (by decide +kernel) l7 (by decide) rfl ?_
              refine iq_goto hS J_HTape_takeNumbers_d44 (t := 2) rfl ?_
              exact ih _ _ _ hM10 (lk_1r l5 (by decide)) (lk_1i l6 (by decide)) lk_1s (lq_l h)
            · replace h := ed_neg q32 h
              refine iq_iconst hS 36 J_HTape_takeNumbers_d35 (v := 0) (by decide +kernel) rfl ?_
              exact iq_iret J_HTape_takeNumbers_d36 rfl rfl ⟨_, rfl, hM8, ed_some (hR1 _ (lq_r h hq1))⟩
          · replace h := ed_neg q23 h
            refine iq_iconst hS 27 J_HTape_takeNumbers_d26 (v := 1) (by decide +kernel) rfl ?_
            exact iq_iret J_HTape_takeNumbers_d27 rfl rfl ⟨_, rfl, hM8, ed_some (hR1 _ (lq_r h hq1))⟩
        · replace h := ed_neg q12 h
          refine iq_iconst hS 16 J_HTape_takeNumbers_d15 (v := 0) (by decide +kernel) rfl ?_
          exact iq_iret J_HTape_takeNumbers_d16 rfl rfl ⟨_, rfl, hM8, ed_some (hR1 _ (lq_r h hq1))⟩
  exact I1 n1 _ _ _ hM (lk_1r l0 (by decide)) (lk_1i l1 (by decide)) lk_1s hn1
noncomputable def f_HTape_takeNumberAndComma (M : im_M) : Option (Int32 × im_M) := bd2 (f_HTape_takeNumber 0 M) fun (x1 : Int32) (M1 : im_M) => if x1 = 0 then some (0, M1) else bd1 (f_HTape_next M1) fun (x2 : Int32) => if x2 = 44 then bd1 (f_HTape_pass M1) fun (M3 : im_M) => some (1, M3) else some (0, M1)
theorem J_HTape_takeNumberAndComma_d0 : decode J_HTape_takeNumberAndComma.2.1 0 = .ok (.aload_n 0, 1) := by decide +kernel
theorem J_HTape_takeNumberAndComma_d1 : decode J_HTape_takeNumberAndComma.2.1 1 = .ok (.iconst 0, 1) := by decide +kernel
theorem J_HTape_takeNumberAndComma_d2 : decode J_HTape_takeNumberAndComma.2.1 2 = .ok (.invokevirtual 54, 3) := by decide +kernel
theorem J_HTape_takeNumberAndComma_d5 : decode J_HTape_takeNumberAndComma.2.1 5 = .ok (.ifCond .eq 12, 3) := by decide +kernel
theorem J_HTape_takeNumberAndComma_d8 : decode J_HTape_takeNumberAndComma.2.1 8 = .ok (.aload_n 0, 1) := by decide +kernel
theorem J_HTape_takeNumberAndComma_d9 : decode J_HTape_takeNumberAndComma.2.1 9 = .ok (.invokevirtual 47, 3) := by decide +kernel
theorem J_HTape_takeNumberAndComma_d12 : decode J_HTape_takeNumberAndComma.2.1 12 = .ok (.bipush 44, 2) := by decide +kernel
theorem J_HTape_takeNumberAndComma_d14 : decode J_HTape_takeNumberAndComma.2.1 14 = .ok (.if_icmp .eq 5, 3) := by decide +kernel
theorem J_HTape_takeNumberAndComma_d17 : decode J_HTape_takeNumberAndComma.2.1 17 = .ok (.iconst 0, 1) := by decide +kernel
theorem J_HTape_takeNumberAndComma_d18 : decode J_HTape_takeNumberAndComma.2.1 18 = .ok (.ireturn, 1) := by decide +kernel
theorem J_HTape_takeNumberAndComma_d19 : decode J_HTape_takeNumberAndComma.2.1 19 = .ok (.aload_n 0, 1) := by decide +kernel
theorem J_HTape_takeNumberAndComma_d20 : decode J_HTape_takeNumberAndComma.2.1 20 = .ok (.invokevirtual 51, 3) := by decide +kernel
theorem J_HTape_takeNumberAndComma_d23 : decode J_HTape_takeNumberAndComma.2.1 23 = .ok (.iconst 1, 1) := by decide +kernel
theorem J_HTape_takeNumberAndComma_d24 : decode J_HTape_takeNumberAndComma.2.1 24 = .ok (.ireturn, 1) := by decide +kernel
theorem f_HTape_takeNumberAndComma_ok {L : Nat} {xs : Nat → Int32} {dep : Nat} {w : Bool} {M : im_M} {Q : Int32 × im_M → Prop} (hM : lw_S w M) (h : ed (f_HTape_takeNumberAndComma M) Q) : ia (tb_G L xs) (dep + 2) J_HTape_takeNumberAndComma (rwI w Q) (0, lv_args 0 [.ref 1], [], M) := by
  have hS : im_St (tb_G L xs) (dep + 2) J_HTape_takeNumberAndComma (ia (tb_G L xs) (dep + 2) J_HTape_takeNumberAndComma (rwI w Q)) := ia_St
  unfold f_HTape_takeNumberAndComma at h
  have l0 : im_lk (lv_args 0 [.ref 1]) 0 = some (.ref 1) := rfl
  refine iq_aload_n hS 1 J_HTape_takeNumberAndComma_d0 l0 rfl ?_
  refine iq_iconst hS 2 J_HTape_takeNumberAndComma_d1 (v := 0) (by decide +kernel) rfl ?_
  obtain ⟨Q1, hQ1, h⟩ := bd2_ed h
  refine iq_cwI hS 5 J_HTape_takeNumberAndComma_d2 rfl (pr_inst (vs := [_]) lc_10_54 lT_34 rfl rfl (by decide) (by decide) rfl (Nat.le_of_ble_eq_true rfl) (Nat.le_of_ble_eq_true rfl) (fun _ => Or.inl (pr_b (ka_1 hM) (by decide) rfl))) (f_HTape_takeNumber_ok (dep := dep + 0) hM h) rfl ?_
  intro x1 M1 hM1 h
  replace h := hQ1 _ _ h
  refine iq_if_eq hS 8 J_HTape_takeNumberAndComma_d5 (t := 17) rfl (fun q5 => ?_) rfl (fun q5 => ?_)
  · replace h := ed_pos q5 h
    refine iq_iconst hS 18 J_HTape_takeNumberAndComma_d17 (v := 0) (by decide +kernel) rfl ?_
    exact iq_iret J_HTape_takeNumberAndComma_d18 rfl rfl ⟨_, rfl, hM1, ed_some h⟩
  · replace h := ed_neg q5 h
    refine iq_aload_n hS 9 J_HTape_takeNumberAndComma_d8 l0 rfl ?_
    obtain ⟨Q2, hQ2, h⟩ := bd1_ed h
    refine iq_cpI hS 12 J_HTape_takeNumberAndComma_d9 rfl (pr_inst (vs := []) lc_10_47 lT_17 rfl rfl (by decide) (by decide) rfl (Nat.le_of_ble_eq_true rfl) (Nat.le_of_ble_eq_true rfl) (fun _ => Or.inl (pr_b (ka_1 hM1) (by decide) rfl))) (f_HTape_next_ok (dep := dep + 1) hM1 h) rfl ?_
    intro x2 h
    replace h := hQ2 _ h
    refine iq_bipush hS 14 J_HTape_takeNumberAndComma_d12 (v := 44) (by decide +kernel) rfl ?_
    refine iq_icmp_eq hS 17 J_HTape_takeNumberAndComma_d14 (t := 19) rfl (fun q14 => ?_) rfl (fun q14 => ?_)
    · replace h := ed_pos q14 h
      refine iq_aload_n hS 20 J_HTape_takeNumberAndComma_d19 l0 rfl ?_
      obtain ⟨Q3, hQ3, h⟩ := bd1_ed h
      refine iq_cwV hS 23 J_HTape_takeNumberAndComma_d20 rfl (pr_inst (vs := []) lc_10_51 lT_18 rfl rfl (by decide) (by decide) rfl (Nat.le_of_ble_eq_true rfl) (Nat.le_of_ble_eq_true rfl) (fun _ => Or.inl (pr_b (ka_1 hM1) (by decide) rfl))) (f_HTape_pass_ok (dep := dep + 1) hM1 h) rfl ?_
      intro M3 hM3 h
      replace h := hQ3 _ h
      refine iq_iconst hS 24 J_HTape_takeNumberAndComma_d23 (v := 1) (by decide +kernel) rfl ?_
      exact iq_iret J_HTape_takeNumberAndComma_d24 rfl rfl ⟨_, rfl, hM3, ed_some h⟩
    · replace h := ed_neg q14 h
      refine iq_iconst hS 18 J_HTape_takeNumberAndComma_d17 (v := 0) (by decide +kernel) rfl ?_
      exact iq_iret J_HTape_takeNumberAndComma_d18 rfl rfl ⟨_, rfl, hM1, ed_some h⟩
noncomputable def f_HSetter_inRanges_L2 (v2 : Int32) (M4 : im_M) (x3 : Int32) : Option ((Int32) ⊕ ((Unit) ⊕ (Int32))) := gd (inb v2 23) <| if (xa_1 v2) ≤ x3 then some (.inr (.inl ())) else gd (inb x3 4) <| gd (inb ((((12 : Int32) * v2) + ((3 : Int32) * x3)) + 1) 276) <| if (im_i M4 9 (Int32.toNatClampNeg x3)) < (xa_0 ((((12 : Int32) * v2) + ((3 : Int32) * x3)) + 1)) then some (.inr (.inr 0)) else gd (inb x3 4) <| gd (inb ((((12 : Int32) * v2) + ((3 : Int32) * x3)) + 2) 276) <| if (im_i M4 9 (Int32.toNatClampNeg x3)) ≤ (xa_0 ((((12 : Int32) * v2) + ((3 : Int32) * x3)) + 2)) then some (.inl (x3 + 1)) else some (.inr (.inr 0))
noncomputable def f_HSetter_inRanges (p0 : Int32) (M : im_M) : Option (Int32) := bs0 (lp (uc1 (f_HSetter_inRanges_L2 p0 M)) 0) (fun (_ : Unit) => some 1) (fun t => some t)
theorem J_HSetter_inRanges_d0 : decode J_HSetter_inRanges.2.1 0 = .ok (.iconst 0, 1) := by decide +kernel
theorem J_HSetter_inRanges_d1 : decode J_HSetter_inRanges.2.1 1 = .ok (.istore_n 2, 1) := by decide +kernel
theorem J_HSetter_inRanges_d2 : decode J_HSetter_inRanges.2.1 2 = .ok (.iload_n 2, 1) := by decide +kernel
theorem J_HSetter_inRanges_d3 : decode J_HSetter_inRanges.2.1 3 = .ok (.getstatic 110, 3) := by decide +kernel
theorem J_HSetter_inRanges_d6 : decode J_HSetter_inRanges.2.1 6 = .ok (.iload_n 1, 1) := by decide +kernel
theorem J_HSetter_inRanges_d7 : decode J_HSetter_inRanges.2.1 7 = .ok (.iaload, 1) := by decide +kernel
theorem J_HSetter_inRanges_d8 : decode J_HSetter_inRanges.2.1 8 = .ok (.if_icmp .ge 58, 3) := by decide +kernel
theorem J_HSetter_inRanges_d11 : decode J_HSetter_inRanges.2.1 11 = .ok (.bipush 12, 2) := by decide +kernel
theorem J_HSetter_inRanges_d13 : decode J_HSetter_inRanges.2.1 13 = .ok (.iload_n 1, 1) := by decide +kernel
theorem J_HSetter_inRanges_d14 : decode J_HSetter_inRanges.2.1 14 = .ok (.imul, 1) := by decide +kernel
theorem J_HSetter_inRanges_d15 : decode J_HSetter_inRanges.2.1 15 = .ok (.iconst 3, 1) := by decide +kernel
theorem J_HSetter_inRanges_d16 : decode J_HSetter_inRanges.2.1 16 = .ok (.iload_n 2, 1) := by decide +kernel
theorem J_HSetter_inRanges_d17 : decode J_HSetter_inRanges.2.1 17 = .ok (.imul, 1) := by decide +kernel
theorem J_HSetter_inRanges_d18 : decode J_HSetter_inRanges.2.1 18 = .ok (.iadd, 1) := by decide +kernel
theorem J_HSetter_inRanges_d19 : decode J_HSetter_inRanges.2.1 19 = .ok (.istore_n 3, 1) := by decide +kernel
theorem J_HSetter_inRanges_d20 : decode J_HSetter_inRanges.2.1 20 = .ok (.aload_n 0, 1) := by decide +kernel
theorem J_HSetter_inRanges_d21 : decode J_HSetter_inRanges.2.1 21 = .ok (.getfield 25, 3) := by decide +kernel
theorem J_HSetter_inRanges_d24 : decode J_HSetter_inRanges.2.1 24 = .ok (.getfield 131, 3) := by decide +kernel
theorem J_HSetter_inRanges_d27 : decode J_HSetter_inRanges.2.1 27 = .ok (.iload_n 2, 1) := by decide +kernel
theorem J_HSetter_inRanges_d28 : decode J_HSetter_inRanges.2.1 28 = .ok (.iaload, 1) := by decide +kernel
theorem J_HSetter_inRanges_d29 : decode J_HSetter_inRanges.2.1 29 = .ok (.getstatic 134, 3) := by decide +kernel
theorem J_HSetter_inRanges_d32 : decode J_HSetter_inRanges.2.1 32 = .ok (.iload_n 3, 1) := by decide +kernel
theorem J_HSetter_inRanges_d33 : decode J_HSetter_inRanges.2.1 33 = .ok (.iconst 1, 1) := by decide +kernel
theorem J_HSetter_inRanges_d34 : decode J_HSetter_inRanges.2.1 34 = .ok (.iadd, 1) := by decide +kernel
theorem J_HSetter_inRanges_d35 : decode J_HSetter_inRanges.2.1 35 = .ok (.iaload, 1) := by decide +kernel
theorem J_HSetter_inRanges_d36 : decode J_HSetter_inRanges.2.1 36 = .ok (.if_icmp .lt 22, 3) := by decide +kernel
theorem J_HSetter_inRanges_d39 : decode J_HSetter_inRanges.2.1 39 = .ok (.aload_n 0, 1) := by decide +kernel
theorem J_HSetter_inRanges_d40 : decode J_HSetter_inRanges.2.1 40 = .ok (.getfield 25, 3) := by decide +kernel
theorem J_HSetter_inRanges_d43 : decode J_HSetter_inRanges.2.1 43 = .ok (.getfield 131, 3) := by decide +kernel
theorem J_HSetter_inRanges_d46 : decode J_HSetter_inRanges.2.1 46 = .ok (.iload_n 2, 1) := by decide +kernel
theorem J_HSetter_inRanges_d47 : decode J_HSetter_inRanges.2.1 47 = .ok (.iaload, 1) := by decide +kernel
theorem J_HSetter_inRanges_d48 : decode J_HSetter_inRanges.2.1 48 = .ok (.getstatic 134, 3) := by decide +kernel
theorem J_HSetter_inRanges_d51 : decode J_HSetter_inRanges.2.1 51 = .ok (.iload_n 3, 1) := by decide +kernel
theorem J_HSetter_inRanges_d52 : decode J_HSetter_inRanges.2.1 52 = .ok (.iconst 2, 1) := by decide +kernel
theorem J_HSetter_inRanges_d53 : decode J_HSetter_inRanges.2.1 53 = .ok (.iadd, 1) := by decide +kernel
theorem J_HSetter_inRanges_d54 : decode J_HSetter_inRanges.2.1 54 = .ok (.iaload, 1) := by decide +kernel
theorem J_HSetter_inRanges_d55 : decode J_HSetter_inRanges.2.1 55 = .ok (.if_icmp .le 5, 3) := by decide +kernel
theorem J_HSetter_inRanges_d58 : decode J_HSetter_inRanges.2.1 58 = .ok (.iconst 0, 1) := by decide +kernel
theorem J_HSetter_inRanges_d59 : decode J_HSetter_inRanges.2.1 59 = .ok (.ireturn, 1) := by decide +kernel
theorem J_HSetter_inRanges_d60 : decode J_HSetter_inRanges.2.1 60 = .ok (.iinc 2 1, 3) := by decide +kernel
theorem J_HSetter_inRanges_d63 : decode J_HSetter_inRanges.2.1 63 = .ok (.goto (-61), 3) := by decide +kernel
theorem J_HSetter_inRanges_d66 : decode J_HSetter_inRanges.2.1 66 = .ok (.iconst 1, 1) := by decide +kernel
theorem J_HSetter_inRanges_d67 : decode J_HSetter_inRanges.2.1 67 = .ok (.ireturn, 1) := by decide +kernel
theorem f_HSetter_inRanges_ok {L : Nat} {xs : Nat → Int32} {dep : Nat} {w : Bool} {p0 : Int32} {M : im_M} {Q : Int32 → Prop} (hM : lw_S w M) (h : ed (f_HSetter_inRanges p0 M) Q) : ia (tb_G L xs) dep J_HSetter_inRanges (rpI M Q) (0, lv_args 0 [.ref 15, .int p0], [], M) := by
  have hS : im_St (tb_G L xs) dep J_HSetter_inRanges (ia (tb_G L xs) dep J_HSetter_inRanges (rpI M Q)) := ia_St
  unfold f_HSetter_inRanges at h
  have l0 : im_lk (lv_args 0 [.ref 15, .int p0]) 0 = some (.ref 15) := rfl
  have l1 : im_lk (lv_args 0 [.ref 15, .int p0]) 1 = some (.int p0) := rfl
  refine iq_iconst hS 1 J_HSetter_inRanges_d0 (v := 0) (by decide +kernel) rfl ?_
  refine iq_istore_n hS 2 J_HSetter_inRanges_d1 (by decide) rfl ?_
  obtain ⟨Q1, hQ1, hR1, h⟩ := bs0_ed h
  have K1 : ∀  (L' : List (Nat × Value)), Q1 (.inl ()) → ia (tb_G L xs) dep J_HSetter_inRanges (rpI M Q) (66, L', [], M) := by
    intro  L'  h
    replace h := hQ1  h
    refine iq_iconst hS 67 J_HSetter_inRanges_d66 (v := 1) (by decide +kernel) rfl ?_
    exact iq_iret J_HSetter_inRanges_d67 rfl rfl ⟨_, rfl, rfl, ed_some h⟩
  obtain ⟨r1, hr1, hq1⟩ := h
  obtain ⟨n1, hn1⟩ := lp_n hr1
  have I1 : ∀ (n : Nat) (x2 : Int32) (L' : List (Nat × Value)), im_lk L' 0 = some (.ref 15) → im_lk L' 1 = some (.int p0) → im_lk L' 2 = some (.int x2) → lpn (uc1 (f_HSetter_inRanges_L2 p0 M)) n x2 = some r1 → ia (tb_G L xs) dep J_HSetter_inRanges (rpI M Q) (2, L', [], M) := by
    intro n
    induction n with
    | zero => intro x2 L' l3 l4 l5 hn; exact (lpn_0 hn).elim
    | succ n ih =>
      intro x2 L' l3 l4 l5 hn
      have h := lpn_ed1 hn
      unfold f_HSetter_inRanges_L2 at h
      refine iq_iload_n hS 3 J_HSetter_inRanges_d2 l5 rfl ?_
      refine iq_getstatic hS 6 J_HSetter_inRanges_d3 gs_8_110 rfl ?_
      refine iq_iload_n hS 7 J_HSetter_inRanges_d6 l4 rfl ?_
      obtain ⟨g7, h⟩ := ed_gd h
      refine iq_xl_1 hS 8 J_HSetter_inRanges_d7 hM g7 rfl ?_
      refine iq_icmp_ge hS 11 J_HSetter_inRanges_d8 (t := 66) rfl (fun q8 => ?_) rfl (fun q8 => ?_)
      · replace h := ed_pos q8 h
        exact K1  _  (lq_r h hq1)
      · replace h := ed_neg q8 h
        refine iq_bipush hS 13 J_HSetter_inRanges_d11 (v := 12) (by decide +kernel) rfl ?_
        refine iq_iload_n hS 14 J_HSetter_inRanges_d13 l4 rfl ?_
        refine iq_imul hS 15 J_HSetter_inRanges_d14 rfl ?_
        refine iq_iconst hS 16 J_HSetter_inRanges_d15 (v := 3) (by decide +kernel) rfl ?_
        refine iq_iload_n hS 17 J_HSetter_inRanges_d16 l5 rfl ?_
        refine iq_imul hS 18 J_HSetter_inRanges_d17 rfl ?_
        refine iq_iadd hS 19 J_HSetter_inRanges_d18 rfl ?_
        refine iq_istore_n hS 20 J_HSetter_inRanges_d19 (by decide) rfl ?_
        refine iq_aload_n hS 21 J_HSetter_inRanges_d20 (lk_1r l3 (by decide)) rfl ?_
        refine iq_getR hS 24 J_HSetter_inRanges_d21 lf_8_25 (Or.inl ⟨_, rfl⟩) (ka_15 hM) (ra_15_0 hM) rfl ?_
        refine iq_getR hS 27 J_HSetter_inRanges_d24 lf_8_131 (Or.inr ⟨_, rfl⟩) (ka_1 hM) (ra_1_9 hM) rfl ?_
        refine iq_iload_n hS 28 J_HSetter_inRanges_d27 (lk_1i l5 (by decide)) rfl ?_
        obtain ⟨g28, h⟩ := ed_gd h
        refine iq_iaload hS 29 J_HSetter_inRanges_d28 ⟨(ka_9 hM).1, (ka_9 hM).2, g28.1, ix_lt (kl_9 hM) g28.2⟩ rfl ?_
        refine iq_getstatic hS 32 J_HSetter_inRanges_d29 gs_8_134 rfl ?_
        refine iq_iload_n hS 33 J_HSetter_inRanges_d32 lk_1s rfl ?_
        refine iq_iconst hS 34 J_HSetter_inRanges_d33 (v := 1) (by decide +kernel) rfl ?_
        refine iq_iadd hS 35 J_HSetter_inRanges_d34 rfl ?_
        obtain ⟨g35, h⟩ := ed_gd h
        refine iq_xl_0 hS 36 J_HSetter_inRanges_d35 hM g35 rfl ?_
        refine iq_icmp_lt hS 39 J_HSetter_inRanges_d36 (t := 58) rfl (fun q36 => ?_) rfl (fun q36 => ?_)
        · replace h := ed_pos q36 h
          refine iq_iconst hS 59 J_HSetter_inRanges_d58 (v := 0) (by decide +kernel) rfl ?_
          exact iq_iret J_HSetter_inRanges_d59 rfl rfl ⟨_, rfl, rfl, ed_some (hR1 _ (lq_r h hq1))⟩
        · replace h := ed_neg q36 h
          refine iq_aload_n hS 40 J_HSetter_inRanges_d39 (lk_1r l3 (by decide)) rfl ?_
          refine iq_getR hS 43 J_HSetter_inRanges_d40 lf_8_25 (Or.inl ⟨_, rfl⟩) (ka_15 hM) (ra_15_0 hM) rfl ?_
          refine iq_getR hS 46 J_HSetter_inRanges_d43 lf_8_131 (Or.inr ⟨_, rfl⟩) (ka_1 hM) (ra_1_9 hM) rfl ?_
          refine iq_iload_n hS 47 J_HSetter_inRanges_d46 (lk_1i l5 (by decide)) rfl ?_
          obtain ⟨g47, h⟩ := ed_gd h
          refine iq_iaload hS 48 J_HSetter_inRanges_d47 ⟨(ka_9 hM).1, (ka_9 hM).2, g47.1, ix_lt (kl_9 hM) g47.2⟩ rfl ?_
          refine iq_getstatic hS 51 J_HSetter_inRanges_d48 gs_8_134 rfl ?_
          refine iq_iload_n hS 52 J_HSetter_inRanges_d51 lk_1s rfl ?_
          refine iq_iconst hS 53 J_HSetter_inRanges_d52 (v := 2) (by decide +kernel) rfl ?_
          refine iq_iadd hS 54 J_HSetter_inRanges_d53 rfl ?_
          obtain ⟨g54, h⟩ := ed_gd h
          refine iq_xl_0 hS 55 J_HSetter_inRanges_d54 hM g54 rfl ?_
          refine iq_icmp_le hS 58 J_HSetter_inRanges_d55 (t := 60) rfl (fun q55 => ?_) rfl (fun q55 => ?_)
          · replace h := ed_pos q55 h
            refine iq_iincv hS 63 J_HSetter_inRanges_d60 (c := 1) (by decide +kernel) (lk_1i l5 (by decide)) (by decide) rfl ?_
            refine iq_goto hS J_HSetter_inRanges_d63 (t := 2) rfl ?_
            exact ih _ _ (lk_1r (lk_1r l3 (by decide)) (by decide)) (lk_1i (lk_1i l4 (by decide)) (by decide)) lk_1s (lq_l h)
          · replace h := ed_neg q55 h
            refine iq_iconst hS 59 J_HSetter_inRanges_d58 (v := 0) (by decide +kernel) rfl ?_
            exact iq_iret J_HSetter_inRanges_d59 rfl rfl ⟨_, rfl, rfl, ed_some (hR1 _ (lq_r h hq1))⟩
  exact I1 n1 _ _ (lk_1r l0 (by decide)) (lk_1i l1 (by decide)) lk_1s hn1
noncomputable def f_HTape_hexValue (p0 : Int32) (M : im_M) : Option (Int32) := jn0 (fun (_ : Unit) => jn0 (fun (_ : Unit) => if p0 < 97 then some (-1) else if 102 < p0 then some (-1) else some ((p0 - 97) + 10)) fun k3 => if p0 < 65 then k3 () else if 70 < p0 then k3 () else some ((p0 - 65) + 10)) fun k1 => if p0 < 48 then k1 () else if 57 < p0 then k1 () else some (p0 - 48)
theorem J_HTape_hexValue_d0 : decode J_HTape_hexValue.2.1 0 = .ok (.iload_n 0, 1) := by decide +kernel
theorem J_HTape_hexValue_d1 : decode J_HTape_hexValue.2.1 1 = .ok (.bipush 48, 2) := by decide +kernel
theorem J_HTape_hexValue_d3 : decode J_HTape_hexValue.2.1 3 = .ok (.if_icmp .lt 14, 3) := by decide +kernel
theorem J_HTape_hexValue_d6 : decode J_HTape_hexValue.2.1 6 = .ok (.iload_n 0, 1) := by decide +kernel
theorem J_HTape_hexValue_d7 : decode J_HTape_hexValue.2.1 7 = .ok (.bipush 57, 2) := by decide +kernel
theorem J_HTape_hexValue_d9 : decode J_HTape_hexValue.2.1 9 = .ok (.if_icmp .gt 8, 3) := by decide +kernel
theorem J_HTape_hexValue_d12 : decode J_HTape_hexValue.2.1 12 = .ok (.iload_n 0, 1) := by decide +kernel
theorem J_HTape_hexValue_d13 : decode J_HTape_hexValue.2.1 13 = .ok (.bipush 48, 2) := by decide +kernel
theorem J_HTape_hexValue_d15 : decode J_HTape_hexValue.2.1 15 = .ok (.isub, 1) := by decide +kernel
theorem J_HTape_hexValue_d16 : decode J_HTape_hexValue.2.1 16 = .ok (.ireturn, 1) := by decide +kernel
theorem J_HTape_hexValue_d17 : decode J_HTape_hexValue.2.1 17 = .ok (.iload_n 0, 1) := by decide +kernel
theorem J_HTape_hexValue_d18 : decode J_HTape_hexValue.2.1 18 = .ok (.bipush 65, 2) := by decide +kernel
theorem J_HTape_hexValue_d20 : decode J_HTape_hexValue.2.1 20 = .ok (.if_icmp .lt 17, 3) := by decide +kernel
theorem J_HTape_hexValue_d23 : decode J_HTape_hexValue.2.1 23 = .ok (.iload_n 0, 1) := by decide +kernel
theorem J_HTape_hexValue_d24 : decode J_HTape_hexValue.2.1 24 = .ok (.bipush 70, 2) := by decide +kernel
theorem J_HTape_hexValue_d26 : decode J_HTape_hexValue.2.1 26 = .ok (.if_icmp .gt 11, 3) := by decide +kernel
theorem J_HTape_hexValue_d29 : decode J_HTape_hexValue.2.1 29 = .ok (.iload_n 0, 1) := by decide +kernel
theorem J_HTape_hexValue_d30 : decode J_HTape_hexValue.2.1 30 = .ok (.bipush 65, 2) := by decide +kernel
theorem J_HTape_hexValue_d32 : decode J_HTape_hexValue.2.1 32 = .ok (.isub, 1) := by decide +kernel
theorem J_HTape_hexValue_d33 : decode J_HTape_hexValue.2.1 33 = .ok (.bipush 10, 2) := by decide +kernel
theorem J_HTape_hexValue_d35 : decode J_HTape_hexValue.2.1 35 = .ok (.iadd, 1) := by decide +kernel
theorem J_HTape_hexValue_d36 : decode J_HTape_hexValue.2.1 36 = .ok (.ireturn, 1) := by decide +kernel
theorem J_HTape_hexValue_d37 : decode J_HTape_hexValue.2.1 37 = .ok (.iload_n 0, 1) := by decide +kernel
theorem J_HTape_hexValue_d38 : decode J_HTape_hexValue.2.1 38 = .ok (.bipush 97, 2) := by decide +kernel
theorem J_HTape_hexValue_d40 : decode J_HTape_hexValue.2.1 40 = .ok (.if_icmp .lt 19, 3) := by decide +kernel
theorem J_HTape_hexValue_d43 : decode J_HTape_hexValue.2.1 43 = .ok (.iload_n 0, 1) := by decide +kernel
theorem J_HTape_hexValue_d44 : decode J_HTape_hexValue.2.1 44 = .ok (.bipush 102, 2) := by decide +kernel
theorem J_HTape_hexValue_d46 : decode J_HTape_hexValue.2.1 46 = .ok (.if_icmp .gt 13, 3) := by decide +kernel
theorem J_HTape_hexValue_d49 : decode J_HTape_hexValue.2.1 49 = .ok (.iload_n 0, 1) := by decide +kernel
theorem J_HTape_hexValue_d50 : decode J_HTape_hexValue.2.1 50 = .ok (.bipush 97, 2) := by decide +kernel
theorem J_HTape_hexValue_d52 : decode J_HTape_hexValue.2.1 52 = .ok (.isub, 1) := by decide +kernel
theorem J_HTape_hexValue_d53 : decode J_HTape_hexValue.2.1 53 = .ok (.bipush 10, 2) := by decide +kernel
theorem J_HTape_hexValue_d55 : decode J_HTape_hexValue.2.1 55 = .ok (.iadd, 1) := by decide +kernel
theorem J_HTape_hexValue_d56 : decode J_HTape_hexValue.2.1 56 = .ok (.goto 4, 3) := by decide +kernel
theorem J_HTape_hexValue_d59 : decode J_HTape_hexValue.2.1 59 = .ok (.iconst (-1), 1) := by decide +kernel
theorem J_HTape_hexValue_d60 : decode J_HTape_hexValue.2.1 60 = .ok (.ireturn, 1) := by decide +kernel
theorem f_HTape_hexValue_ok {L : Nat} {xs : Nat → Int32} {dep : Nat} {w : Bool} {p0 : Int32} {M : im_M} {Q : Int32 → Prop} (hM : lw_S w M) (h : ed (f_HTape_hexValue p0 M) Q) : ia (tb_G L xs) dep J_HTape_hexValue (rpI M Q) (0, lv_args 0 [.int p0], [], M) := by
  have hS : im_St (tb_G L xs) dep J_HTape_hexValue (ia (tb_G L xs) dep J_HTape_hexValue (rpI M Q)) := ia_St
  unfold f_HTape_hexValue at h
  have l0 : im_lk (lv_args 0 [.int p0]) 0 = some (.int p0) := rfl
  refine iq_iload_n hS 1 J_HTape_hexValue_d0 l0 rfl ?_
  refine iq_bipush hS 3 J_HTape_hexValue_d1 (v := 48) (by decide +kernel) rfl ?_
  obtain ⟨k1, Q1, hQ1, hk1, h⟩ := jn0_ed h
  have J1 : ∀  (L' : List (Nat × Value)), im_lk L' 0 = some (.int p0) → Q1 () → ia (tb_G L xs) dep J_HTape_hexValue (rpI M Q) (17, L', [], M) := by
    intro  L' l2 h
    replace h := hQ1  h
    refine iq_iload_n hS 18 J_HTape_hexValue_d17 l2 rfl ?_
    refine iq_bipush hS 20 J_HTape_hexValue_d18 (v := 65) (by decide +kernel) rfl ?_
    obtain ⟨k3, Q3, hQ3, hk3, h⟩ := jn0_ed h
    have J3 : ∀  (L' : List (Nat × Value)), im_lk L' 0 = some (.int p0) → Q3 () → ia (tb_G L xs) dep J_HTape_hexValue (rpI M Q) (37, L', [], M) := by
      intro  L' l4 h
      replace h := hQ3  h
      refine iq_iload_n hS 38 J_HTape_hexValue_d37 l4 rfl ?_
      refine iq_bipush hS 40 J_HTape_hexValue_d38 (v := 97) (by decide +kernel) rfl ?_
      refine iq_icmp_lt hS 43 J_HTape_hexValue_d40 (t := 59) rfl (fun q40 => ?_) rfl (fun q40 => ?_)
      · replace h := ed_pos q40 h
        refine iq_iconst hS 60 J_HTape_hexValue_d59 (v := (-1)) (by decide +kernel) rfl ?_
        exact iq_iret J_HTape_hexValue_d60 rfl rfl ⟨_, rfl, rfl, ed_some h⟩
      · replace h := ed_neg q40 h
        refine iq_iload_n hS 44 J_HTape_hexValue_d43 l4 rfl ?_
        refine iq_bipush hS 46 J_HTape_hexValue_d44 (v := 102) (by decide +kernel) rfl ?_
        refine iq_icmp_gt hS 49 J_HTape_hexValue_d46 (t := 59) rfl (fun q46 => ?_) rfl (fun q46 => ?_)
        · replace h := ed_pos q46 h
          refine iq_iconst hS 60 J_HTape_hexValue_d59 (v := (-1)) (by decide +kernel) rfl ?_
          exact iq_iret J_HTape_hexValue_d60 rfl rfl ⟨_, rfl, rfl, ed_some h⟩
        · replace h := ed_neg q46 h
          refine iq_iload_n hS 50 J_HTape_hexValue_d49 l4 rfl ?_
          refine iq_bipush hS 52 J_HTape_hexValue_d50 (v := 97) (by decide +kernel) rfl ?_
          refine iq_isub hS 53 J_HTape_hexValue_d52 rfl ?_
          refine iq_bipush hS 55 J_HTape_hexValue_d53 (v := 10) (by decide +kernel) rfl ?_
          refine iq_iadd hS 56 J_HTape_hexValue_d55 rfl ?_
          refine iq_goto hS J_HTape_hexValue_d56 (t := 60) rfl ?_
          exact iq_iret J_HTape_hexValue_d60 rfl rfl ⟨_, rfl, rfl, ed_some h⟩
    refine iq_icmp_lt hS 23 J_HTape_hexValue_d20 (t := 37) rfl (fun q20 => ?_) rfl (fun q20 => ?_)
    · replace h := ed_pos q20 h
      exact J3  _ l2 (hk3  h)
    · replace h := ed_neg q20 h
      refine iq_iload_n hS 24 J_HTape_hexValue_d23 l2 rfl ?_
      refine iq_bipush hS 26 J_HTape_hexValue_d24 (v := 70) (by decide +kernel) rfl ?_
      refine iq_icmp_gt hS 29 J_HTape_hexValue_d26 (t := 37) rfl (fun q26 => ?_) rfl (fun q26 => ?_)
      · replace h := ed_pos q26 h
        exact J3  _ l2 (hk3  h)
      · replace h := ed_neg q26 h
        refine iq_iload_n hS 30 J_HTape_hexValue_d29 l2 rfl ?_
        refine iq_bipush hS 32 J_HTape_hexValue_d30 (v := 65) (by decide +kernel) rfl ?_
        refine iq_isub hS 33 J_HTape_hexValue_d32 rfl ?_
        refine iq_bipush hS 35 J_HTape_hexValue_d33 (v := 10) (by decide +kernel) rfl ?_
        refine iq_iadd hS 36 J_HTape_hexValue_d35 rfl ?_
        exact iq_iret J_HTape_hexValue_d36 rfl rfl ⟨_, rfl, rfl, ed_some h⟩
  refine iq_icmp_lt hS 6 J_HTape_hexValue_d3 (t := 17) rfl (fun q3 => ?_) rfl (fun q3 => ?_)
  · replace h := ed_pos q3 h
    exact J1  _ l0 (hk1  h)
  · replace h := ed_neg q3 h
    refine iq_iload_n hS 7 J_HTape_hexValue_d6 l0 rfl ?_
    refine iq_bipush hS 9 J_HTape_hexValue_d7 (v := 57) (by decide +kernel) rfl ?_
    refine iq_icmp_gt hS 12 J_HTape_hexValue_d9 (t := 17) rfl (fun q9 => ?_) rfl (fun q9 => ?_)
    · replace h := ed_pos q9 h
      exact J1  _ l0 (hk1  h)
    · replace h := ed_neg q9 h
      refine iq_iload_n hS 13 J_HTape_hexValue_d12 l0 rfl ?_
      refine iq_bipush hS 15 J_HTape_hexValue_d13 (v := 48) (by decide +kernel) rfl ?_
      refine iq_isub hS 16 J_HTape_hexValue_d15 rfl ?_
      exact iq_iret J_HTape_hexValue_d16 rfl rfl ⟨_, rfl, rfl, ed_some h⟩
noncomputable def f_HTape_takeHexPair (M : im_M) : Option (Int32 × im_M) := bd1 (f_HTape_next M) fun (x1 : Int32) => bd1 (f_HTape_hexValue x1 M) fun (x2 : Int32) => if ¬ x2 = (-1) then bd1 (f_HTape_pass M) fun (M3 : im_M) => bd1 (f_HTape_next M3) fun (x4 : Int32) => bd1 (f_HTape_hexValue x4 M3) fun (x5 : Int32) => if ¬ x5 = (-1) then bd1 (f_HTape_pass M3) fun (M6 : im_M) => some ((((16 : Int32) * x2) + x5), M6) else some ((-1), M3) else some ((-1), M)
theorem J_HTape_takeHexPair_d0 : decode J_HTape_takeHexPair.2.1 0 = .ok (.aload_n 0, 1) := by decide +kernel
theorem J_HTape_takeHexPair_d1 : decode J_HTape_takeHexPair.2.1 1 = .ok (.invokevirtual 47, 3) := by decide +kernel
theorem J_HTape_takeHexPair_d4 : decode J_HTape_takeHexPair.2.1 4 = .ok (.invokestatic 67, 3) := by decide +kernel
theorem J_HTape_takeHexPair_d7 : decode J_HTape_takeHexPair.2.1 7 = .ok (.istore_n 1, 1) := by decide +kernel
theorem J_HTape_takeHexPair_d8 : decode J_HTape_takeHexPair.2.1 8 = .ok (.iload_n 1, 1) := by decide +kernel
theorem J_HTape_takeHexPair_d9 : decode J_HTape_takeHexPair.2.1 9 = .ok (.iconst (-1), 1) := by decide +kernel
theorem J_HTape_takeHexPair_d10 : decode J_HTape_takeHexPair.2.1 10 = .ok (.if_icmp .ne 5, 3) := by decide +kernel
theorem J_HTape_takeHexPair_d13 : decode J_HTape_takeHexPair.2.1 13 = .ok (.iconst (-1), 1) := by decide +kernel
theorem J_HTape_takeHexPair_d14 : decode J_HTape_takeHexPair.2.1 14 = .ok (.ireturn, 1) := by decide +kernel
theorem J_HTape_takeHexPair_d15 : decode J_HTape_takeHexPair.2.1 15 = .ok (.aload_n 0, 1) := by decide +kernel
theorem J_HTape_takeHexPair_d16 : decode J_HTape_takeHexPair.2.1 16 = .ok (.invokevirtual 51, 3) := by decide +kernel
theorem J_HTape_takeHexPair_d19 : decode J_HTape_takeHexPair.2.1 19 = .ok (.aload_n 0, 1) := by decide +kernel
theorem J_HTape_takeHexPair_d20 : decode J_HTape_takeHexPair.2.1 20 = .ok (.invokevirtual 47, 3) := by decide +kernel
theorem J_HTape_takeHexPair_d23 : decode J_HTape_takeHexPair.2.1 23 = .ok (.invokestatic 67, 3) := by decide +kernel
theorem J_HTape_takeHexPair_d26 : decode J_HTape_takeHexPair.2.1 26 = .ok (.istore_n 2, 1) := by decide +kernel
theorem J_HTape_takeHexPair_d27 : decode J_HTape_takeHexPair.2.1 27 = .ok (.iload_n 2, 1) := by decide +kernel
theorem J_HTape_takeHexPair_d28 : decode J_HTape_takeHexPair.2.1 28 = .ok (.iconst (-1), 1) := by decide +kernel
theorem J_HTape_takeHexPair_d29 : decode J_HTape_takeHexPair.2.1 29 = .ok (.if_icmp .ne 5, 3) := by decide +kernel
theorem J_HTape_takeHexPair_d32 : decode J_HTape_takeHexPair.2.1 32 = .ok (.iconst (-1), 1) := by decide +kernel
theorem J_HTape_takeHexPair_d33 : decode J_HTape_takeHexPair.2.1 33 = .ok (.ireturn, 1) := by decide +kernel
theorem J_HTape_takeHexPair_d34 : decode J_HTape_takeHexPair.2.1 34 = .ok (.aload_n 0, 1) := by decide +kernel
theorem J_HTape_takeHexPair_d35 : decode J_HTape_takeHexPair.2.1 35 = .ok (.invokevirtual 51, 3) := by decide +kernel
theorem J_HTape_takeHexPair_d38 : decode J_HTape_takeHexPair.2.1 38 = .ok (.bipush 16, 2) := by decide +kernel
theorem J_HTape_takeHexPair_d40 : decode J_HTape_takeHexPair.2.1 40 = .ok (.iload_n 1, 1) := by decide +kernel
theorem J_HTape_takeHexPair_d41 : decode J_HTape_takeHexPair.2.1 41 = .ok (.imul, 1) := by decide +kernel
theorem J_HTape_takeHexPair_d42 : decode J_HTape_takeHexPair.2.1 42 = .ok (.iload_n 2, 1) := by decide +kernel
theorem J_HTape_takeHexPair_d43 : decode J_HTape_takeHexPair.2.1 43 = .ok (.iadd, 1) := by decide +kernel
theorem J_HTape_takeHexPair_d44 : decode J_HTape_takeHexPair.2.1 44 = .ok (.ireturn, 1) := by decide +kernel
theorem f_HTape_takeHexPair_ok {L : Nat} {xs : Nat → Int32} {dep : Nat} {w : Bool} {M : im_M} {Q : Int32 × im_M → Prop} (hM : lw_S w M) (h : ed (f_HTape_takeHexPair M) Q) : ia (tb_G L xs) (dep + 1) J_HTape_takeHexPair (rwI w Q) (0, lv_args 0 [.ref 1], [], M) := by
  have hS : im_St (tb_G L xs) (dep + 1) J_HTape_takeHexPair (ia (tb_G L xs) (dep + 1) J_HTape_takeHexPair (rwI w Q)) := ia_St
  unfold f_HTape_takeHexPair at h
  have l0 : im_lk (lv_args 0 [.ref 1]) 0 = some (.ref 1) := rfl
  refine iq_aload_n hS 1 J_HTape_takeHexPair_d0 l0 rfl ?_
  obtain ⟨Q1, hQ1, h⟩ := bd1_ed h
  refine iq_cpI hS 4 J_HTape_takeHexPair_d1 rfl (pr_inst (vs := []) lc_10_47 lT_17 rfl rfl (by decide) (by decide) rfl (Nat.le_of_ble_eq_true rfl) (Nat.le_of_ble_eq_true rfl) (fun _ => Or.inl (pr_b (ka_1 hM) (by decide) rfl))) (f_HTape_next_ok (dep := dep + 0) hM h) rfl ?_
  intro x1 h
  replace h := hQ1 _ h
  obtain ⟨Q2, hQ2, h⟩ := bd1_ed h
  refine iq_cpI hS 7 J_HTape_takeHexPair_d4 rfl (pr_stat (vs := [_]) lc_10_67 lT_40 rfl rfl (by decide) rfl (Nat.le_of_ble_eq_true rfl) (Nat.le_of_ble_eq_true rfl)) (f_HTape_hexValue_ok (dep := dep + 0) hM h) rfl ?_
  intro x2 h
  replace h := hQ2 _ h
  refine iq_istore_n hS 8 J_HTape_takeHexPair_d7 (by decide) rfl ?_
  refine iq_iload_n hS 9 J_HTape_takeHexPair_d8 lk_1s rfl ?_
  refine iq_iconst hS 10 J_HTape_takeHexPair_d9 (v := (-1)) (by decide +kernel) rfl ?_
  refine iq_icmp_ne hS 13 J_HTape_takeHexPair_d10 (t := 15) rfl (fun q10 => ?_) rfl (fun q10 => ?_)
  · replace h := ed_pos q10 h
    refine iq_aload_n hS 16 J_HTape_takeHexPair_d15 (lk_1r l0 (by decide)) rfl ?_
    obtain ⟨Q3, hQ3, h⟩ := bd1_ed h
    refine iq_cwV hS 19 J_HTape_takeHexPair_d16 rfl (pr_inst (vs := []) lc_10_51 lT_18 rfl rfl (by decide) (by decide) rfl (Nat.le_of_ble_eq_true rfl) (Nat.le_of_ble_eq_true rfl) (fun _ => Or.inl (pr_b (ka_1 hM) (by decide) rfl))) (f_HTape_pass_ok (dep := dep + 0) hM h) rfl ?_
    intro M3 hM3 h
    replace h := hQ3 _ h
    refine iq_aload_n hS 20 J_HTape_takeHexPair_d19 (lk_1r l0 (by decide)) rfl ?_
    obtain ⟨Q4, hQ4, h⟩ := bd1_ed h
    refine iq_cpI hS 23 J_HTape_takeHexPair_d20 rfl (pr_inst (vs := []) lc_10_47 lT_17 rfl rfl (by decide) (by decide) rfl (Nat.le_of_ble_eq_true rfl) (Nat.le_of_ble_eq_true rfl) (fun _ => Or.inl (pr_b (ka_1 hM3) (by decide) rfl))) (f_HTape_next_ok (dep := dep + 0) hM3 h) rfl ?_
    intro x4 h
    replace h := hQ4 _ h
    obtain ⟨Q5, hQ5, h⟩ := bd1_ed h
    refine iq_cpI hS 26 J_HTape_takeHexPair_d23 rfl (pr_stat (vs := [_]) lc_10_67 lT_40 rfl rfl (by decide) rfl (Nat.le_of_ble_eq_true rfl) (Nat.le_of_ble_eq_true rfl)) (f_HTape_hexValue_ok (dep := dep + 0) hM3 h) rfl ?_
    intro x5 h
    replace h := hQ5 _ h
    refine iq_istore_n hS 27 J_HTape_takeHexPair_d26 (by decide) rfl ?_
    refine iq_iload_n hS 28 J_HTape_takeHexPair_d27 lk_1s rfl ?_
    refine iq_iconst hS 29 J_HTape_takeHexPair_d28 (v := (-1)) (by decide +kernel) rfl ?_
    refine iq_icmp_ne hS 32 J_HTape_takeHexPair_d29 (t := 34) rfl (fun q29 => ?_) rfl (fun q29 => ?_)
    · replace h := ed_pos q29 h
      refine iq_aload_n hS 35 J_HTape_takeHexPair_d34 (lk_1r (lk_1r l0 (by decide)) (by decide)) rfl ?_
      obtain ⟨Q6, hQ6, h⟩ := bd1_ed h
      refine iq_cwV hS 38 J_HTape_takeHexPair_d35 rfl (pr_inst (vs := []) lc_10_51 lT_18 rfl rfl (by decide) (by decide) rfl (Nat.le_of_ble_eq_true rfl) (Nat.le_of_ble_eq_true rfl) (fun _ => Or.inl (pr_b (ka_1 hM3) (by decide) rfl))) (f_HTape_pass_ok (dep := dep + 0) hM3 h) rfl ?_
      intro M6 hM6 h
      replace h := hQ6 _ h
      refine iq_bipush hS 40 J_HTape_takeHexPair_d38 (v := 16) (by decide +kernel) rfl ?_
      refine iq_iload_n hS 41 J_HTape_takeHexPair_d40 (lk_1i lk_1s (by decide)) rfl ?_
      refine iq_imul hS 42 J_HTape_takeHexPair_d41 rfl ?_
      refine iq_iload_n hS 43 J_HTape_takeHexPair_d42 lk_1s rfl ?_
      refine iq_iadd hS 44 J_HTape_takeHexPair_d43 rfl ?_
      exact iq_iret J_HTape_takeHexPair_d44 rfl rfl ⟨_, rfl, hM6, ed_some h⟩
    · replace h := ed_neg q29 h
      refine iq_iconst hS 33 J_HTape_takeHexPair_d32 (v := (-1)) (by decide +kernel) rfl ?_
      exact iq_iret J_HTape_takeHexPair_d33 rfl rfl ⟨_, rfl, hM3, ed_some h⟩
  · replace h := ed_neg q10 h
    refine iq_iconst hS 14 J_HTape_takeHexPair_d13 (v := (-1)) (by decide +kernel) rfl ?_
    exact iq_iret J_HTape_takeHexPair_d14 rfl rfl ⟨_, rfl, hM, ed_some h⟩
noncomputable def f_HTape_takeData_L7 (x2 : Int32) (M3 : im_M) : Option ((Int32 × im_M) ⊕ ((im_M) ⊕ (Int32 × im_M))) := if 4096 < x2 then some (.inr (.inl M3)) else bd1 (f_HTape_next M3) fun (x4 : Int32) => if x4 = (-1) then some (.inr (.inr (1, M3))) else if ¬ x4 = 94 then bd1 (f_HTape_pass M3) fun (M5 : im_M) => bd2 (if ¬ x4 = 95 then some (x4, M5) else bd2 (f_HTape_takeHexPair M5) fun (x7 : Int32) (M7 : im_M) => some (x7, M7)) fun (y8 : Int32) (M9 : im_M) => if y8 = (-1) then some (.inr (.inr (0, M9))) else if ¬ (im_i M9 1 11) = 200 then gd (inb (im_i M9 1 11) 200) <| some (.inl ((x2 + 1), (im_setI (im_setI M9 10 (Int32.toNatClampNeg (im_i M9 1 11)) (vp_nar .byte ((Int32.toInt8 y8).toInt32))) 1 11 ((im_i (im_setI M9 10 (Int32.toNatClampNeg (im_i M9 1 11)) (vp_nar .byte ((Int32.toInt8 y8).toInt32))) 1 11) + 1)))) else some (.inr (.inr (0, M9))) else some (.inr (.inr (1, M3)))
noncomputable def f_HTape_takeData (M : im_M) : Option (Int32 × im_M) := bs1 (lp (uc2 (f_HTape_takeData_L7)) (0, (im_setI M 1 11 0))) (fun (M13 : im_M) => some (1, M13)) (fun t => some t)
theorem J_HTape_takeData_d0 : decode J_HTape_takeData.2.1 0 = .ok (.aload_n 0, 1) := by decide +kernel
theorem J_HTape_takeData_d1 : decode J_HTape_takeData.2.1 1 = .ok (.iconst 0, 1) := by decide +kernel
theorem J_HTape_takeData_d2 : decode J_HTape_takeData.2.1 2 = .ok (.putfield 61, 3) := by decide +kernel
theorem J_HTape_takeData_d5 : decode J_HTape_takeData.2.1 5 = .ok (.iconst 0, 1) := by decide +kernel
theorem J_HTape_takeData_d6 : decode J_HTape_takeData.2.1 6 = .ok (.istore_n 1, 1) := by decide +kernel
theorem J_HTape_takeData_d7 : decode J_HTape_takeData.2.1 7 = .ok (.iload_n 1, 1) := by decide +kernel
theorem J_HTape_takeData_d8 : decode J_HTape_takeData.2.1 8 = .ok (.sipush 4096, 3) := by decide +kernel
theorem J_HTape_takeData_d11 : decode J_HTape_takeData.2.1 11 = .ok (.if_icmp .gt 80, 3) := by decide +kernel
theorem J_HTape_takeData_d14 : decode J_HTape_takeData.2.1 14 = .ok (.aload_n 0, 1) := by decide +kernel
theorem J_HTape_takeData_d15 : decode J_HTape_takeData.2.1 15 = .ok (.invokevirtual 47, 3) := by decide +kernel
theorem J_HTape_takeData_d18 : decode J_HTape_takeData.2.1 18 = .ok (.istore_n 2, 1) := by decide +kernel
theorem J_HTape_takeData_d19 : decode J_HTape_takeData.2.1 19 = .ok (.iload_n 2, 1) := by decide +kernel
theorem J_HTape_takeData_d20 : decode J_HTape_takeData.2.1 20 = .ok (.iconst (-1), 1) := by decide +kernel
theorem J_HTape_takeData_d21 : decode J_HTape_takeData.2.1 21 = .ok (.if_icmp .eq 9, 3) := by decide +kernel
theorem J_HTape_takeData_d24 : decode J_HTape_takeData.2.1 24 = .ok (.iload_n 2, 1) := by decide +kernel
theorem J_HTape_takeData_d25 : decode J_HTape_takeData.2.1 25 = .ok (.bipush 94, 2) := by decide +kernel
theorem J_HTape_takeData_d27 : decode J_HTape_takeData.2.1 27 = .ok (.if_icmp .ne 5, 3) := by decide +kernel
theorem J_HTape_takeData_d30 : decode J_HTape_takeData.2.1 30 = .ok (.iconst 1, 1) := by decide +kernel
theorem J_HTape_takeData_d31 : decode J_HTape_takeData.2.1 31 = .ok (.ireturn, 1) := by decide +kernel
theorem J_HTape_takeData_d32 : decode J_HTape_takeData.2.1 32 = .ok (.aload_n 0, 1) := by decide +kernel
theorem J_HTape_takeData_d33 : decode J_HTape_takeData.2.1 33 = .ok (.invokevirtual 51, 3) := by decide +kernel
theorem J_HTape_takeData_d36 : decode J_HTape_takeData.2.1 36 = .ok (.iload_n 2, 1) := by decide +kernel
theorem J_HTape_takeData_d37 : decode J_HTape_takeData.2.1 37 = .ok (.bipush 95, 2) := by decide +kernel
theorem J_HTape_takeData_d39 : decode J_HTape_takeData.2.1 39 = .ok (.if_icmp .ne 8, 3) := by decide +kernel
theorem J_HTape_takeData_d42 : decode J_HTape_takeData.2.1 42 = .ok (.aload_n 0, 1) := by decide +kernel
theorem J_HTape_takeData_d43 : decode J_HTape_takeData.2.1 43 = .ok (.invokevirtual 64, 3) := by decide +kernel
theorem J_HTape_takeData_d46 : decode J_HTape_takeData.2.1 46 = .ok (.istore_n 2, 1) := by decide +kernel
theorem J_HTape_takeData_d47 : decode J_HTape_takeData.2.1 47 = .ok (.iload_n 2, 1) := by decide +kernel
theorem J_HTape_takeData_d48 : decode J_HTape_takeData.2.1 48 = .ok (.iconst (-1), 1) := by decide +kernel
theorem J_HTape_takeData_d49 : decode J_HTape_takeData.2.1 49 = .ok (.if_icmp .eq 13, 3) := by decide +kernel
theorem J_HTape_takeData_d52 : decode J_HTape_takeData.2.1 52 = .ok (.aload_n 0, 1) := by decide +kernel
theorem J_HTape_takeData_d53 : decode J_HTape_takeData.2.1 53 = .ok (.getfield 61, 3) := by decide +kernel
theorem J_HTape_takeData_d56 : decode J_HTape_takeData.2.1 56 = .ok (.sipush 200, 3) := by decide +kernel
theorem J_HTape_takeData_d59 : decode J_HTape_takeData.2.1 59 = .ok (.if_icmp .ne 5, 3) := by decide +kernel
theorem J_HTape_takeData_d62 : decode J_HTape_takeData.2.1 62 = .ok (.iconst 0, 1) := by decide +kernel
theorem J_HTape_takeData_d63 : decode J_HTape_takeData.2.1 63 = .ok (.ireturn, 1) := by decide +kernel
theorem J_HTape_takeData_d64 : decode J_HTape_takeData.2.1 64 = .ok (.aload_n 0, 1) := by decide +kernel
theorem J_HTape_takeData_d65 : decode J_HTape_takeData.2.1 65 = .ok (.getfield 37, 3) := by decide +kernel
theorem J_HTape_takeData_d68 : decode J_HTape_takeData.2.1 68 = .ok (.aload_n 0, 1) := by decide +kernel
theorem J_HTape_takeData_d69 : decode J_HTape_takeData.2.1 69 = .ok (.getfield 61, 3) := by decide +kernel
theorem J_HTape_takeData_d72 : decode J_HTape_takeData.2.1 72 = .ok (.iload_n 2, 1) := by decide +kernel
theorem J_HTape_takeData_d73 : decode J_HTape_takeData.2.1 73 = .ok (.i2b, 1) := by decide +kernel
theorem J_HTape_takeData_d74 : decode J_HTape_takeData.2.1 74 = .ok (.bastore, 1) := by decide +kernel
theorem J_HTape_takeData_d75 : decode J_HTape_takeData.2.1 75 = .ok (.aload_n 0, 1) := by decide +kernel
theorem J_HTape_takeData_d76 : decode J_HTape_takeData.2.1 76 = .ok (.dup, 1) := by decide +kernel
theorem J_HTape_takeData_d77 : decode J_HTape_takeData.2.1 77 = .ok (.getfield 61, 3) := by decide +kernel
theorem J_HTape_takeData_d80 : decode J_HTape_takeData.2.1 80 = .ok (.iconst 1, 1) := by decide +kernel
theorem J_HTape_takeData_d81 : decode J_HTape_takeData.2.1 81 = .ok (.iadd, 1) := by decide +kernel
theorem J_HTape_takeData_d82 : decode J_HTape_takeData.2.1 82 = .ok (.putfield 61, 3) := by decide +kernel
theorem J_HTape_takeData_d85 : decode J_HTape_takeData.2.1 85 = .ok (.iinc 1 1, 3) := by decide +kernel
theorem J_HTape_takeData_d88 : decode J_HTape_takeData.2.1 88 = .ok (.goto (-81), 3) := by decide +kernel
theorem J_HTape_takeData_d91 : decode J_HTape_takeData.2.1 91 = .ok (.iconst 1, 1) := by decide +kernel
theorem J_HTape_takeData_d92 : decode J_HTape_takeData.2.1 92 = .ok (.ireturn, 1) := by decide +kernel
theorem f_HTape_takeData_ok {L : Nat} {xs : Nat → Int32} {dep : Nat} {w : Bool} {M : im_M} {Q : Int32 × im_M → Prop} (hM : lw_S w M) (h : ed (f_HTape_takeData M) Q) : ia (tb_G L xs) (dep + 2) J_HTape_takeData (rwI w Q) (0, lv_args 0 [.ref 1], [], M) := by
  have hS : im_St (tb_G L xs) (dep + 2) J_HTape_takeData (ia (tb_G L xs) (dep + 2) J_HTape_takeData (rwI w Q)) := ia_St
  unfold f_HTape_takeData at h
  have l0 : im_lk (lv_args 0 [.ref 1]) 0 = some (.ref 1) := rfl
  refine iq_aload_n hS 1 J_HTape_takeData_d0 l0 rfl ?_
  refine iq_iconst hS 2 J_HTape_takeData_d1 (v := 0) (by decide +kernel) rfl ?_
  refine iq_putI hS 5 J_HTape_takeData_d2 lf_10_61 (Or.inl rfl) rfl (ka_1 hM) rfl ?_
  refine iq_iconst hS 6 J_HTape_takeData_d5 (v := 0) (by decide +kernel) rfl ?_
  refine iq_istore_n hS 7 J_HTape_takeData_d6 (by decide) rfl ?_
  obtain ⟨Q1, hQ1, hR1, h⟩ := bs1_ed h
  have K1 : ∀ (M2 : im_M) (L' : List (Nat × Value)), lw_S w M2 → Q1 (.inl M2) → ia (tb_G L xs) (dep + 2) J_HTape_takeData (rwI w Q) (91, L', [], M2) := by
    intro M2 L' hM2  h
    replace h := hQ1 _ h
    refine iq_iconst hS 92 J_HTape_takeData_d91 (v := 1) (by decide +kernel) rfl ?_
    exact iq_iret J_HTape_takeData_d92 rfl rfl ⟨_, rfl, hM2, ed_some h⟩
  obtain ⟨r1, hr1, hq1⟩ := h
  obtain ⟨n1, hn1⟩ := lp_n hr1
  have I1 : ∀ (n : Nat) (x3 : Int32) (M4 : im_M) (L' : List (Nat × Value)), lw_S w M4 → im_lk L' 0 = some (.ref 1) → im_lk L' 1 = some (.int x3) → lpn (uc2 (f_HTape_takeData_L7)) n (x3, M4) = some r1 → ia (tb_G L xs) (dep + 2) J_HTape_takeData (rwI w Q) (7, L', [], M4) := by
    intro n
    induction n with
    | zero => intro x3 M4 L' hM4 l5 l6 hn; exact (lpn_0 hn).elim
    | succ n ih =>
      intro x3 M4 L' hM4 l5 l6 hn
      have h := lpn_ed2 hn
      unfold f_HTape_takeData_L7 at h
      refine iq_iload_n hS 8 J_HTape_takeData_d7 l6 rfl ?_
      refine iq_sipush hS 11 J_HTape_takeData_d8 (v := 4096) (by decide +kernel) rfl ?_
      refine iq_icmp_gt hS 14 J_HTape_takeData_d11 (t := 91) rfl (fun q11 => ?_) rfl (fun q11 => ?_)
      · replace h := ed_pos q11 h
        exact K1 _ _ hM4  (lq_r h hq1)
      · replace h := ed_neg q11 h
        refine iq_aload_n hS 15 J_HTape_takeData_d14 l5 rfl ?_
        obtain ⟨Q7, hQ7, h⟩ := bd1_ed h
        refine iq_cpI hS 18 J_HTape_takeData_d15 rfl (pr_inst (vs := []) lc_10_47 lT_17 rfl rfl (by decide) (by decide) rfl (Nat.le_of_ble_eq_true rfl) (Nat.le_of_ble_eq_true rfl) (fun _ => Or.inl (pr_b (ka_1 hM4) (by decide) rfl))) (f_HTape_next_ok (dep := dep + 1) hM4 h) rfl ?_
        intro x7 h
        replace h := hQ7 _ h
        refine iq_istore_n hS 19 J_HTape_takeData_d18 (by decide) rfl ?_
        refine iq_iload_n hS 20 J_HTape_takeData_d19 lk_1s rfl ?_
        refine iq_iconst hS 21 J_HTape_takeData_d20 (v := (-1)) (by decide +kernel) rfl ?_
        refine iq_icmp_eq hS 24 J_HTape_takeData_d21 (t := 30) rfl (fun q21 => ?_) rfl (fun q21 => ?_)
        · replace h := ed_pos q21 h
          refine iq_iconst hS 31 J_HTape_takeData_d30 (v := 1) (by decide +kernel) rfl ?_
          exact iq_iret J_HTape_takeData_d31 rfl rfl ⟨_, rfl, hM4, ed_some (hR1 _ (lq_r h hq1))⟩
        · replace h := ed_neg q21 h
          refine iq_iload_n hS 25 J_HTape_takeData_d24 lk_1s rfl ?_
          refine iq_bipush hS 27 J_HTape_takeData_d25 (v := 94) (by decide +kernel) rfl ?_
          refine iq_icmp_ne hS 30 J_HTape_takeData_d27 (t := 32) rfl (fun q27 => ?_) rfl (fun q27 => ?_)
          · replace h := ed_pos q27 h
            refine iq_aload_n hS 33 J_HTape_takeData_d32 (lk_1r l5 (by decide)) rfl ?_
            obtain ⟨Q8, hQ8, h⟩ := bd1_ed h
            refine iq_cwV hS 36 J_HTape_takeData_d33 rfl (pr_inst (vs := []) lc_10_51 lT_18 rfl rfl (by decide) (by decide) rfl (Nat.le_of_ble_eq_true rfl) (Nat.le_of_ble_eq_true rfl) (fun _ => Or.inl (pr_b (ka_1 hM4) (by decide) rfl))) (f_HTape_pass_ok (dep := dep + 1) hM4 h) rfl ?_
            intro M8 hM8 h
            replace h := hQ8 _ h
            refine iq_iload_n hS 37 J_HTape_takeData_d36 lk_1s rfl ?_
            refine iq_bipush hS 39 J_HTape_takeData_d37 (v := 95) (by decide +kernel) rfl ?_
            obtain ⟨Q9, hQ9, h⟩ := bd2_ed h
            have J9 : ∀ (y11 : Int32) (M12 : im_M) (L' : List (Nat × Value)), lw_S w M12 → im_lk L' 0 = some (.ref 1) → im_lk L' 1 = some (.int x3) → im_lk L' 2 = some (.int y11) → Q9 (y11, M12) → ia (tb_G L xs) (dep + 2) J_HTape_takeData (rwI w Q) (47, L', [], M12) := by
              intro y11 M12 L' hM12 l13 l14 l15 h
              replace h := hQ9 _ _ h
              refine iq_iload_n hS 48 J_HTape_takeData_d47 l15 rfl ?_
              refine iq_iconst hS 49 J_HTape_takeData_d48 (v := (-1)) (by decide +kernel) rfl ?_
              refine iq_icmp_eq hS 52 J_HTape_takeData_d49 (t := 62) rfl (fun q49 => ?_) rfl (fun q49 => ?_)
              · replace h := ed_pos q49 h
                refine iq_iconst hS 63 J_HTape_takeData_d62 (v := 0) (by decide +kernel) rfl ?_
                exact iq_iret J_HTape_takeData_d63 rfl rfl ⟨_, rfl, hM12, ed_some (hR1 _ (lq_r h hq1))⟩
              · replace h := ed_neg q49 h
                refine iq_aload_n hS 53 J_HTape_takeData_d52 l13 rfl ?_
                refine iq_getI hS 56 J_HTape_takeData_d53 lf_10_61 (Or.inl rfl) (ka_1 hM12) rfl ?_
                refine iq_sipush hS 59 J_HTape_takeData_d56 (v := 200) (by decide +kernel) rfl ?_
                refine iq_icmp_ne hS 62 J_HTape_takeData_d59 (t := 64) rfl (fun q59 => ?_) rfl (fun q59 => ?_)
                · replace h := ed_pos q59 h
                  refine iq_aload_n hS 65 J_HTape_takeData_d64 l13 rfl ?_
                  refine iq_getR hS 68 J_HTape_takeData_d65 lf_10_37 (Or.inr ⟨_, rfl⟩) (ka_1 hM12) (ra_1_10 hM12) rfl ?_
                  refine iq_aload_n hS 69 J_HTape_takeData_d68 l13 rfl ?_
                  refine iq_getI hS 72 J_HTape_takeData_d69 lf_10_61 (Or.inl rfl) (ka_1 hM12) rfl ?_
                  refine iq_iload_n hS 73 J_HTape_takeData_d72 l15 rfl ?_
                  refine iq_i2b hS 74 J_HTape_takeData_d73 rfl ?_
                  obtain ⟨g74, h⟩ := ed_gd h
                  refine iq_bastore hS 75 J_HTape_takeData_d74 ⟨(ka_10 hM12).1, (ka_10 hM12).2, g74.1, ix_lt (kl_10 hM12) g74.2⟩ rfl ?_
                  refine iq_aload_n hS 76 J_HTape_takeData_d75 l13 rfl ?_
                  refine iq_dup hS 77 J_HTape_takeData_d76 rfl rfl ?_
                  refine iq_getI hS 80 J_HTape_takeData_d77 lf_10_61 (Or.inl rfl) (ka_1 hM12) rfl ?_
                  refine iq_iconst hS 81 J_HTape_takeData_d80 (v := 1) (by decide +kernel) rfl ?_
                  refine iq_iadd hS 82 J_HTape_takeData_d81 rfl ?_
                  refine iq_putI hS 85 J_HTape_takeData_d82 lf_10_61 (Or.inl rfl) rfl (ka_1 hM12) rfl ?_
                  refine iq_iincv hS 88 J_HTape_takeData_d85 (c := 1) (by decide +kernel) l14 (by decide) rfl ?_
                  refine iq_goto hS J_HTape_takeData_d88 (t := 7) rfl ?_
                  exact ih _ _ _ hM12 (lk_1r l13 (by decide)) lk_1s (lq_l h)
                · replace h := ed_neg q59 h
                  refine iq_iconst hS 63 J_HTape_takeData_d62 (v := 0) (by decide +kernel) rfl ?_
                  exact iq_iret J_HTape_takeData_d63 rfl rfl ⟨_, rfl, hM12, ed_some (hR1 _ (lq_r h hq1))⟩
            refine iq_icmp_ne hS 42 J_HTape_takeData_d39 (t := 47) rfl (fun q39 => ?_) rfl (fun q39 => ?_)
            · replace h := ed_pos q39 h
              exact J9 _ _ _ hM8 (lk_1r l5 (by decide)) (lk_1i l6 (by decide)) lk_1s (ed_some h)
            · replace h := ed_neg q39 h
              refine iq_aload_n hS 43 J_HTape_takeData_d42 (lk_1r l5 (by decide)) rfl ?_
              obtain ⟨Q10, hQ10, h⟩ := bd2_ed h
              refine iq_cwI hS 46 J_HTape_takeData_d43 rfl (pr_inst (vs := []) lc_10_64 lT_39 rfl rfl (by decide) (by decide) rfl (Nat.le_of_ble_eq_true rfl) (Nat.le_of_ble_eq_true rfl) (fun _ => Or.inl (pr_b (ka_1 hM8) (by decide) rfl))) (f_HTape_takeHexPair_ok (dep := dep + 0) hM8 h) rfl ?_
              intro x10 M10 hM10 h
              replace h := hQ10 _ _ h
              refine iq_istore_n hS 47 J_HTape_takeData_d46 (by decide) rfl ?_
              exact J9 _ _ _ hM10 (lk_1r (lk_1r l5 (by decide)) (by decide)) (lk_1i (lk_1i l6 (by decide)) (by decide)) lk_1s (ed_some h)
          · replace h := ed_neg q27 h
            refine iq_iconst hS 31 J_HTape_takeData_d30 (v := 1) (by decide +kernel) rfl ?_
            exact iq_iret J_HTape_takeData_d31 rfl rfl ⟨_, rfl, hM4, ed_some (hR1 _ (lq_r h hq1))⟩
  exact I1 n1 _ _ _ hM (lk_1r l0 (by decide)) lk_1s hn1
noncomputable def f_HTape_endOfForm_L7 (M3 : im_M) (x2 : Int32) : Option ((Int32) ⊕ ((Unit) ⊕ (Int32))) := if (im_i M3 1 1) ≤ (x2 + 1) then some (.inr (.inl ())) else gd (inb x2 4096) <| jn0 (fun (_ : Unit) => some (.inl (x2 + 1))) fun k4 => if ¬ (im_i M3 2 (Int32.toNatClampNeg x2)) = 94 then k4 () else gd (inb (x2 + 1) 4096) <| if ¬ (im_i M3 2 (Int32.toNatClampNeg (x2 + 1))) = 90 then k4 () else gd (inb 0 5) <| if (x2 - (im_i M3 8 (Int32.toNatClampNeg 0))) ≤ 400 then some (.inr (.inr x2)) else some (.inr (.inr (-1)))
noncomputable def f_HTape_endOfForm (M : im_M) : Option (Int32) := gd (inb 0 5) <| bs0 (lp (uc1 (f_HTape_endOfForm_L7 M)) (im_i M 8 (Int32.toNatClampNeg 0))) (fun (_ : Unit) => some (-1)) (fun t => some t)
theorem J_HTape_endOfForm_d0 : decode J_HTape_endOfForm.2.1 0 = .ok (.aload_n 0, 1) := by decide +kernel
theorem J_HTape_endOfForm_d1 : decode J_HTape_endOfForm.2.1 1 = .ok (.getfield 31, 3) := by decide +kernel
theorem J_HTape_endOfForm_d4 : decode J_HTape_endOfForm.2.1 4 = .ok (.iconst 0, 1) := by decide +kernel
theorem J_HTape_endOfForm_d5 : decode J_HTape_endOfForm.2.1 5 = .ok (.iaload, 1) := by decide +kernel
theorem J_HTape_endOfForm_d6 : decode J_HTape_endOfForm.2.1 6 = .ok (.istore_n 1, 1) := by decide +kernel
theorem J_HTape_endOfForm_d7 : decode J_HTape_endOfForm.2.1 7 = .ok (.iload_n 1, 1) := by decide +kernel
theorem J_HTape_endOfForm_d8 : decode J_HTape_endOfForm.2.1 8 = .ok (.iconst 1, 1) := by decide +kernel
theorem J_HTape_endOfForm_d9 : decode J_HTape_endOfForm.2.1 9 = .ok (.iadd, 1) := by decide +kernel
theorem J_HTape_endOfForm_d10 : decode J_HTape_endOfForm.2.1 10 = .ok (.aload_n 0, 1) := by decide +kernel
theorem J_HTape_endOfForm_d11 : decode J_HTape_endOfForm.2.1 11 = .ok (.getfield 40, 3) := by decide +kernel
theorem J_HTape_endOfForm_d14 : decode J_HTape_endOfForm.2.1 14 = .ok (.if_icmp .ge 53, 3) := by decide +kernel
theorem J_HTape_endOfForm_d17 : decode J_HTape_endOfForm.2.1 17 = .ok (.aload_n 0, 1) := by decide +kernel
theorem J_HTape_endOfForm_d18 : decode J_HTape_endOfForm.2.1 18 = .ok (.getfield 11, 3) := by decide +kernel
theorem J_HTape_endOfForm_d21 : decode J_HTape_endOfForm.2.1 21 = .ok (.iload_n 1, 1) := by decide +kernel
theorem J_HTape_endOfForm_d22 : decode J_HTape_endOfForm.2.1 22 = .ok (.baload, 1) := by decide +kernel
theorem J_HTape_endOfForm_d23 : decode J_HTape_endOfForm.2.1 23 = .ok (.bipush 94, 2) := by decide +kernel
theorem J_HTape_endOfForm_d25 : decode J_HTape_endOfForm.2.1 25 = .ok (.if_icmp .ne 36, 3) := by decide +kernel
theorem J_HTape_endOfForm_d28 : decode J_HTape_endOfForm.2.1 28 = .ok (.aload_n 0, 1) := by decide +kernel
theorem J_HTape_endOfForm_d29 : decode J_HTape_endOfForm.2.1 29 = .ok (.getfield 11, 3) := by decide +kernel
theorem J_HTape_endOfForm_d32 : decode J_HTape_endOfForm.2.1 32 = .ok (.iload_n 1, 1) := by decide +kernel
theorem J_HTape_endOfForm_d33 : decode J_HTape_endOfForm.2.1 33 = .ok (.iconst 1, 1) := by decide +kernel
theorem J_HTape_endOfForm_d34 : decode J_HTape_endOfForm.2.1 34 = .ok (.iadd, 1) := by decide +kernel
theorem J_HTape_endOfForm_d35 : decode J_HTape_endOfForm.2.1 35 = .ok (.baload, 1) := by decide +kernel
theorem J_HTape_endOfForm_d36 : decode J_HTape_endOfForm.2.1 36 = .ok (.bipush 90, 2) := by decide +kernel
theorem J_HTape_endOfForm_d38 : decode J_HTape_endOfForm.2.1 38 = .ok (.if_icmp .ne 23, 3) := by decide +kernel
theorem J_HTape_endOfForm_d41 : decode J_HTape_endOfForm.2.1 41 = .ok (.iload_n 1, 1) := by decide +kernel
theorem J_HTape_endOfForm_d42 : decode J_HTape_endOfForm.2.1 42 = .ok (.aload_n 0, 1) := by decide +kernel
theorem J_HTape_endOfForm_d43 : decode J_HTape_endOfForm.2.1 43 = .ok (.getfield 31, 3) := by decide +kernel
theorem J_HTape_endOfForm_d46 : decode J_HTape_endOfForm.2.1 46 = .ok (.iconst 0, 1) := by decide +kernel
theorem J_HTape_endOfForm_d47 : decode J_HTape_endOfForm.2.1 47 = .ok (.iaload, 1) := by decide +kernel
theorem J_HTape_endOfForm_d48 : decode J_HTape_endOfForm.2.1 48 = .ok (.isub, 1) := by decide +kernel
theorem J_HTape_endOfForm_d49 : decode J_HTape_endOfForm.2.1 49 = .ok (.sipush 400, 3) := by decide +kernel
theorem J_HTape_endOfForm_d52 : decode J_HTape_endOfForm.2.1 52 = .ok (.if_icmp .le 7, 3) := by decide +kernel
theorem J_HTape_endOfForm_d55 : decode J_HTape_endOfForm.2.1 55 = .ok (.iconst (-1), 1) := by decide +kernel
theorem J_HTape_endOfForm_d56 : decode J_HTape_endOfForm.2.1 56 = .ok (.goto 4, 3) := by decide +kernel
theorem J_HTape_endOfForm_d59 : decode J_HTape_endOfForm.2.1 59 = .ok (.iload_n 1, 1) := by decide +kernel
theorem J_HTape_endOfForm_d60 : decode J_HTape_endOfForm.2.1 60 = .ok (.ireturn, 1) := by decide +kernel
theorem J_HTape_endOfForm_d61 : decode J_HTape_endOfForm.2.1 61 = .ok (.iinc 1 1, 3) := by decide +kernel
theorem J_HTape_endOfForm_d64 : decode J_HTape_endOfForm.2.1 64 = .ok (.goto (-57), 3) := by decide +kernel
theorem J_HTape_endOfForm_d67 : decode J_HTape_endOfForm.2.1 67 = .ok (.iconst (-1), 1) := by decide +kernel
theorem J_HTape_endOfForm_d68 : decode J_HTape_endOfForm.2.1 68 = .ok (.ireturn, 1) := by decide +kernel
theorem f_HTape_endOfForm_ok {L : Nat} {xs : Nat → Int32} {dep : Nat} {w : Bool} {M : im_M} {Q : Int32 → Prop} (hM : lw_S w M) (h : ed (f_HTape_endOfForm M) Q) : ia (tb_G L xs) dep J_HTape_endOfForm (rpI M Q) (0, lv_args 0 [.ref 1], [], M) := by
  have hS : im_St (tb_G L xs) dep J_HTape_endOfForm (ia (tb_G L xs) dep J_HTape_endOfForm (rpI M Q)) := ia_St
  unfold f_HTape_endOfForm at h
  have l0 : im_lk (lv_args 0 [.ref 1]) 0 = some (.ref 1) := rfl
  refine iq_aload_n hS 1 J_HTape_endOfForm_d0 l0 rfl ?_
  refine iq_getR hS 4 J_HTape_endOfForm_d1 lf_10_31 (Or.inr ⟨_, rfl⟩) (ka_1 hM) (ra_1_8 hM) rfl ?_
  refine iq_iconst hS 5 J_HTape_endOfForm_d4 (v := 0) (by decide +kernel) rfl ?_
  obtain ⟨g5, h⟩ := ed_gd h
  refine iq_iaload hS 6 J_HTape_endOfForm_d5 ⟨(ka_8 hM).1, (ka_8 hM).2, g5.1, ix_lt (kl_8 hM) g5.2⟩ rfl ?_
  refine iq_istore_n hS 7 J_HTape_endOfForm_d6 (by decide) rfl ?_
  obtain ⟨Q1, hQ1, hR1, h⟩ := bs0_ed h
  have K1 : ∀  (L' : List (Nat × Value)), Q1 (.inl ()) → ia (tb_G L xs) dep J_HTape_endOfForm (rpI M Q) (67, L', [], M) := by
    intro  L'  h
    replace h := hQ1  h
    refine iq_iconst hS 68 J_HTape_endOfForm_d67 (v := (-1)) (by decide +kernel) rfl ?_
    exact iq_iret J_HTape_endOfForm_d68 rfl rfl ⟨_, rfl, rfl, ed_some h⟩
  obtain ⟨r1, hr1, hq1⟩ := h
  obtain ⟨n1, hn1⟩ := lp_n hr1
  have I1 : ∀ (n : Nat) (x2 : Int32) (L' : List (Nat × Value)), im_lk L' 0 = some (.ref 1) → im_lk L' 1 = some (.int x2) → lpn (uc1 (f_HTape_endOfForm_L7 M)) n x2 = some r1 → ia (tb_G L xs) dep J_HTape_endOfForm (rpI M Q) (7, L', [], M) := by
    intro n
    induction n with
    | zero => intro x2 L' l3 l4 hn; exact (lpn_0 hn).elim
    | succ n ih =>
      intro x2 L' l3 l4 hn
      have h := lpn_ed1 hn
      unfold f_HTape_endOfForm_L7 at h
      refine iq_iload_n hS 8 J_HTape_endOfForm_d7 l4 rfl ?_
      refine iq_iconst hS 9 J_HTape_endOfForm_d8 (v := 1) (by decide +kernel) rfl ?_
      refine iq_iadd hS 10 J_HTape_endOfForm_d9 rfl ?_
      refine iq_aload_n hS 11 J_HTape_endOfForm_d10 l3 rfl ?_
      refine iq_getI hS 14 J_HTape_endOfForm_d11 lf_10_40 (Or.inl rfl) (ka_1 hM) rfl ?_
      refine iq_icmp_ge hS 17 J_HTape_endOfForm_d14 (t := 67) rfl (fun q14 => ?_) rfl (fun q14 => ?_)
      · replace h := ed_pos q14 h
        exact K1  _  (lq_r h hq1)
      · replace h := ed_neg q14 h
        refine iq_aload_n hS 18 J_HTape_endOfForm_d17 l3 rfl ?_
        refine iq_getR hS 21 J_HTape_endOfForm_d18 lf_10_11 (Or.inr ⟨_, rfl⟩) (ka_1 hM) (ra_1_0 hM) rfl ?_
        refine iq_iload_n hS 22 J_HTape_endOfForm_d21 l4 rfl ?_
        obtain ⟨g22, h⟩ := ed_gd h
        refine iq_baload hS 23 J_HTape_endOfForm_d22 ⟨(ka_2 hM).1, (ka_2 hM).2, g22.1, ix_lt (kl_2 hM) g22.2⟩ rfl ?_
        refine iq_bipush hS 25 J_HTape_endOfForm_d23 (v := 94) (by decide +kernel) rfl ?_
        obtain ⟨k5, Q5, hQ5, hk5, h⟩ := jn0_ed h
        have J5 : ∀  (L' : List (Nat × Value)), im_lk L' 0 = some (.ref 1) → im_lk L' 1 = some (.int x2) → Q5 () → ia (tb_G L xs) dep J_HTape_endOfForm (rpI M Q) (61, L', [], M) := by
          intro  L' l6 l7 h
          replace h := hQ5  h
          refine iq_iincv hS 64 J_HTape_endOfForm_d61 (c := 1) (by decide +kernel) l7 (by decide) rfl ?_
          refine iq_goto hS J_HTape_endOfForm_d64 (t := 7) rfl ?_
          exact ih _ _ (lk_1r l6 (by decide)) lk_1s (lq_l h)
        refine iq_icmp_ne hS 28 J_HTape_endOfForm_d25 (t := 61) rfl (fun q25 => ?_) rfl (fun q25 => ?_)
        · replace h := ed_pos q25 h
          exact J5  _ l3 l4 (hk5  h)
        · replace h := ed_neg q25 h
          refine iq_aload_n hS 29 J_HTape_endOfForm_d28 l3 rfl ?_
          refine iq_getR hS 32 J_HTape_endOfForm_d29 lf_10_11 (Or.inr ⟨_, rfl⟩) (ka_1 hM) (ra_1_0 hM) rfl ?_
          refine iq_iload_n hS 33 J_HTape_endOfForm_d32 l4 rfl ?_
          refine iq_iconst hS 34 J_HTape_endOfForm_d33 (v := 1) (by decide +kernel) rfl ?_
          refine iq_iadd hS 35 J_HTape_endOfForm_d34 rfl ?_
          obtain ⟨g35, h⟩ := ed_gd h
          refine iq_baload hS 36 J_HTape_endOfForm_d35 ⟨(ka_2 hM).1, (ka_2 hM).2, g35.1, ix_lt (kl_2 hM) g35.2⟩ rfl ?_
          refine iq_bipush hS 38 J_HTape_endOfForm_d36 (v := 90) (by decide +kernel) rfl ?_
          refine iq_icmp_ne hS 41 J_HTape_endOfForm_d38 (t := 61) rfl (fun q38 => ?_) rfl (fun q38 => ?_)
          · replace h := ed_pos q38 h
            exact J5  _ l3 l4 (hk5  h)
          · replace h := ed_neg q38 h
            refine iq_iload_n hS 42 J_HTape_endOfForm_d41 l4 rfl ?_
            refine iq_aload_n hS 43 J_HTape_endOfForm_d42 l3 rfl ?_
            refine iq_getR hS 46 J_HTape_endOfForm_d43 lf_10_31 (Or.inr ⟨_, rfl⟩) (ka_1 hM) (ra_1_8 hM) rfl ?_
            refine iq_iconst hS 47 J_HTape_endOfForm_d46 (v := 0) (by decide +kernel) rfl ?_
            obtain ⟨g47, h⟩ := ed_gd h
            refine iq_iaload hS 48 J_HTape_endOfForm_d47 ⟨(ka_8 hM).1, (ka_8 hM).2, g47.1, ix_lt (kl_8 hM) g47.2⟩ rfl ?_
            refine iq_isub hS 49 J_HTape_endOfForm_d48 rfl ?_
            refine iq_sipush hS 52 J_HTape_endOfForm_d49 (v := 400) (by decide +kernel) rfl ?_
            refine iq_icmp_le hS 55 J_HTape_endOfForm_d52 (t := 59) rfl (fun q52 => ?_) rfl (fun q52 => ?_)
            · replace h := ed_pos q52 h
              refine iq_iload_n hS 60 J_HTape_endOfForm_d59 l4 rfl ?_
              exact iq_iret J_HTape_endOfForm_d60 rfl rfl ⟨_, rfl, rfl, ed_some (hR1 _ (lq_r h hq1))⟩
            · replace h := ed_neg q52 h
              refine iq_iconst hS 56 J_HTape_endOfForm_d55 (v := (-1)) (by decide +kernel) rfl ?_
              refine iq_goto hS J_HTape_endOfForm_d56 (t := 60) rfl ?_
              exact iq_iret J_HTape_endOfForm_d60 rfl rfl ⟨_, rfl, rfl, ed_some (hR1 _ (lq_r h hq1))⟩
  exact I1 n1 _ _ (lk_1r l0 (by decide)) lk_1s hn1
noncomputable def f_HField_endOfPiece_L2 (M3 : im_M) (x2 : Int32) : Option ((Int32) ⊕ ((Unit) ⊕ (Int32))) := if (im_i M3 23 8) ≤ x2 then some (.inr (.inl ())) else gd (inb x2 200) <| if ¬ (im_i M3 25 (Int32.toNatClampNeg x2)) = 10 then some (.inl (x2 + 1)) else some (.inr (.inr x2))
noncomputable def f_HField_endOfPiece (p0 : Int32) (M : im_M) : Option (Int32) := bs0 (lp (uc1 (f_HField_endOfPiece_L2 M)) p0) (fun (_ : Unit) => some (im_i M 23 8)) (fun t => some t)
theorem J_HField_endOfPiece_d0 : decode J_HField_endOfPiece.2.1 0 = .ok (.iload_n 1, 1) := by decide +kernel
theorem J_HField_endOfPiece_d1 : decode J_HField_endOfPiece.2.1 1 = .ok (.istore_n 2, 1) := by decide +kernel
theorem J_HField_endOfPiece_d2 : decode J_HField_endOfPiece.2.1 2 = .ok (.iload_n 2, 1) := by decide +kernel
theorem J_HField_endOfPiece_d3 : decode J_HField_endOfPiece.2.1 3 = .ok (.aload_n 0, 1) := by decide +kernel
theorem J_HField_endOfPiece_d4 : decode J_HField_endOfPiece.2.1 4 = .ok (.getfield 47, 3) := by decide +kernel
theorem J_HField_endOfPiece_d7 : decode J_HField_endOfPiece.2.1 7 = .ok (.if_icmp .ge 22, 3) := by decide +kernel
theorem J_HField_endOfPiece_d10 : decode J_HField_endOfPiece.2.1 10 = .ok (.aload_n 0, 1) := by decide +kernel
theorem J_HField_endOfPiece_d11 : decode J_HField_endOfPiece.2.1 11 = .ok (.getfield 17, 3) := by decide +kernel
theorem J_HField_endOfPiece_d14 : decode J_HField_endOfPiece.2.1 14 = .ok (.iload_n 2, 1) := by decide +kernel
theorem J_HField_endOfPiece_d15 : decode J_HField_endOfPiece.2.1 15 = .ok (.baload, 1) := by decide +kernel
theorem J_HField_endOfPiece_d16 : decode J_HField_endOfPiece.2.1 16 = .ok (.bipush 10, 2) := by decide +kernel
theorem J_HField_endOfPiece_d18 : decode J_HField_endOfPiece.2.1 18 = .ok (.if_icmp .ne 5, 3) := by decide +kernel
theorem J_HField_endOfPiece_d21 : decode J_HField_endOfPiece.2.1 21 = .ok (.iload_n 2, 1) := by decide +kernel
theorem J_HField_endOfPiece_d22 : decode J_HField_endOfPiece.2.1 22 = .ok (.ireturn, 1) := by decide +kernel
theorem J_HField_endOfPiece_d23 : decode J_HField_endOfPiece.2.1 23 = .ok (.iinc 2 1, 3) := by decide +kernel
theorem J_HField_endOfPiece_d26 : decode J_HField_endOfPiece.2.1 26 = .ok (.goto (-24), 3) := by decide +kernel
theorem J_HField_endOfPiece_d29 : decode J_HField_endOfPiece.2.1 29 = .ok (.aload_n 0, 1) := by decide +kernel
theorem J_HField_endOfPiece_d30 : decode J_HField_endOfPiece.2.1 30 = .ok (.getfield 47, 3) := by decide +kernel
theorem J_HField_endOfPiece_d33 : decode J_HField_endOfPiece.2.1 33 = .ok (.ireturn, 1) := by decide +kernel
theorem f_HField_endOfPiece_ok {L : Nat} {xs : Nat → Int32} {dep : Nat} {w : Bool} {p0 : Int32} {M : im_M} {Q : Int32 → Prop} (hM : lw_S w M) (h : ed (f_HField_endOfPiece p0 M) Q) : ia (tb_G L xs) dep J_HField_endOfPiece (rpI M Q) (0, lv_args 0 [.ref 23, .int p0], [], M) := by
  have hS : im_St (tb_G L xs) dep J_HField_endOfPiece (ia (tb_G L xs) dep J_HField_endOfPiece (rpI M Q)) := ia_St
  unfold f_HField_endOfPiece at h
  have l0 : im_lk (lv_args 0 [.ref 23, .int p0]) 0 = some (.ref 23) := rfl
  have l1 : im_lk (lv_args 0 [.ref 23, .int p0]) 1 = some (.int p0) := rfl
  refine iq_iload_n hS 1 J_HField_endOfPiece_d0 l1 rfl ?_
  refine iq_istore_n hS 2 J_HField_endOfPiece_d1 (by decide) rfl ?_
  obtain ⟨Q1, hQ1, hR1, h⟩ := bs0_ed h
  have K1 : ∀  (L' : List (Nat × Value)), im_lk L' 0 = some (.ref 23) → Q1 (.inl ()) → ia (tb_G L xs) dep J_HField_endOfPiece (rpI M Q) (29, L', [], M) := by
    intro  L' l2 h
    replace h := hQ1  h
    refine iq_aload_n hS 30 J_HField_endOfPiece_d29 l2 rfl ?_
    refine iq_getI hS 33 J_HField_endOfPiece_d30 lf_2_47 (Or.inl rfl) (ka_23 hM) rfl ?_
    exact iq_iret J_HField_endOfPiece_d33 rfl rfl ⟨_, rfl, rfl, ed_some h⟩
  obtain ⟨r1, hr1, hq1⟩ := h
  obtain ⟨n1, hn1⟩ := lp_n hr1
  have I1 : ∀ (n : Nat) (x3 : Int32) (L' : List (Nat × Value)), im_lk L' 0 = some (.ref 23) → im_lk L' 2 = some (.int x3) → lpn (uc1 (f_HField_endOfPiece_L2 M)) n x3 = some r1 → ia (tb_G L xs) dep J_HField_endOfPiece (rpI M Q) (2, L', [], M) := by
    intro n
    induction n with
    | zero => intro x3 L' l4 l5 hn; exact (lpn_0 hn).elim
    | succ n ih =>
      intro x3 L' l4 l5 hn
      have h := lpn_ed1 hn
      unfold f_HField_endOfPiece_L2 at h
      refine iq_iload_n hS 3 J_HField_endOfPiece_d2 l5 rfl ?_
      refine iq_aload_n hS 4 J_HField_endOfPiece_d3 l4 rfl ?_
      refine iq_getI hS 7 J_HField_endOfPiece_d4 lf_2_47 (Or.inl rfl) (ka_23 hM) rfl ?_
      refine iq_icmp_ge hS 10 J_HField_endOfPiece_d7 (t := 29) rfl (fun q7 => ?_) rfl (fun q7 => ?_)
      · replace h := ed_pos q7 h
        exact K1  _ l4 (lq_r h hq1)
      · replace h := ed_neg q7 h
        refine iq_aload_n hS 11 J_HField_endOfPiece_d10 l4 rfl ?_
        refine iq_getR hS 14 J_HField_endOfPiece_d11 lf_2_17 (Or.inr ⟨_, rfl⟩) (ka_23 hM) (ra_23_7 hM) rfl ?_
        refine iq_iload_n hS 15 J_HField_endOfPiece_d14 l5 rfl ?_
        obtain ⟨g15, h⟩ := ed_gd h
        refine iq_baload hS 16 J_HField_endOfPiece_d15 ⟨(ka_25 hM).1, (ka_25 hM).2, g15.1, ix_lt (kl_25 hM) g15.2⟩ rfl ?_
        refine iq_bipush hS 18 J_HField_endOfPiece_d16 (v := 10) (by decide +kernel) rfl ?_
        refine iq_icmp_ne hS 21 J_HField_endOfPiece_d18 (t := 23) rfl (fun q18 => ?_) rfl (fun q18 => ?_)
        · replace h := ed_pos q18 h
          refine iq_iincv hS 26 J_HField_endOfPiece_d23 (c := 1) (by decide +kernel) l5 (by decide) rfl ?_
          refine iq_goto hS J_HField_endOfPiece_d26 (t := 2) rfl ?_
          exact ih _ _ (lk_1r l4 (by decide)) lk_1s (lq_l h)
        · replace h := ed_neg q18 h
          refine iq_iload_n hS 22 J_HField_endOfPiece_d21 l5 rfl ?_
          exact iq_iret J_HField_endOfPiece_d22 rfl rfl ⟨_, rfl, rfl, ed_some (hR1 _ (lq_r h hq1))⟩
  exact I1 n1 _ _ (lk_1r l0 (by decide)) lk_1s hn1
noncomputable def f_HField_lastBlank_L2 (v2 : Int32) (M4 : im_M) (x3 : Int32) : Option ((Int32) ⊕ ((Unit) ⊕ (Int32))) := if x3 < v2 then some (.inr (.inl ())) else gd (inb x3 200) <| if ¬ (im_i M4 25 (Int32.toNatClampNeg x3)) = 32 then some (.inl (x3 + (-1))) else some (.inr (.inr x3))
noncomputable def f_HField_lastBlank (p0 : Int32) (p1 : Int32) (M : im_M) : Option (Int32) := bs0 (lp (uc1 (f_HField_lastBlank_L2 p0 M)) p1) (fun (_ : Unit) => some (-1)) (fun t => some t)
theorem J_HField_lastBlank_d0 : decode J_HField_lastBlank.2.1 0 = .ok (.iload_n 2, 1) := by decide +kernel
theorem J_HField_lastBlank_d1 : decode J_HField_lastBlank.2.1 1 = .ok (.istore_n 3, 1) := by decide +kernel
theorem J_HField_lastBlank_d2 : decode J_HField_lastBlank.2.1 2 = .ok (.iload_n 3, 1) := by decide +kernel
theorem J_HField_lastBlank_d3 : decode J_HField_lastBlank.2.1 3 = .ok (.iload_n 1, 1) := by decide +kernel
theorem J_HField_lastBlank_d4 : decode J_HField_lastBlank.2.1 4 = .ok (.if_icmp .lt 22, 3) := by decide +kernel
theorem J_HField_lastBlank_d7 : decode J_HField_lastBlank.2.1 7 = .ok (.aload_n 0, 1) := by decide +kernel
theorem J_HField_lastBlank_d8 : decode J_HField_lastBlank.2.1 8 = .ok (.getfield 17, 3) := by decide +kernel
theorem J_HField_lastBlank_d11 : decode J_HField_lastBlank.2.1 11 = .ok (.iload_n 3, 1) := by decide +kernel
theorem J_HField_lastBlank_d12 : decode J_HField_lastBlank.2.1 12 = .ok (.baload, 1) := by decide +kernel
theorem J_HField_lastBlank_d13 : decode J_HField_lastBlank.2.1 13 = .ok (.bipush 32, 2) := by decide +kernel
theorem J_HField_lastBlank_d15 : decode J_HField_lastBlank.2.1 15 = .ok (.if_icmp .ne 5, 3) := by decide +kernel
theorem J_HField_lastBlank_d18 : decode J_HField_lastBlank.2.1 18 = .ok (.iload_n 3, 1) := by decide +kernel
theorem J_HField_lastBlank_d19 : decode J_HField_lastBlank.2.1 19 = .ok (.ireturn, 1) := by decide +kernel
theorem J_HField_lastBlank_d20 : decode J_HField_lastBlank.2.1 20 = .ok (.iinc 3 (-1), 3) := by decide +kernel
theorem J_HField_lastBlank_d23 : decode J_HField_lastBlank.2.1 23 = .ok (.goto (-21), 3) := by decide +kernel
theorem J_HField_lastBlank_d26 : decode J_HField_lastBlank.2.1 26 = .ok (.iconst (-1), 1) := by decide +kernel
theorem J_HField_lastBlank_d27 : decode J_HField_lastBlank.2.1 27 = .ok (.ireturn, 1) := by decide +kernel
theorem f_HField_lastBlank_ok {L : Nat} {xs : Nat → Int32} {dep : Nat} {w : Bool} {p0 : Int32} {p1 : Int32} {M : im_M} {Q : Int32 → Prop} (hM : lw_S w M) (h : ed (f_HField_lastBlank p0 p1 M) Q) : ia (tb_G L xs) dep J_HField_lastBlank (rpI M Q) (0, lv_args 0 [.ref 23, .int p0, .int p1], [], M) := by
  have hS : im_St (tb_G L xs) dep J_HField_lastBlank (ia (tb_G L xs) dep J_HField_lastBlank (rpI M Q)) := ia_St
  unfold f_HField_lastBlank at h
  have l0 : im_lk (lv_args 0 [.ref 23, .int p0, .int p1]) 0 = some (.ref 23) := rfl
  have l1 : im_lk (lv_args 0 [.ref 23, .int p0, .int p1]) 1 = some (.int p0) := rfl
  have l2 : im_lk (lv_args 0 [.ref 23, .int p0, .int p1]) 2 = some (.int p1) := rfl
  refine iq_iload_n hS 1 J_HField_lastBlank_d0 l2 rfl ?_
  refine iq_istore_n hS 2 J_HField_lastBlank_d1 (by decide) rfl ?_
  obtain ⟨Q1, hQ1, hR1, h⟩ := bs0_ed h
  have K1 : ∀  (L' : List (Nat × Value)), Q1 (.inl ()) → ia (tb_G L xs) dep J_HField_lastBlank (rpI M Q) (26, L', [], M) := by
    intro  L'  h
    replace h := hQ1  h
    refine iq_iconst hS 27 J_HField_lastBlank_d26 (v := (-1)) (by decide +kernel) rfl ?_
    exact iq_iret J_HField_lastBlank_d27 rfl rfl ⟨_, rfl, rfl, ed_some h⟩
  obtain ⟨r1, hr1, hq1⟩ := h
  obtain ⟨n1, hn1⟩ := lp_n hr1
  have I1 : ∀ (n : Nat) (x2 : Int32) (L' : List (Nat × Value)), im_lk L' 0 = some (.ref 23) → im_lk L' 1 = some (.int p0) → im_lk L' 3 = some (.int x2) → lpn (uc1 (f_HField_lastBlank_L2 p0 M)) n x2 = some r1 → ia (tb_G L xs) dep J_HField_lastBlank (rpI M Q) (2, L', [], M) := by
    intro n
    induction n with
    | zero => intro x2 L' l3 l4 l5 hn; exact (lpn_0 hn).elim
    | succ n ih =>
      intro x2 L' l3 l4 l5 hn
      have h := lpn_ed1 hn
      unfold f_HField_lastBlank_L2 at h
      refine iq_iload_n hS 3 J_HField_lastBlank_d2 l5 rfl ?_
      refine iq_iload_n hS 4 J_HField_lastBlank_d3 l4 rfl ?_
      refine iq_icmp_lt hS 7 J_HField_lastBlank_d4 (t := 26) rfl (fun q4 => ?_) rfl (fun q4 => ?_)
      · replace h := ed_pos q4 h
        exact K1  _  (lq_r h hq1)
      · replace h := ed_neg q4 h
        refine iq_aload_n hS 8 J_HField_lastBlank_d7 l3 rfl ?_
        refine iq_getR hS 11 J_HField_lastBlank_d8 lf_2_17 (Or.inr ⟨_, rfl⟩) (ka_23 hM) (ra_23_7 hM) rfl ?_
        refine iq_iload_n hS 12 J_HField_lastBlank_d11 l5 rfl ?_
        obtain ⟨g12, h⟩ := ed_gd h
        refine iq_baload hS 13 J_HField_lastBlank_d12 ⟨(ka_25 hM).1, (ka_25 hM).2, g12.1, ix_lt (kl_25 hM) g12.2⟩ rfl ?_
        refine iq_bipush hS 15 J_HField_lastBlank_d13 (v := 32) (by decide +kernel) rfl ?_
        refine iq_icmp_ne hS 18 J_HField_lastBlank_d15 (t := 20) rfl (fun q15 => ?_) rfl (fun q15 => ?_)
        · replace h := ed_pos q15 h
          refine iq_iincv hS 23 J_HField_lastBlank_d20 (c := (-1)) (by decide +kernel) l5 (by decide) rfl ?_
          refine iq_goto hS J_HField_lastBlank_d23 (t := 2) rfl ?_
          exact ih _ _ (lk_1r l3 (by decide)) (lk_1i l4 (by decide)) lk_1s (lq_l h)
        · replace h := ed_neg q15 h
          refine iq_iload_n hS 19 J_HField_lastBlank_d18 l5 rfl ?_
          exact iq_iret J_HField_lastBlank_d19 rfl rfl ⟨_, rfl, rfl, ed_some (hR1 _ (lq_r h hq1))⟩
  exact I1 n1 _ _ (lk_1r l0 (by decide)) (lk_1i l1 (by decide)) lk_1s hn1
noncomputable def f_HField_addLine (p0 : Int32) (p1 : Int32) (M : im_M) : Option (im_M) := bd1 (if 20 ≤ (im_i M 23 9) then some M else gd (inb (im_i M 23 9) 20) <| gd (inb (im_i (im_setI M 26 (Int32.toNatClampNeg (im_i M 23 9)) p0) 23 9) 20) <| some (im_setI (im_setI M 26 (Int32.toNatClampNeg (im_i M 23 9)) p0) 27 (Int32.toNatClampNeg (im_i (im_setI M 26 (Int32.toNatClampNeg (im_i M 23 9)) p0) 23 9)) p1)) fun (M2 : im_M) => some (im_setI M2 23 9 ((im_i M2 23 9) + 1))
theorem J_HField_addLine_d0 : decode J_HField_addLine.2.1 0 = .ok (.aload_n 0, 1) := by decide +kernel
theorem J_HField_addLine_d1 : decode J_HField_addLine.2.1 1 = .ok (.getfield 105, 3) := by decide +kernel
theorem J_HField_addLine_d4 : decode J_HField_addLine.2.1 4 = .ok (.bipush 20, 2) := by decide +kernel
theorem J_HField_addLine_d6 : decode J_HField_addLine.2.1 6 = .ok (.if_icmp .ge 23, 3) := by decide +kernel
theorem J_HField_addLine_d9 : decode J_HField_addLine.2.1 9 = .ok (.aload_n 0, 1) := by decide +kernel
theorem J_HField_addLine_d10 : decode J_HField_addLine.2.1 10 = .ok (.getfield 21, 3) := by decide +kernel
theorem J_HField_addLine_d13 : decode J_HField_addLine.2.1 13 = .ok (.aload_n 0, 1) := by decide +kernel
theorem J_HField_addLine_d14 : decode J_HField_addLine.2.1 14 = .ok (.getfield 105, 3) := by decide +kernel
theorem J_HField_addLine_d17 : decode J_HField_addLine.2.1 17 = .ok (.iload_n 1, 1) := by decide +kernel
theorem J_HField_addLine_d18 : decode J_HField_addLine.2.1 18 = .ok (.iastore, 1) := by decide +kernel
theorem J_HField_addLine_d19 : decode J_HField_addLine.2.1 19 = .ok (.aload_n 0, 1) := by decide +kernel
theorem J_HField_addLine_d20 : decode J_HField_addLine.2.1 20 = .ok (.getfield 24, 3) := by decide +kernel
theorem J_HField_addLine_d23 : decode J_HField_addLine.2.1 23 = .ok (.aload_n 0, 1) := by decide +kernel
theorem J_HField_addLine_d24 : decode J_HField_addLine.2.1 24 = .ok (.getfield 105, 3) := by decide +kernel
theorem J_HField_addLine_d27 : decode J_HField_addLine.2.1 27 = .ok (.iload_n 2, 1) := by decide +kernel
theorem J_HField_addLine_d28 : decode J_HField_addLine.2.1 28 = .ok (.iastore, 1) := by decide +kernel
theorem J_HField_addLine_d29 : decode J_HField_addLine.2.1 29 = .ok (.aload_n 0, 1) := by decide +kernel
theorem J_HField_addLine_d30 : decode J_HField_addLine.2.1 30 = .ok (.dup, 1) := by decide +kernel
theorem J_HField_addLine_d31 : decode J_HField_addLine.2.1 31 = .ok (.getfield 105, 3) := by decide +kernel
theorem J_HField_addLine_d34 : decode J_HField_addLine.2.1 34 = .ok (.iconst 1, 1) := by decide +kernel
theorem J_HField_addLine_d35 : decode J_HField_addLine.2.1 35 = .ok (.iadd, 1) := by decide +kernel
theorem J_HField_addLine_d36 : decode J_HField_addLine.2.1 36 = .ok (.putfield 105, 3) := by decide +kernel
theorem J_HField_addLine_d39 : decode J_HField_addLine.2.1 39 = .ok (.return_, 1) := by decide +kernel
theorem f_HField_addLine_ok {L : Nat} {xs : Nat → Int32} {dep : Nat} {w : Bool} {p0 : Int32} {p1 : Int32} {M : im_M} {Q : im_M → Prop} (hM : lw_S w M) (h : ed (f_HField_addLine p0 p1 M) Q) : ia (tb_G L xs) dep J_HField_addLine (rwV w Q) (0, lv_args 0 [.ref 23, .int p0, .int p1], [], M) := by
  have hS : im_St (tb_G L xs) dep J_HField_addLine (ia (tb_G L xs) dep J_HField_addLine (rwV w Q)) := ia_St
  unfold f_HField_addLine at h
  have l0 : im_lk (lv_args 0 [.ref 23, .int p0, .int p1]) 0 = some (.ref 23) := rfl
  have l1 : im_lk (lv_args 0 [.ref 23, .int p0, .int p1]) 1 = some (.int p0) := rfl
  have l2 : im_lk (lv_args 0 [.ref 23, .int p0, .int p1]) 2 = some (.int p1) := rfl
  refine iq_aload_n hS 1 J_HField_addLine_d0 l0 rfl ?_
  refine iq_getI hS 4 J_HField_addLine_d1 lf_2_105 (Or.inl rfl) (ka_23 hM) rfl ?_
  refine iq_bipush hS 6 J_HField_addLine_d4 (v := 20) (by decide +kernel) rfl ?_
  obtain ⟨Q1, hQ1, h⟩ := bd1_ed h
  have J1 : ∀ (M2 : im_M) (L' : List (Nat × Value)), lw_S w M2 → im_lk L' 0 = some (.ref 23) → Q1 M2 → ia (tb_G L xs) dep J_HField_addLine (rwV w Q) (29, L', [], M2) := by
    intro M2 L' hM2 l3 h
    replace h := hQ1 _ h
    refine iq_aload_n hS 30 J_HField_addLine_d29 l3 rfl ?_
    refine iq_dup hS 31 J_HField_addLine_d30 rfl rfl ?_
    refine iq_getI hS 34 J_HField_addLine_d31 lf_2_105 (Or.inl rfl) (ka_23 hM2) rfl ?_
    refine iq_iconst hS 35 J_HField_addLine_d34 (v := 1) (by decide +kernel) rfl ?_
    refine iq_iadd hS 36 J_HField_addLine_d35 rfl ?_
    refine iq_putI hS 39 J_HField_addLine_d36 lf_2_105 (Or.inl rfl) rfl (ka_23 hM2) rfl ?_
    exact iq_ret J_HField_addLine_d39 rfl ⟨rfl, hM2, ed_some h⟩
  refine iq_icmp_ge hS 9 J_HField_addLine_d6 (t := 29) rfl (fun q6 => ?_) rfl (fun q6 => ?_)
  · replace h := ed_pos q6 h
    exact J1 _ _ hM l0 (ed_some h)
  · replace h := ed_neg q6 h
    refine iq_aload_n hS 10 J_HField_addLine_d9 l0 rfl ?_
    refine iq_getR hS 13 J_HField_addLine_d10 lf_2_21 (Or.inr ⟨_, rfl⟩) (ka_23 hM) (ra_23_10 hM) rfl ?_
    refine iq_aload_n hS 14 J_HField_addLine_d13 l0 rfl ?_
    refine iq_getI hS 17 J_HField_addLine_d14 lf_2_105 (Or.inl rfl) (ka_23 hM) rfl ?_
    refine iq_iload_n hS 18 J_HField_addLine_d17 l1 rfl ?_
    obtain ⟨g18, h⟩ := ed_gd h
    refine iq_iastore hS 19 J_HField_addLine_d18 ⟨(ka_26 hM).1, (ka_26 hM).2, g18.1, ix_lt (kl_26 hM) g18.2⟩ rfl ?_
    refine iq_aload_n hS 20 J_HField_addLine_d19 l0 rfl ?_
    refine iq_getR hS 23 J_HField_addLine_d20 lf_2_24 (Or.inr ⟨_, rfl⟩) (ka_23 hM) (ra_23_11 hM) rfl ?_
    refine iq_aload_n hS 24 J_HField_addLine_d23 l0 rfl ?_
    refine iq_getI hS 27 J_HField_addLine_d24 lf_2_105 (Or.inl rfl) (ka_23 hM) rfl ?_
    refine iq_iload_n hS 28 J_HField_addLine_d27 l2 rfl ?_
    obtain ⟨g28, h⟩ := ed_gd h
    refine iq_iastore hS 29 J_HField_addLine_d28 ⟨(ka_27 hM).1, (ka_27 hM).2, g28.1, ix_lt (kl_27 hM) g28.2⟩ rfl ?_
    exact J1 _ _ hM l0 (ed_some h)
noncomputable def f_HField_cutLines_L9 (x2 : Int32) (x3 : Int32) (M4 : im_M) : Option ((Int32 × Int32 × im_M) ⊕ (im_M)) := if ¬ (im_i M4 23 2) = 8 then some (.inr M4) else if 200 < x3 then some (.inr M4) else if (im_i M4 23 8) < x2 then some (.inr M4) else bd1 (f_HField_endOfPiece x2 M4) fun (x5 : Int32) => gd (inb 0 4) <| bd2 (if (x5 - x2) ≤ (im_i M4 24 (Int32.toNatClampNeg 0)) then some (x5, (x5 + 1)) else gd (inb 0 4) <| bd1 (f_HField_lastBlank x2 (x2 + (im_i M4 24 (Int32.toNatClampNeg 0))) M4) fun (x7 : Int32) => bd1 (if ¬ x7 = (-1) then some x7 else gd (inb 0 4) <| some (x2 + (im_i M4 24 (Int32.toNatClampNeg 0)))) fun (y9 : Int32) => some (y9, ((if ¬ x7 = (-1) then (x7 + 1) else y9) : Int32))) fun (y15 : Int32) (y16 : Int32) => bd1 (f_HField_addLine x2 (y15 - x2) M4) fun (M22 : im_M) => some (.inl (y16, (x3 + 1), M22))
noncomputable def f_HField_cutLines (M : im_M) : Option (im_M) := bd1 (lp (uc3 (f_HField_cutLines_L9)) (0, 0, (im_setI M 23 9 0))) fun (M23 : im_M) => some M23
theorem J_HField_cutLines_d0 : decode J_HField_cutLines.2.1 0 = .ok (.aload_n 0, 1) := by decide +kernel
theorem J_HField_cutLines_d1 : decode J_HField_cutLines.2.1 1 = .ok (.iconst 0, 1) := by decide +kernel
theorem J_HField_cutLines_d2 : decode J_HField_cutLines.2.1 2 = .ok (.putfield 105, 3) := by decide +kernel
theorem J_HField_cutLines_d5 : decode J_HField_cutLines.2.1 5 = .ok (.iconst 0, 1) := by decide +kernel
theorem J_HField_cutLines_d6 : decode J_HField_cutLines.2.1 6 = .ok (.istore_n 1, 1) := by decide +kernel
theorem J_HField_cutLines_d7 : decode J_HField_cutLines.2.1 7 = .ok (.iconst 0, 1) := by decide +kernel
theorem J_HField_cutLines_d8 : decode J_HField_cutLines.2.1 8 = .ok (.istore_n 2, 1) := by decide +kernel
theorem J_HField_cutLines_d9 : decode J_HField_cutLines.2.1 9 = .ok (.aload_n 0, 1) := by decide +kernel
theorem J_HField_cutLines_d10 : decode J_HField_cutLines.2.1 10 = .ok (.getfield 34, 3) := by decide +kernel
theorem J_HField_cutLines_d13 : decode J_HField_cutLines.2.1 13 = .ok (.bipush 8, 2) := by decide +kernel
theorem J_HField_cutLines_d15 : decode J_HField_cutLines.2.1 15 = .ok (.if_icmp .ne 109, 3) := by decide +kernel
theorem J_HField_cutLines_d18 : decode J_HField_cutLines.2.1 18 = .ok (.iload_n 2, 1) := by decide +kernel
theorem J_HField_cutLines_d19 : decode J_HField_cutLines.2.1 19 = .ok (.sipush 200, 3) := by decide +kernel
theorem J_HField_cutLines_d22 : decode J_HField_cutLines.2.1 22 = .ok (.if_icmp .gt 102, 3) := by decide +kernel
theorem J_HField_cutLines_d25 : decode J_HField_cutLines.2.1 25 = .ok (.iload_n 1, 1) := by decide +kernel
theorem J_HField_cutLines_d26 : decode J_HField_cutLines.2.1 26 = .ok (.aload_n 0, 1) := by decide +kernel
theorem J_HField_cutLines_d27 : decode J_HField_cutLines.2.1 27 = .ok (.getfield 47, 3) := by decide +kernel
theorem J_HField_cutLines_d30 : decode J_HField_cutLines.2.1 30 = .ok (.if_icmp .gt 94, 3) := by decide +kernel
theorem J_HField_cutLines_d33 : decode J_HField_cutLines.2.1 33 = .ok (.aload_n 0, 1) := by decide +kernel
theorem J_HField_cutLines_d34 : decode J_HField_cutLines.2.1 34 = .ok (.iload_n 1, 1) := by decide +kernel
theorem J_HField_cutLines_d35 : decode J_HField_cutLines.2.1 35 = .ok (.invokevirtual 108, 3) := by decide +kernel
theorem J_HField_cutLines_d38 : decode J_HField_cutLines.2.1 38 = .ok (.istore_n 3, 1) := by decide +kernel
theorem J_HField_cutLines_d39 : decode J_HField_cutLines.2.1 39 = .ok (.iload_n 3, 1) := by decide +kernel
theorem J_HField_cutLines_d40 : decode J_HField_cutLines.2.1 40 = .ok (.iconst 1, 1) := by decide +kernel
theorem J_HField_cutLines_d41 : decode J_HField_cutLines.2.1 41 = .ok (.iadd, 1) := by decide +kernel
theorem J_HField_cutLines_d42 : decode J_HField_cutLines.2.1 42 = .ok (.istore 4, 2) := by decide +kernel
theorem J_HField_cutLines_d44 : decode J_HField_cutLines.2.1 44 = .ok (.iload_n 3, 1) := by decide +kernel
theorem J_HField_cutLines_d45 : decode J_HField_cutLines.2.1 45 = .ok (.iload_n 1, 1) := by decide +kernel
theorem J_HField_cutLines_d46 : decode J_HField_cutLines.2.1 46 = .ok (.isub, 1) := by decide +kernel
theorem J_HField_cutLines_d47 : decode J_HField_cutLines.2.1 47 = .ok (.aload_n 0, 1) := by decide +kernel
theorem J_HField_cutLines_d48 : decode J_HField_cutLines.2.1 48 = .ok (.getfield 9, 3) := by decide +kernel
theorem J_HField_cutLines_d51 : decode J_HField_cutLines.2.1 51 = .ok (.iconst 0, 1) := by decide +kernel
theorem J_HField_cutLines_d52 : decode J_HField_cutLines.2.1 52 = .ok (.iaload, 1) := by decide +kernel
theorem J_HField_cutLines_d53 : decode J_HField_cutLines.2.1 53 = .ok (.if_icmp .le 54, 3) := by decide +kernel
theorem J_HField_cutLines_d56 : decode J_HField_cutLines.2.1 56 = .ok (.aload_n 0, 1) := by decide +kernel
theorem J_HField_cutLines_d57 : decode J_HField_cutLines.2.1 57 = .ok (.iload_n 1, 1) := by decide +kernel
theorem J_HField_cutLines_d58 : decode J_HField_cutLines.2.1 58 = .ok (.iload_n 1, 1) := by decide +kernel
theorem J_HField_cutLines_d59 : decode J_HField_cutLines.2.1 59 = .ok (.aload_n 0, 1) := by decide +kernel
theorem J_HField_cutLines_d60 : decode J_HField_cutLines.2.1 60 = .ok (.getfield 9, 3) := by decide +kernel
theorem J_HField_cutLines_d63 : decode J_HField_cutLines.2.1 63 = .ok (.iconst 0, 1) := by decide +kernel
theorem J_HField_cutLines_d64 : decode J_HField_cutLines.2.1 64 = .ok (.iaload, 1) := by decide +kernel
theorem J_HField_cutLines_d65 : decode J_HField_cutLines.2.1 65 = .ok (.iadd, 1) := by decide +kernel
theorem J_HField_cutLines_d66 : decode J_HField_cutLines.2.1 66 = .ok (.invokevirtual 111, 3) := by decide +kernel
theorem J_HField_cutLines_d69 : decode J_HField_cutLines.2.1 69 = .ok (.istore 5, 2) := by decide +kernel
theorem J_HField_cutLines_d71 : decode J_HField_cutLines.2.1 71 = .ok (.iload 5, 2) := by decide +kernel
theorem J_HField_cutLines_d73 : decode J_HField_cutLines.2.1 73 = .ok (.iconst (-1), 1) := by decide +kernel
theorem J_HField_cutLines_d74 : decode J_HField_cutLines.2.1 74 = .ok (.if_icmp .ne 14, 3) := by decide +kernel
theorem J_HField_cutLines_d77 : decode J_HField_cutLines.2.1 77 = .ok (.iload_n 1, 1) := by decide +kernel
theorem J_HField_cutLines_d78 : decode J_HField_cutLines.2.1 78 = .ok (.aload_n 0, 1) := by decide +kernel
theorem J_HField_cutLines_d79 : decode J_HField_cutLines.2.1 79 = .ok (.getfield 9, 3) := by decide +kernel
theorem J_HField_cutLines_d82 : decode J_HField_cutLines.2.1 82 = .ok (.iconst 0, 1) := by decide +kernel
theorem J_HField_cutLines_d83 : decode J_HField_cutLines.2.1 83 = .ok (.iaload, 1) := by decide +kernel
theorem J_HField_cutLines_d84 : decode J_HField_cutLines.2.1 84 = .ok (.iadd, 1) := by decide +kernel
theorem J_HField_cutLines_d85 : decode J_HField_cutLines.2.1 85 = .ok (.goto 5, 3) := by decide +kernel
theorem J_HField_cutLines_d88 : decode J_HField_cutLines.2.1 88 = .ok (.iload 5, 2) := by decide +kernel
theorem J_HField_cutLines_d90 : decode J_HField_cutLines.2.1 90 = .ok (.istore_n 3, 1) := by decide +kernel
theorem J_HField_cutLines_d91 : decode J_HField_cutLines.2.1 91 = .ok (.iload 5, 2) := by decide +kernel
theorem J_HField_cutLines_d93 : decode J_HField_cutLines.2.1 93 = .ok (.iconst (-1), 1) := by decide +kernel
theorem J_HField_cutLines_d94 : decode J_HField_cutLines.2.1 94 = .ok (.if_icmp .ne 7, 3) := by decide +kernel
theorem J_HField_cutLines_d97 : decode J_HField_cutLines.2.1 97 = .ok (.iload_n 3, 1) := by decide +kernel
theorem J_HField_cutLines_d98 : decode J_HField_cutLines.2.1 98 = .ok (.goto 7, 3) := by decide +kernel
theorem J_HField_cutLines_d101 : decode J_HField_cutLines.2.1 101 = .ok (.iload 5, 2) := by decide +kernel
theorem J_HField_cutLines_d103 : decode J_HField_cutLines.2.1 103 = .ok (.iconst 1, 1) := by decide +kernel
theorem J_HField_cutLines_d104 : decode J_HField_cutLines.2.1 104 = .ok (.iadd, 1) := by decide +kernel
theorem J_HField_cutLines_d105 : decode J_HField_cutLines.2.1 105 = .ok (.istore 4, 2) := by decide +kernel
theorem J_HField_cutLines_d107 : decode J_HField_cutLines.2.1 107 = .ok (.aload_n 0, 1) := by decide +kernel
theorem J_HField_cutLines_d108 : decode J_HField_cutLines.2.1 108 = .ok (.iload_n 1, 1) := by decide +kernel
theorem J_HField_cutLines_d109 : decode J_HField_cutLines.2.1 109 = .ok (.iload_n 3, 1) := by decide +kernel
theorem J_HField_cutLines_d110 : decode J_HField_cutLines.2.1 110 = .ok (.iload_n 1, 1) := by decide +kernel
theorem J_HField_cutLines_d111 : decode J_HField_cutLines.2.1 111 = .ok (.isub, 1) := by decide +kernel
theorem J_HField_cutLines_d112 : decode J_HField_cutLines.2.1 112 = .ok (.invokevirtual 115, 3) := by decide +kernel
theorem J_HField_cutLines_d115 : decode J_HField_cutLines.2.1 115 = .ok (.iload 4, 2) := by decide +kernel
theorem J_HField_cutLines_d117 : decode J_HField_cutLines.2.1 117 = .ok (.istore_n 1, 1) := by decide +kernel
theorem J_HField_cutLines_d118 : decode J_HField_cutLines.2.1 118 = .ok (.iinc 2 1, 3) := by decide +kernel
theorem J_HField_cutLines_d121 : decode J_HField_cutLines.2.1 121 = .ok (.goto (-112), 3) := by decide +kernel
theorem J_HField_cutLines_d124 : decode J_HField_cutLines.2.1 124 = .ok (.return_, 1) := by decide +kernel
theorem f_HField_cutLines_ok {L : Nat} {xs : Nat → Int32} {dep : Nat} {w : Bool} {M : im_M} {Q : im_M → Prop} (hM : lw_S w M) (h : ed (f_HField_cutLines M) Q) : ia (tb_G L xs) (dep + 1) J_HField_cutLines (rwV w Q) (0, lv_args 0 [.ref 23], [], M) := by
  have hS : im_St (tb_G L xs) (dep + 1) J_HField_cutLines (ia (tb_G L xs) (dep + 1) J_HField_cutLines (rwV w Q)) := ia_St
  unfold f_HField_cutLines at h
  have l0 : im_lk (lv_args 0 [.ref 23]) 0 = some (.ref 23) := rfl
  refine iq_aload_n hS 1 J_HField_cutLines_d0 l0 rfl ?_
  refine iq_iconst hS 2 J_HField_cutLines_d1 (v := 0) (by decide +kernel) rfl ?_
  refine iq_putI hS 5 J_HField_cutLines_d2 lf_2_105 (Or.inl rfl) rfl (ka_23 hM) rfl ?_
  refine iq_iconst hS 6 J_HField_cutLines_d5 (v := 0) (by decide +kernel) rfl ?_
  refine iq_istore_n hS 7 J_HField_cutLines_d6 (by decide) rfl ?_
  refine iq_iconst hS 8 J_HField_cutLines_d7 (v := 0) (by decide +kernel) rfl ?_
  refine iq_istore_n hS 9 J_HField_cutLines_d8 (by decide) rfl ?_
  obtain ⟨Q1, hQ1, h⟩ := bd1_ed h
  have K1 : ∀ (M2 : im_M) (L' : List (Nat × Value)), lw_S w M2 → Q1 M2 → ia (tb_G L xs) (dep + 1) J_HField_cutLines (rwV w Q) (124, L', [], M2) := by
    intro M2 L' hM2  h
    replace h := hQ1 _ h
    exact iq_ret J_HField_cutLines_d124 rfl ⟨rfl, hM2, ed_some h⟩
  obtain ⟨r1, hr1, hq1⟩ := h
  obtain ⟨n1, hn1⟩ := lp_n hr1
  have I1 : ∀ (n : Nat) (x3 : Int32) (x4 : Int32) (M5 : im_M) (L' : List (Nat × Value)), lw_S w M5 → im_lk L' 0 = some (.ref 23) → im_lk L' 1 = some (.int x3) → im_lk L' 2 = some (.int x4) → lpn (uc3 (f_HField_cutLines_L9)) n (x3, x4, M5) = some r1 → ia (tb_G L xs) (dep + 1) J_HField_cutLines (rwV w Q) (9, L', [], M5) := by
    intro n
    induction n with
    | zero => intro x3 x4 M5 L' hM5 l6 l7 l8 hn; exact (lpn_0 hn).elim
    | succ n ih =>
      intro x3 x4 M5 L' hM5 l6 l7 l8 hn
      have h := lpn_ed3 hn
      unfold f_HField_cutLines_L9 at h
      refine iq_aload_n hS 10 J_HField_cutLines_d9 l6 rfl ?_
      refine iq_getI hS 13 J_HField_cutLines_d10 lf_2_34 (Or.inl rfl) (ka_23 hM5) rfl ?_
      refine iq_bipush hS 15 J_HField_cutLines_d13 (v := 8) (by decide +kernel) rfl ?_
      refine iq_icmp_ne hS 18 J_HField_cutLines_d15 (t := 124) rfl (fun q15 => ?_) rfl (fun q15 => ?_)
      · replace h := ed_pos q15 h
        exact K1 _ _ hM5  (lq_r h hq1)
      · replace h := ed_neg q15 h
        refine iq_iload_n hS 19 J_HField_cutLines_d18 l8 rfl ?_
        refine iq_sipush hS 22 J_HField_cutLines_d19 (v := 200) (by decide +kernel) rfl ?_
        refine iq_icmp_gt hS 25 J_HField_cutLines_d22 (t := 124) rfl (fun q22 => ?_) rfl (fun q22 => ?_)
        · replace h := ed_pos q22 h
          exact K1 _ _ hM5  (lq_r h hq1)
        · replace h := ed_neg q22 h
          refine iq_iload_n hS 26 J_HField_cutLines_d25 l7 rfl ?_
          refine iq_aload_n hS 27 J_HField_cutLines_d26 l6 rfl ?_
          refine iq_getI hS 30 J_HField_cutLines_d27 lf_2_47 (Or.inl rfl) (ka_23 hM5) rfl ?_
          refine iq_icmp_gt hS 33 J_HField_cutLines_d30 (t := 124) rfl (fun q30 => ?_) rfl (fun q30 => ?_)
          · replace h := ed_pos q30 h
            exact K1 _ _ hM5  (lq_r h hq1)
          · replace h := ed_neg q30 h
            refine iq_aload_n hS 34 J_HField_cutLines_d33 l6 rfl ?_
            refine iq_iload_n hS 35 J_HField_cutLines_d34 l7 rfl ?_
            obtain ⟨Q9, hQ9, h⟩ := bd1_ed h
            refine iq_cpI hS 38 J_HField_cutLines_d35 rfl (pr_inst (vs := [_]) lc_2_108 lT_44 rfl rfl (by decide) (by decide) rfl (Nat.le_of_ble_eq_true rfl) (Nat.le_of_ble_eq_true rfl) (fun _ => Or.inl (pr_b (ka_23 hM5) (by decide) rfl))) (f_HField_endOfPiece_ok (dep := dep + 0) hM5 h) rfl ?_
            intro x9 h
            replace h := hQ9 _ h
            refine iq_istore_n hS 39 J_HField_cutLines_d38 (by decide) rfl ?_
            refine iq_iload_n hS 40 J_HField_cutLines_d39 lk_1s rfl ?_
            refine iq_iconst hS 41 J_HField_cutLines_d40 (v := 1) (by decide +kernel) rfl ?_
            refine iq_iadd hS 42 J_HField_cutLines_d41 rfl ?_
            refine iq_istore hS 44 J_HField_cutLines_d42 (by decide) rfl ?_
            refine iq_iload_n hS 45 J_HField_cutLines_d44 (lk_1i lk_1s (by decide)) rfl ?_
            refine iq_iload_n hS 46 J_HField_cutLines_d45 (lk_1i (lk_1i l7 (by decide)) (by decide)) rfl ?_
            refine iq_isub hS 47 J_HField_cutLines_d46 rfl ?_
            refine iq_aload_n hS 48 J_HField_cutLines_d47 (lk_1r (lk_1r l6 (by decide)) (by decide)) rfl ?_
            refine iq_getR hS 51 J_HField_cutLines_d48 lf_2_9 (Or.inr ⟨_, rfl⟩) (ka_23 hM5) (ra_23_3 hM5) rfl ?_
            refine iq_iconst hS 52 J_HField_cutLines_d51 (v := 0) (by decide +kernel) rfl ?_
            obtain ⟨g52, h⟩ := ed_gd h
            refine iq_iaload hS 53 J_HField_cutLines_d52 ⟨(ka_24 hM5).1, (ka_24 hM5).2, g52.1, ix_lt (kl_24 hM5) g52.2⟩ rfl ?_
            obtain ⟨Q10, hQ10, h⟩ := bd2_ed h
            have J10 : ∀ (y25 : Int32) (y26 : Int32) (L' : List (Nat × Value)), im_lk L' 0 = some (.ref 23) → im_lk L' 1 = some (.int x3) → im_lk L' 2 = some (.int x4) → im_lk L' 3 = some (.int y25) → im_lk L' 4 = some (.int y26) → Q10 (y25, y26) → ia (tb_G L xs) (dep + 1) J_HField_cutLines (rwV w Q) (107, L', [], M5) := by
              intro y25 y26 L' l27 l28 l29 l30 l31 h
              replace h := hQ10 _ _ h
              refine iq_aload_n hS 108 J_HField_cutLines_d107 l27 rfl ?_
              refine iq_iload_n hS 109 J_HField_cutLines_d108 l28 rfl ?_
              refine iq_iload_n hS 110 J_HField_cutLines_d109 l30 rfl ?_
              refine iq_iload_n hS 111 J_HField_cutLines_d110 l28 rfl ?_
              refine iq_isub hS 112 J_HField_cutLines_d111 rfl ?_
              obtain ⟨Q32, hQ32, h⟩ := bd1_ed h
              refine iq_cwV hS 115 J_HField_cutLines_d112 rfl (pr_inst (vs := [_, _]) lc_2_115 lT_46 rfl rfl (by decide) (by decide) rfl (Nat.le_of_ble_eq_true rfl) (Nat.le_of_ble_eq_true rfl) (fun _ => Or.inl (pr_b (ka_23 hM5) (by decide) rfl))) (f_HField_addLine_ok (dep := dep + 0) hM5 h) rfl ?_
              intro M32 hM32 h
              replace h := hQ32 _ h
              refine iq_iload hS 117 J_HField_cutLines_d115 l31 rfl ?_
              refine iq_istore_n hS 118 J_HField_cutLines_d117 (by decide) rfl ?_
              refine iq_iincv hS 121 J_HField_cutLines_d118 (c := 1) (by decide +kernel) (lk_1i l29 (by decide)) (by decide) rfl ?_
              refine iq_goto hS J_HField_cutLines_d121 (t := 9) rfl ?_
              exact ih _ _ _ _ hM32 (lk_1r (lk_1r l27 (by decide)) (by decide)) (lk_1i lk_1s (by decide)) lk_1s (lq_l h)
            refine iq_icmp_le hS 56 J_HField_cutLines_d53 (t := 107) rfl (fun q53 => ?_) rfl (fun q53 => ?_)
            · replace h := ed_pos q53 h
              exact J10 _ _ _ (lk_1r (lk_1r l6 (by decide)) (by decide)) (lk_1i (lk_1i l7 (by decide)) (by decide)) (lk_1i (lk_1i l8 (by decide)) (by decide)) (lk_1i lk_1s (by decide)) lk_1s (ed_some h)
            · replace h := ed_neg q53 h
              refine iq_aload_n hS 57 J_HField_cutLines_d56 (lk_1r (lk_1r l6 (by decide)) (by decide)) rfl ?_
              refine iq_iload_n hS 58 J_HField_cutLines_d57 (lk_1i (lk_1i l7 (by decide)) (by decide)) rfl ?_
              refine iq_iload_n hS 59 J_HField_cutLines_d58 (lk_1i (lk_1i l7 (by decide)) (by decide)) rfl ?_
              refine iq_aload_n hS 60 J_HField_cutLines_d59 (lk_1r (lk_1r l6 (by decide)) (by decide)) rfl ?_
              refine iq_getR hS 63 J_HField_cutLines_d60 lf_2_9 (Or.inr ⟨_, rfl⟩) (ka_23 hM5) (ra_23_3 hM5) rfl ?_
              refine iq_iconst hS 64 J_HField_cutLines_d63 (v := 0) (by decide +kernel) rfl ?_
              obtain ⟨g64, h⟩ := ed_gd h
              refine iq_iaload hS 65 J_HField_cutLines_d64 ⟨(ka_24 hM5).1, (ka_24 hM5).2, g64.1, ix_lt (kl_24 hM5) g64.2⟩ rfl ?_
              refine iq_iadd hS 66 J_HField_cutLines_d65 rfl ?_
              obtain ⟨Q11, hQ11, h⟩ := bd1_ed h
              refine iq_cpI hS 69 J_HField_cutLines_d66 rfl (pr_inst (vs := [_, _]) lc_2_111 lT_45 rfl rfl (by decide) (by decide) rfl (Nat.le_of_ble_eq_true rfl) (Nat.le_of_ble_eq_true rfl) (fun _ => Or.inl (pr_b (ka_23 hM5) (by decide) rfl))) (f_HField_lastBlank_ok (dep := dep + 0) hM5 h) rfl ?_
              intro x11 h
              replace h := hQ11 _ h
              refine iq_istore hS 71 J_HField_cutLines_d69 (by decide) rfl ?_
              refine iq_iload hS 73 J_HField_cutLines_d71 lk_1s rfl ?_
              refine iq_iconst hS 74 J_HField_cutLines_d73 (v := (-1)) (by decide +kernel) rfl ?_
              obtain ⟨Q12, hQ12, h⟩ := bd1_ed h
              have J12 : ∀ (y13 : Int32) (L' : List (Nat × Value)), im_lk L' 0 = some (.ref 23) → im_lk L' 1 = some (.int x3) → im_lk L' 2 = some (.int x4) → im_lk L' 5 = some (.int x11) → Q12 y13 → ia (tb_G L xs) (dep + 1) J_HField_cutLines (rwV w Q) (90, L', [.int y13], M5) := by
                intro y13 L' l14 l15 l16 l17 h
                replace h := hQ12 _ h
                refine iq_istore_n hS 91 J_HField_cutLines_d90 (by decide) rfl ?_
                refine iq_iload hS 93 J_HField_cutLines_d91 (lk_1i l17 (by decide)) rfl ?_
                refine iq_iconst hS 94 J_HField_cutLines_d93 (v := (-1)) (by decide +kernel) rfl ?_
                have J18 : ∀ (z19 : Int32) (L' : List (Nat × Value)), z19 = ((if ¬ x11 = (-1) then (x11 + 1) else y13) : Int32) → im_lk L' 0 = some (.ref 23) → im_lk L' 1 = some (.int x3) → im_lk L' 2 = some (.int x4) → im_lk L' 3 = some (.int y13) → ia (tb_G L xs) (dep + 1) J_HField_cutLines (rwV w Q) (105, L', [.int z19], M5) := by
                  intro z19 L' e20 l21 l22 l23 l24
                  subst e20
                  refine iq_istore hS 107 J_HField_cutLines_d105 (by decide) rfl ?_
                  exact J10 _ _ _ (lk_1r l21 (by decide)) (lk_1i l22 (by decide)) (lk_1i l23 (by decide)) (lk_1i l24 (by decide)) lk_1s (ed_some h)
                refine iq_icmp_ne hS 97 J_HField_cutLines_d94 (t := 101) rfl (fun q94 => ?_) rfl (fun q94 => ?_)
                · refine iq_iload hS 103 J_HField_cutLines_d101 (lk_1i l17 (by decide)) rfl ?_
                  refine iq_iconst hS 104 J_HField_cutLines_d103 (v := 1) (by decide +kernel) rfl ?_
                  refine iq_iadd hS 105 J_HField_cutLines_d104 rfl ?_
                  exact J18 _ _ (by rw [if_pos q94]) (lk_1r l14 (by decide)) (lk_1i l15 (by decide)) (lk_1i l16 (by decide)) lk_1s
                · refine iq_iload_n hS 98 J_HField_cutLines_d97 lk_1s rfl ?_
                  refine iq_goto hS J_HField_cutLines_d98 (t := 105) rfl ?_
                  exact J18 _ _ (by rw [if_neg q94]) (lk_1r l14 (by decide)) (lk_1i l15 (by decide)) (lk_1i l16 (by decide)) lk_1s
              refine iq_icmp_ne hS 77 J_HField_cutLines_d74 (t := 88) rfl (fun q74 => ?_) rfl (fun q74 => ?_)
              · replace h := ed_pos q74 h
                refine iq_iload hS 90 J_HField_cutLines_d88 lk_1s rfl ?_
                exact J12 _ _ (lk_1r (lk_1r (lk_1r l6 (by decide)) (by decide)) (by decide)) (lk_1i (lk_1i (lk_1i l7 (by decide)) (by decide)) (by decide)) (lk_1i (lk_1i (lk_1i l8 (by decide)) (by decide)) (by decide)) lk_1s (ed_some h)
              · replace h := ed_neg q74 h
                refine iq_iload_n hS 78 J_HField_cutLines_d77 (lk_1i (lk_1i (lk_1i l7 (by decide)) (by decide)) (by decide)) rfl ?_
                refine iq_aload_n hS 79 J_HField_cutLines_d78 (lk_1r (lk_1r (lk_1r l6 (by decide)) (by decide)) (by decide)) rfl ?_
                refine iq_getR hS 82 J_HField_cutLines_d79 lf_2_9 (Or.inr ⟨_, rfl⟩) (ka_23 hM5) (ra_23_3 hM5) rfl ?_
                refine iq_iconst hS 83 J_HField_cutLines_d82 (v := 0) (by decide +kernel) rfl ?_
                obtain ⟨g83, h⟩ := ed_gd h
                refine iq_iaload hS 84 J_HField_cutLines_d83 ⟨(ka_24 hM5).1, (ka_24 hM5).2, g83.1, ix_lt (kl_24 hM5) g83.2⟩ rfl ?_
                refine iq_iadd hS 85 J_HField_cutLines_d84 rfl ?_
                refine iq_goto hS J_HField_cutLines_d85 (t := 90) rfl ?_
                exact J12 _ _ (lk_1r (lk_1r (lk_1r l6 (by decide)) (by decide)) (by decide)) (lk_1i (lk_1i (lk_1i l7 (by decide)) (by decide)) (by decide)) (lk_1i (lk_1i (lk_1i l8 (by decide)) (by decide)) (by decide)) lk_1s (ed_some h)
  exact I1 n1 _ _ _ _ hM (lk_1r (lk_1r l0 (by decide)) (by decide)) (lk_1i lk_1s (by decide)) lk_1s hn1
noncomputable def f_HField_allDigits_L2 (M3 : im_M) (x2 : Int32) : Option ((Int32) ⊕ ((Unit) ⊕ (Int32))) := if (im_i M3 23 8) ≤ x2 then some (.inr (.inl ())) else gd (inb x2 200) <| bd1 (f_HTape_isDigit (im_i M3 25 (Int32.toNatClampNeg x2)) M3) fun (x4 : Int32) => if ¬ x4 = 0 then some (.inl (x2 + 1)) else some (.inr (.inr 0))
noncomputable def f_HField_allDigits (M : im_M) : Option (Int32) := bs0 (lp (uc1 (f_HField_allDigits_L2 M)) 0) (fun (_ : Unit) => some 1) (fun t => some t)
theorem J_HField_allDigits_d0 : decode J_HField_allDigits.2.1 0 = .ok (.iconst 0, 1) := by decide +kernel
theorem J_HField_allDigits_d1 : decode J_HField_allDigits.2.1 1 = .ok (.istore_n 1, 1) := by decide +kernel
theorem J_HField_allDigits_d2 : decode J_HField_allDigits.2.1 2 = .ok (.iload_n 1, 1) := by decide +kernel
theorem J_HField_allDigits_d3 : decode J_HField_allDigits.2.1 3 = .ok (.aload_n 0, 1) := by decide +kernel
theorem J_HField_allDigits_d4 : decode J_HField_allDigits.2.1 4 = .ok (.getfield 47, 3) := by decide +kernel
theorem J_HField_allDigits_d7 : decode J_HField_allDigits.2.1 7 = .ok (.if_icmp .ge 23, 3) := by decide +kernel
theorem J_HField_allDigits_d10 : decode J_HField_allDigits.2.1 10 = .ok (.aload_n 0, 1) := by decide +kernel
theorem J_HField_allDigits_d11 : decode J_HField_allDigits.2.1 11 = .ok (.getfield 17, 3) := by decide +kernel
theorem J_HField_allDigits_d14 : decode J_HField_allDigits.2.1 14 = .ok (.iload_n 1, 1) := by decide +kernel
theorem J_HField_allDigits_d15 : decode J_HField_allDigits.2.1 15 = .ok (.baload, 1) := by decide +kernel
theorem J_HField_allDigits_d16 : decode J_HField_allDigits.2.1 16 = .ok (.invokestatic 56, 3) := by decide +kernel
theorem J_HField_allDigits_d19 : decode J_HField_allDigits.2.1 19 = .ok (.ifCond .ne 5, 3) := by decide +kernel
theorem J_HField_allDigits_d22 : decode J_HField_allDigits.2.1 22 = .ok (.iconst 0, 1) := by decide +kernel
theorem J_HField_allDigits_d23 : decode J_HField_allDigits.2.1 23 = .ok (.ireturn, 1) := by decide +kernel
theorem J_HField_allDigits_d24 : decode J_HField_allDigits.2.1 24 = .ok (.iinc 1 1, 3) := by decide +kernel
theorem J_HField_allDigits_d27 : decode J_HField_allDigits.2.1 27 = .ok (.goto (-25), 3) := by decide +kernel
theorem J_HField_allDigits_d30 : decode J_HField_allDigits.2.1 30 = .ok (.iconst 1, 1) := by decide +kernel
theorem J_HField_allDigits_d31 : decode J_HField_allDigits.2.1 31 = .ok (.ireturn, 1) := by decide +kernel
theorem f_HField_allDigits_ok {L : Nat} {xs : Nat → Int32} {dep : Nat} {w : Bool} {M : im_M} {Q : Int32 → Prop} (hM : lw_S w M) (h : ed (f_HField_allDigits M) Q) : ia (tb_G L xs) (dep + 1) J_HField_allDigits (rpI M Q) (0, lv_args 0 [.ref 23], [], M) := by
  have hS : im_St (tb_G L xs) (dep + 1) J_HField_allDigits (ia (tb_G L xs) (dep + 1) J_HField_allDigits (rpI M Q)) := ia_St
  unfold f_HField_allDigits at h
  have l0 : im_lk (lv_args 0 [.ref 23]) 0 = some (.ref 23) := rfl
  refine iq_iconst hS 1 J_HField_allDigits_d0 (v := 0) (by decide +kernel) rfl ?_
  refine iq_istore_n hS 2 J_HField_allDigits_d1 (by decide) rfl ?_
  obtain ⟨Q1, hQ1, hR1, h⟩ := bs0_ed h
  have K1 : ∀  (L' : List (Nat × Value)), Q1 (.inl ()) → ia (tb_G L xs) (dep + 1) J_HField_allDigits (rpI M Q) (30, L', [], M) := by
    intro  L'  h
    replace h := hQ1  h
    refine iq_iconst hS 31 J_HField_allDigits_d30 (v := 1) (by decide +kernel) rfl ?_
    exact iq_iret J_HField_allDigits_d31 rfl rfl ⟨_, rfl, rfl, ed_some h⟩
  obtain ⟨r1, hr1, hq1⟩ := h
  obtain ⟨n1, hn1⟩ := lp_n hr1
  have I1 : ∀ (n : Nat) (x2 : Int32) (L' : List (Nat × Value)), im_lk L' 0 = some (.ref 23) → im_lk L' 1 = some (.int x2) → lpn (uc1 (f_HField_allDigits_L2 M)) n x2 = some r1 → ia (tb_G L xs) (dep + 1) J_HField_allDigits (rpI M Q) (2, L', [], M) := by
    intro n
    induction n with
    | zero => intro x2 L' l3 l4 hn; exact (lpn_0 hn).elim
    | succ n ih =>
      intro x2 L' l3 l4 hn
      have h := lpn_ed1 hn
      unfold f_HField_allDigits_L2 at h
      refine iq_iload_n hS 3 J_HField_allDigits_d2 l4 rfl ?_
      refine iq_aload_n hS 4 J_HField_allDigits_d3 l3 rfl ?_
      refine iq_getI hS 7 J_HField_allDigits_d4 lf_2_47 (Or.inl rfl) (ka_23 hM) rfl ?_
      refine iq_icmp_ge hS 10 J_HField_allDigits_d7 (t := 30) rfl (fun q7 => ?_) rfl (fun q7 => ?_)
      · replace h := ed_pos q7 h
        exact K1  _  (lq_r h hq1)
      · replace h := ed_neg q7 h
        refine iq_aload_n hS 11 J_HField_allDigits_d10 l3 rfl ?_
        refine iq_getR hS 14 J_HField_allDigits_d11 lf_2_17 (Or.inr ⟨_, rfl⟩) (ka_23 hM) (ra_23_7 hM) rfl ?_
        refine iq_iload_n hS 15 J_HField_allDigits_d14 l4 rfl ?_
        obtain ⟨g15, h⟩ := ed_gd h
        refine iq_baload hS 16 J_HField_allDigits_d15 ⟨(ka_25 hM).1, (ka_25 hM).2, g15.1, ix_lt (kl_25 hM) g15.2⟩ rfl ?_
        obtain ⟨Q5, hQ5, h⟩ := bd1_ed h
        refine iq_cpI hS 19 J_HField_allDigits_d16 rfl (pr_stat (vs := [_]) lc_2_56 lT_35 rfl rfl (by decide) rfl (Nat.le_of_ble_eq_true rfl) (Nat.le_of_ble_eq_true rfl)) (f_HTape_isDigit_ok (dep := dep + 0) hM h) rfl ?_
        intro x5 h
        replace h := hQ5 _ h
        refine iq_if_ne hS 22 J_HField_allDigits_d19 (t := 24) rfl (fun q19 => ?_) rfl (fun q19 => ?_)
        · replace h := ed_pos q19 h
          refine iq_iincv hS 27 J_HField_allDigits_d24 (c := 1) (by decide +kernel) l4 (by decide) rfl ?_
          refine iq_goto hS J_HField_allDigits_d27 (t := 2) rfl ?_
          exact ih _ _ (lk_1r l3 (by decide)) lk_1s (lq_l h)
        · replace h := ed_neg q19 h
          refine iq_iconst hS 23 J_HField_allDigits_d22 (v := 0) (by decide +kernel) rfl ?_
          exact iq_iret J_HField_allDigits_d23 rfl rfl ⟨_, rfl, rfl, ed_some (hR1 _ (lq_r h hq1))⟩
  exact I1 n1 _ _ (lk_1r l0 (by decide)) lk_1s hn1
noncomputable def f_HField_isPicture_L2 (M3 : im_M) (x2 : Int32) : Option ((Int32) ⊕ ((Unit) ⊕ (Int32))) := if (im_i M3 23 8) ≤ x2 then some (.inr (.inl ())) else gd (inb x2 200) <| bd1 (f_HTape_hexValue (im_i M3 25 (Int32.toNatClampNeg x2)) M3) fun (x4 : Int32) => if ¬ x4 = (-1) then some (.inl (x2 + 1)) else some (.inr (.inr 0))
noncomputable def f_HField_isPicture (M : im_M) : Option (Int32) := bs0 (lp (uc1 (f_HField_isPicture_L2 M)) 0) (fun (_ : Unit) => gd (inb 0 4) <| if ¬ ((im_i M 23 8) - (im_i M 23 8) / 2 * 2) = 0 then some 0 else gd (¬ (((im_i M 24 (Int32.toNatClampNeg 0)) + 7) / 8) = (0 : Int32)) <| if ¬ (((im_i M 23 8) / 2) - ((im_i M 23 8) / 2) / (((im_i M 24 (Int32.toNatClampNeg 0)) + 7) / 8) * (((im_i M 24 (Int32.toNatClampNeg 0)) + 7) / 8)) = 0 then some 0 else some 1) (fun t => some t)
theorem J_HField_isPicture_d0 : decode J_HField_isPicture.2.1 0 = .ok (.iconst 0, 1) := by decide +kernel
theorem J_HField_isPicture_d1 : decode J_HField_isPicture.2.1 1 = .ok (.istore_n 1, 1) := by decide +kernel
theorem J_HField_isPicture_d2 : decode J_HField_isPicture.2.1 2 = .ok (.iload_n 1, 1) := by decide +kernel
theorem J_HField_isPicture_d3 : decode J_HField_isPicture.2.1 3 = .ok (.aload_n 0, 1) := by decide +kernel
theorem J_HField_isPicture_d4 : decode J_HField_isPicture.2.1 4 = .ok (.getfield 47, 3) := by decide +kernel
theorem J_HField_isPicture_d7 : decode J_HField_isPicture.2.1 7 = .ok (.if_icmp .ge 24, 3) := by decide +kernel
theorem J_HField_isPicture_d10 : decode J_HField_isPicture.2.1 10 = .ok (.aload_n 0, 1) := by decide +kernel
theorem J_HField_isPicture_d11 : decode J_HField_isPicture.2.1 11 = .ok (.getfield 17, 3) := by decide +kernel
theorem J_HField_isPicture_d14 : decode J_HField_isPicture.2.1 14 = .ok (.iload_n 1, 1) := by decide +kernel
theorem J_HField_isPicture_d15 : decode J_HField_isPicture.2.1 15 = .ok (.baload, 1) := by decide +kernel
theorem J_HField_isPicture_d16 : decode J_HField_isPicture.2.1 16 = .ok (.invokestatic 67, 3) := by decide +kernel
theorem J_HField_isPicture_d19 : decode J_HField_isPicture.2.1 19 = .ok (.iconst (-1), 1) := by decide +kernel
theorem J_HField_isPicture_d20 : decode J_HField_isPicture.2.1 20 = .ok (.if_icmp .ne 5, 3) := by decide +kernel
theorem J_HField_isPicture_d23 : decode J_HField_isPicture.2.1 23 = .ok (.iconst 0, 1) := by decide +kernel
theorem J_HField_isPicture_d24 : decode J_HField_isPicture.2.1 24 = .ok (.ireturn, 1) := by decide +kernel
theorem J_HField_isPicture_d25 : decode J_HField_isPicture.2.1 25 = .ok (.iinc 1 1, 3) := by decide +kernel
theorem J_HField_isPicture_d28 : decode J_HField_isPicture.2.1 28 = .ok (.goto (-26), 3) := by decide +kernel
theorem J_HField_isPicture_d31 : decode J_HField_isPicture.2.1 31 = .ok (.aload_n 0, 1) := by decide +kernel
theorem J_HField_isPicture_d32 : decode J_HField_isPicture.2.1 32 = .ok (.getfield 9, 3) := by decide +kernel
theorem J_HField_isPicture_d35 : decode J_HField_isPicture.2.1 35 = .ok (.iconst 0, 1) := by decide +kernel
theorem J_HField_isPicture_d36 : decode J_HField_isPicture.2.1 36 = .ok (.iaload, 1) := by decide +kernel
theorem J_HField_isPicture_d37 : decode J_HField_isPicture.2.1 37 = .ok (.bipush 7, 2) := by decide +kernel
theorem J_HField_isPicture_d39 : decode J_HField_isPicture.2.1 39 = .ok (.iadd, 1) := by decide +kernel
theorem J_HField_isPicture_d40 : decode J_HField_isPicture.2.1 40 = .ok (.bipush 8, 2) := by decide +kernel
theorem J_HField_isPicture_d42 : decode J_HField_isPicture.2.1 42 = .ok (.idiv, 1) := by decide +kernel
theorem J_HField_isPicture_d43 : decode J_HField_isPicture.2.1 43 = .ok (.istore_n 1, 1) := by decide +kernel
theorem J_HField_isPicture_d44 : decode J_HField_isPicture.2.1 44 = .ok (.aload_n 0, 1) := by decide +kernel
theorem J_HField_isPicture_d45 : decode J_HField_isPicture.2.1 45 = .ok (.getfield 47, 3) := by decide +kernel
theorem J_HField_isPicture_d48 : decode J_HField_isPicture.2.1 48 = .ok (.iconst 2, 1) := by decide +kernel
theorem J_HField_isPicture_d49 : decode J_HField_isPicture.2.1 49 = .ok (.irem, 1) := by decide +kernel
theorem J_HField_isPicture_d50 : decode J_HField_isPicture.2.1 50 = .ok (.ifCond .ne 18, 3) := by decide +kernel
theorem J_HField_isPicture_d53 : decode J_HField_isPicture.2.1 53 = .ok (.aload_n 0, 1) := by decide +kernel
theorem J_HField_isPicture_d54 : decode J_HField_isPicture.2.1 54 = .ok (.getfield 47, 3) := by decide +kernel
theorem J_HField_isPicture_d57 : decode J_HField_isPicture.2.1 57 = .ok (.iconst 2, 1) := by decide +kernel
theorem J_HField_isPicture_d58 : decode J_HField_isPicture.2.1 58 = .ok (.idiv, 1) := by decide +kernel
theorem J_HField_isPicture_d59 : decode J_HField_isPicture.2.1 59 = .ok (.iload_n 1, 1) := by decide +kernel
theorem J_HField_isPicture_d60 : decode J_HField_isPicture.2.1 60 = .ok (.irem, 1) := by decide +kernel
theorem J_HField_isPicture_d61 : decode J_HField_isPicture.2.1 61 = .ok (.ifCond .ne 7, 3) := by decide +kernel
theorem J_HField_isPicture_d64 : decode J_HField_isPicture.2.1 64 = .ok (.iconst 1, 1) := by decide +kernel
theorem J_HField_isPicture_d65 : decode J_HField_isPicture.2.1 65 = .ok (.goto 4, 3) := by decide +kernel
theorem J_HField_isPicture_d68 : decode J_HField_isPicture.2.1 68 = .ok (.iconst 0, 1) := by decide +kernel
theorem J_HField_isPicture_d69 : decode J_HField_isPicture.2.1 69 = .ok (.ireturn, 1) := by decide +kernel
theorem f_HField_isPicture_ok {L : Nat} {xs : Nat → Int32} {dep : Nat} {w : Bool} {M : im_M} {Q : Int32 → Prop} (hM : lw_S w M) (h : ed (f_HField_isPicture M) Q) : ia (tb_G L xs) (dep + 1) J_HField_isPicture (rpI M Q) (0, lv_args 0 [.ref 23], [], M) := by
  have hS : im_St (tb_G L xs) (dep + 1) J_HField_isPicture (ia (tb_G L xs) (dep + 1) J_HField_isPicture (rpI M Q)) := ia_St
  unfold f_HField_isPicture at h
  have l0 : im_lk (lv_args 0 [.ref 23]) 0 = some (.ref 23) := rfl
  refine iq_iconst hS 1 J_HField_isPicture_d0 (v := 0) (by decide +kernel) rfl ?_
  refine iq_istore_n hS 2 J_HField_isPicture_d1 (by decide) rfl ?_
  obtain ⟨Q1, hQ1, hR1, h⟩ := bs0_ed h
  have K1 : ∀  (L' : List (Nat × Value)), im_lk L' 0 = some (.ref 23) → Q1 (.inl ()) → ia (tb_G L xs) (dep + 1) J_HField_isPicture (rpI M Q) (31, L', [], M) := by
    intro  L' l2 h
    replace h := hQ1  h
    refine iq_aload_n hS 32 J_HField_isPicture_d31 l2 rfl ?_
    refine iq_getR hS 35 J_HField_isPicture_d32 lf_2_9 (Or.inr ⟨_, rfl⟩) (ka_23 hM) (ra_23_3 hM) rfl ?_
    refine iq_iconst hS 36 J_HField_isPicture_d35 (v := 0) (by decide +kernel) rfl ?_
    obtain ⟨g36, h⟩ := ed_gd h
    refine iq_iaload hS 37 J_HField_isPicture_d36 ⟨(ka_24 hM).1, (ka_24 hM).2, g36.1, ix_lt (kl_24 hM) g36.2⟩ rfl ?_
    refine iq_bipush hS 39 J_HField_isPicture_d37 (v := 7) (by decide +kernel) rfl ?_
    refine iq_iadd hS 40 J_HField_isPicture_d39 rfl ?_
    refine iq_bipush hS 42 J_HField_isPicture_d40 (v := 8) (by decide +kernel) rfl ?_
    refine iq_idiv hS 43 J_HField_isPicture_d42 (by decide) rfl ?_
    refine iq_istore_n hS 44 J_HField_isPicture_d43 (by decide) rfl ?_
    refine iq_aload_n hS 45 J_HField_isPicture_d44 (lk_1r l2 (by decide)) rfl ?_
    refine iq_getI hS 48 J_HField_isPicture_d45 lf_2_47 (Or.inl rfl) (ka_23 hM) rfl ?_
    refine iq_iconst hS 49 J_HField_isPicture_d48 (v := 2) (by decide +kernel) rfl ?_
    refine iq_irem hS 50 J_HField_isPicture_d49 (by decide) rfl ?_
    refine iq_if_ne hS 53 J_HField_isPicture_d50 (t := 68) rfl (fun q50 => ?_) rfl (fun q50 => ?_)
    · replace h := ed_pos q50 h
      refine iq_iconst hS 69 J_HField_isPicture_d68 (v := 0) (by decide +kernel) rfl ?_
      exact iq_iret J_HField_isPicture_d69 rfl rfl ⟨_, rfl, rfl, ed_some h⟩
    · replace h := ed_neg q50 h
      refine iq_aload_n hS 54 J_HField_isPicture_d53 (lk_1r l2 (by decide)) rfl ?_
      refine iq_getI hS 57 J_HField_isPicture_d54 lf_2_47 (Or.inl rfl) (ka_23 hM) rfl ?_
      refine iq_iconst hS 58 J_HField_isPicture_d57 (v := 2) (by decide +kernel) rfl ?_
      refine iq_idiv hS 59 J_HField_isPicture_d58 (by decide) rfl ?_
      refine iq_iload_n hS 60 J_HField_isPicture_d59 lk_1s rfl ?_
      obtain ⟨g60, h⟩ := ed_gd h
      refine iq_irem hS 61 J_HField_isPicture_d60 g60 rfl ?_
      refine iq_if_ne hS 64 J_HField_isPicture_d61 (t := 68) rfl (fun q61 => ?_) rfl (fun q61 => ?_)
      · replace h := ed_pos q61 h
        refine iq_iconst hS 69 J_HField_isPicture_d68 (v := 0) (by decide +kernel) rfl ?_
        exact iq_iret J_HField_isPicture_d69 rfl rfl ⟨_, rfl, rfl, ed_some h⟩
      · replace h := ed_neg q61 h
        refine iq_iconst hS 65 J_HField_isPicture_d64 (v := 1) (by decide +kernel) rfl ?_
        refine iq_goto hS J_HField_isPicture_d65 (t := 69) rfl ?_
        exact iq_iret J_HField_isPicture_d69 rfl rfl ⟨_, rfl, rfl, ed_some h⟩
  obtain ⟨r1, hr1, hq1⟩ := h
  obtain ⟨n1, hn1⟩ := lp_n hr1
  have I1 : ∀ (n : Nat) (x3 : Int32) (L' : List (Nat × Value)), im_lk L' 0 = some (.ref 23) → im_lk L' 1 = some (.int x3) → lpn (uc1 (f_HField_isPicture_L2 M)) n x3 = some r1 → ia (tb_G L xs) (dep + 1) J_HField_isPicture (rpI M Q) (2, L', [], M) := by
    intro n
    induction n with
    | zero => intro x3 L' l4 l5 hn; exact (lpn_0 hn).elim
    | succ n ih =>
      intro x3 L' l4 l5 hn
      have h := lpn_ed1 hn
      unfold f_HField_isPicture_L2 at h
      refine iq_iload_n hS 3 J_HField_isPicture_d2 l5 rfl ?_
      refine iq_aload_n hS 4 J_HField_isPicture_d3 l4 rfl ?_
      refine iq_getI hS 7 J_HField_isPicture_d4 lf_2_47 (Or.inl rfl) (ka_23 hM) rfl ?_
      refine iq_icmp_ge hS 10 J_HField_isPicture_d7 (t := 31) rfl (fun q7 => ?_) rfl (fun q7 => ?_)
      · replace h := ed_pos q7 h
        exact K1  _ l4 (lq_r h hq1)
      · replace h := ed_neg q7 h
        refine iq_aload_n hS 11 J_HField_isPicture_d10 l4 rfl ?_
        refine iq_getR hS 14 J_HField_isPicture_d11 lf_2_17 (Or.inr ⟨_, rfl⟩) (ka_23 hM) (ra_23_7 hM) rfl ?_
        refine iq_iload_n hS 15 J_HField_isPicture_d14 l5 rfl ?_
        obtain ⟨g15, h⟩ := ed_gd h
        refine iq_baload hS 16 J_HField_isPicture_d15 ⟨(ka_25 hM).1, (ka_25 hM).2, g15.1, ix_lt (kl_25 hM) g15.2⟩ rfl ?_
        obtain ⟨Q6, hQ6, h⟩ := bd1_ed h
        refine iq_cpI hS 19 J_HField_isPicture_d16 rfl (pr_stat (vs := [_]) lc_2_67 lT_40 rfl rfl (by decide) rfl (Nat.le_of_ble_eq_true rfl) (Nat.le_of_ble_eq_true rfl)) (f_HTape_hexValue_ok (dep := dep + 0) hM h) rfl ?_
        intro x6 h
        replace h := hQ6 _ h
        refine iq_iconst hS 20 J_HField_isPicture_d19 (v := (-1)) (by decide +kernel) rfl ?_
        refine iq_icmp_ne hS 23 J_HField_isPicture_d20 (t := 25) rfl (fun q20 => ?_) rfl (fun q20 => ?_)
        · replace h := ed_pos q20 h
          refine iq_iincv hS 28 J_HField_isPicture_d25 (c := 1) (by decide +kernel) l5 (by decide) rfl ?_
          refine iq_goto hS J_HField_isPicture_d28 (t := 2) rfl ?_
          exact ih _ _ (lk_1r l4 (by decide)) lk_1s (lq_l h)
        · replace h := ed_neg q20 h
          refine iq_iconst hS 24 J_HField_isPicture_d23 (v := 0) (by decide +kernel) rfl ?_
          exact iq_iret J_HField_isPicture_d24 rfl rfl ⟨_, rfl, rfl, ed_some (hR1 _ (lq_r h hq1))⟩
  exact I1 n1 _ _ (lk_1r l0 (by decide)) lk_1s hn1
noncomputable def f_HField_hasItsData (M : im_M) : Option (Int32) := jn0 (fun (_ : Unit) => jn0 (fun (_ : Unit) => if (im_i M 23 8) = 0 then some 0 else jn0 (fun (_ : Unit) => jn0 (fun (_ : Unit) => some 1) fun k9 => if ¬ (im_i M 23 2) = 7 then k9 () else bd1 (f_HField_isPicture M) fun (x10 : Int32) => if x10 = 0 then some 0 else k9 ()) fun k6 => if ¬ (im_i M 23 2) = 2 then k6 () else if ¬ (im_i M 23 8) = 12 then some 0 else bd1 (f_HField_allDigits M) fun (x7 : Int32) => if ¬ x7 = 0 then k6 () else some 0) fun k4 => if (im_i M 23 2) ≤ 3 then k4 () else if 7 ≤ (im_i M 23 2) then k4 () else some 1) fun k1 => if (im_i M 23 5) = 0 then k1 () else if (im_i M 23 8) = 0 then some 0 else gd (inb ((im_i M 23 8) - 1) 200) <| bd1 (f_HTape_isDigit (im_i M 25 (Int32.toNatClampNeg ((im_i M 23 8) - 1))) M) fun (x2 : Int32) => if ¬ x2 = 0 then k1 () else some 0
theorem J_HField_hasItsData_d0 : decode J_HField_hasItsData.2.1 0 = .ok (.aload_n 0, 1) := by decide +kernel
theorem J_HField_hasItsData_d1 : decode J_HField_hasItsData.2.1 1 = .ok (.getfield 41, 3) := by decide +kernel
theorem J_HField_hasItsData_d4 : decode J_HField_hasItsData.2.1 4 = .ok (.ifCond .eq 29, 3) := by decide +kernel
theorem J_HField_hasItsData_d7 : decode J_HField_hasItsData.2.1 7 = .ok (.aload_n 0, 1) := by decide +kernel
theorem J_HField_hasItsData_d8 : decode J_HField_hasItsData.2.1 8 = .ok (.getfield 47, 3) := by decide +kernel
theorem J_HField_hasItsData_d11 : decode J_HField_hasItsData.2.1 11 = .ok (.ifCond .eq 20, 3) := by decide +kernel
theorem J_HField_hasItsData_d14 : decode J_HField_hasItsData.2.1 14 = .ok (.aload_n 0, 1) := by decide +kernel
theorem J_HField_hasItsData_d15 : decode J_HField_hasItsData.2.1 15 = .ok (.getfield 17, 3) := by decide +kernel
theorem J_HField_hasItsData_d18 : decode J_HField_hasItsData.2.1 18 = .ok (.aload_n 0, 1) := by decide +kernel
theorem J_HField_hasItsData_d19 : decode J_HField_hasItsData.2.1 19 = .ok (.getfield 47, 3) := by decide +kernel
theorem J_HField_hasItsData_d22 : decode J_HField_hasItsData.2.1 22 = .ok (.iconst 1, 1) := by decide +kernel
theorem J_HField_hasItsData_d23 : decode J_HField_hasItsData.2.1 23 = .ok (.isub, 1) := by decide +kernel
theorem J_HField_hasItsData_d24 : decode J_HField_hasItsData.2.1 24 = .ok (.baload, 1) := by decide +kernel
theorem J_HField_hasItsData_d25 : decode J_HField_hasItsData.2.1 25 = .ok (.invokestatic 56, 3) := by decide +kernel
theorem J_HField_hasItsData_d28 : decode J_HField_hasItsData.2.1 28 = .ok (.ifCond .ne 5, 3) := by decide +kernel
theorem J_HField_hasItsData_d31 : decode J_HField_hasItsData.2.1 31 = .ok (.iconst 0, 1) := by decide +kernel
theorem J_HField_hasItsData_d32 : decode J_HField_hasItsData.2.1 32 = .ok (.ireturn, 1) := by decide +kernel
theorem J_HField_hasItsData_d33 : decode J_HField_hasItsData.2.1 33 = .ok (.aload_n 0, 1) := by decide +kernel
theorem J_HField_hasItsData_d34 : decode J_HField_hasItsData.2.1 34 = .ok (.getfield 34, 3) := by decide +kernel
theorem J_HField_hasItsData_d37 : decode J_HField_hasItsData.2.1 37 = .ok (.iconst 3, 1) := by decide +kernel
theorem J_HField_hasItsData_d38 : decode J_HField_hasItsData.2.1 38 = .ok (.if_icmp .le 14, 3) := by decide +kernel
theorem J_HField_hasItsData_d41 : decode J_HField_hasItsData.2.1 41 = .ok (.aload_n 0, 1) := by decide +kernel
theorem J_HField_hasItsData_d42 : decode J_HField_hasItsData.2.1 42 = .ok (.getfield 34, 3) := by decide +kernel
theorem J_HField_hasItsData_d45 : decode J_HField_hasItsData.2.1 45 = .ok (.bipush 7, 2) := by decide +kernel
theorem J_HField_hasItsData_d47 : decode J_HField_hasItsData.2.1 47 = .ok (.if_icmp .ge 5, 3) := by decide +kernel
theorem J_HField_hasItsData_d50 : decode J_HField_hasItsData.2.1 50 = .ok (.iconst 1, 1) := by decide +kernel
theorem J_HField_hasItsData_d51 : decode J_HField_hasItsData.2.1 51 = .ok (.ireturn, 1) := by decide +kernel
theorem J_HField_hasItsData_d52 : decode J_HField_hasItsData.2.1 52 = .ok (.aload_n 0, 1) := by decide +kernel
theorem J_HField_hasItsData_d53 : decode J_HField_hasItsData.2.1 53 = .ok (.getfield 47, 3) := by decide +kernel
theorem J_HField_hasItsData_d56 : decode J_HField_hasItsData.2.1 56 = .ok (.ifCond .eq 27, 3) := by decide +kernel
theorem J_HField_hasItsData_d59 : decode J_HField_hasItsData.2.1 59 = .ok (.aload_n 0, 1) := by decide +kernel
theorem J_HField_hasItsData_d60 : decode J_HField_hasItsData.2.1 60 = .ok (.getfield 34, 3) := by decide +kernel
theorem J_HField_hasItsData_d63 : decode J_HField_hasItsData.2.1 63 = .ok (.iconst 2, 1) := by decide +kernel
theorem J_HField_hasItsData_d64 : decode J_HField_hasItsData.2.1 64 = .ok (.if_icmp .ne 21, 3) := by decide +kernel
theorem J_HField_hasItsData_d67 : decode J_HField_hasItsData.2.1 67 = .ok (.aload_n 0, 1) := by decide +kernel
theorem J_HField_hasItsData_d68 : decode J_HField_hasItsData.2.1 68 = .ok (.getfield 47, 3) := by decide +kernel
theorem J_HField_hasItsData_d71 : decode J_HField_hasItsData.2.1 71 = .ok (.bipush 12, 2) := by decide +kernel
theorem J_HField_hasItsData_d73 : decode J_HField_hasItsData.2.1 73 = .ok (.if_icmp .ne 10, 3) := by decide +kernel
theorem J_HField_hasItsData_d76 : decode J_HField_hasItsData.2.1 76 = .ok (.aload_n 0, 1) := by decide +kernel
theorem J_HField_hasItsData_d77 : decode J_HField_hasItsData.2.1 77 = .ok (.invokevirtual 60, 3) := by decide +kernel
theorem J_HField_hasItsData_d80 : decode J_HField_hasItsData.2.1 80 = .ok (.ifCond .ne 5, 3) := by decide +kernel
theorem J_HField_hasItsData_d83 : decode J_HField_hasItsData.2.1 83 = .ok (.iconst 0, 1) := by decide +kernel
theorem J_HField_hasItsData_d84 : decode J_HField_hasItsData.2.1 84 = .ok (.ireturn, 1) := by decide +kernel
theorem J_HField_hasItsData_d85 : decode J_HField_hasItsData.2.1 85 = .ok (.aload_n 0, 1) := by decide +kernel
theorem J_HField_hasItsData_d86 : decode J_HField_hasItsData.2.1 86 = .ok (.getfield 34, 3) := by decide +kernel
theorem J_HField_hasItsData_d89 : decode J_HField_hasItsData.2.1 89 = .ok (.bipush 7, 2) := by decide +kernel
theorem J_HField_hasItsData_d91 : decode J_HField_hasItsData.2.1 91 = .ok (.if_icmp .ne 10, 3) := by decide +kernel
theorem J_HField_hasItsData_d94 : decode J_HField_hasItsData.2.1 94 = .ok (.aload_n 0, 1) := by decide +kernel
theorem J_HField_hasItsData_d95 : decode J_HField_hasItsData.2.1 95 = .ok (.invokevirtual 64, 3) := by decide +kernel
theorem J_HField_hasItsData_d98 : decode J_HField_hasItsData.2.1 98 = .ok (.ifCond .eq 7, 3) := by decide +kernel
theorem J_HField_hasItsData_d101 : decode J_HField_hasItsData.2.1 101 = .ok (.iconst 1, 1) := by decide +kernel
theorem J_HField_hasItsData_d102 : decode J_HField_hasItsData.2.1 102 = .ok (.goto 4, 3) := by decide +kernel
theorem J_HField_hasItsData_d105 : decode J_HField_hasItsData.2.1 105 = .ok (.iconst 0, 1) := by decide +kernel
theorem J_HField_hasItsData_d106 : decode J_HField_hasItsData.2.1 106 = .ok (.ireturn, 1) := by decide +kernel
theorem f_HField_hasItsData_ok {L : Nat} {xs : Nat → Int32} {dep : Nat} {w : Bool} {M : im_M} {Q : Int32 → Prop} (hM : lw_S w M) (h : ed (f_HField_hasItsData M) Q) : ia (tb_G L xs) (dep + 2) J_HField_hasItsData (rpI M Q) (0, lv_args 0 [.ref 23], [], M) := by
  have hS : im_St (tb_G L xs) (dep + 2) J_HField_hasItsData (ia (tb_G L xs) (dep + 2) J_HField_hasItsData (rpI M Q)) := ia_St
  unfold f_HField_hasItsData at h
  have l0 : im_lk (lv_args 0 [.ref 23]) 0 = some (.ref 23) := rfl
  refine iq_aload_n hS 1 J_HField_hasItsData_d0 l0 rfl ?_
  refine iq_getI hS 4 J_HField_hasItsData_d1 lf_2_41 (Or.inr rfl) (ka_23 hM) rfl ?_
  obtain ⟨k1, Q1, hQ1, hk1, h⟩ := jn0_ed h
  have J1 : ∀  (L' : List (Nat × Value)), im_lk L' 0 = some (.ref 23) → Q1 () → ia (tb_G L xs) (dep + 2) J_HField_hasItsData (rpI M Q) (33, L', [], M) := by
    intro  L' l3 h
    replace h := hQ1  h
    refine iq_aload_n hS 34 J_HField_hasItsData_d33 l3 rfl ?_
    refine iq_getI hS 37 J_HField_hasItsData_d34 lf_2_34 (Or.inl rfl) (ka_23 hM) rfl ?_
    refine iq_iconst hS 38 J_HField_hasItsData_d37 (v := 3) (by decide +kernel) rfl ?_
    obtain ⟨k4, Q4, hQ4, hk4, h⟩ := jn0_ed h
    have J4 : ∀  (L' : List (Nat × Value)), im_lk L' 0 = some (.ref 23) → Q4 () → ia (tb_G L xs) (dep + 2) J_HField_hasItsData (rpI M Q) (52, L', [], M) := by
      intro  L' l5 h
      replace h := hQ4  h
      refine iq_aload_n hS 53 J_HField_hasItsData_d52 l5 rfl ?_
      refine iq_getI hS 56 J_HField_hasItsData_d53 lf_2_47 (Or.inl rfl) (ka_23 hM) rfl ?_
      refine iq_if_eq hS 59 J_HField_hasItsData_d56 (t := 83) rfl (fun q56 => ?_) rfl (fun q56 => ?_)
      · replace h := ed_pos q56 h
        refine iq_iconst hS 84 J_HField_hasItsData_d83 (v := 0) (by decide +kernel) rfl ?_
        exact iq_iret J_HField_hasItsData_d84 rfl rfl ⟨_, rfl, rfl, ed_some h⟩
      · replace h := ed_neg q56 h
        refine iq_aload_n hS 60 J_HField_hasItsData_d59 l5 rfl ?_
        refine iq_getI hS 63 J_HField_hasItsData_d60 lf_2_34 (Or.inl rfl) (ka_23 hM) rfl ?_
        refine iq_iconst hS 64 J_HField_hasItsData_d63 (v := 2) (by decide +kernel) rfl ?_
        obtain ⟨k6, Q6, hQ6, hk6, h⟩ := jn0_ed h
        have J6 : ∀  (L' : List (Nat × Value)), im_lk L' 0 = some (.ref 23) → Q6 () → ia (tb_G L xs) (dep + 2) J_HField_hasItsData (rpI M Q) (85, L', [], M) := by
          intro  L' l8 h
          replace h := hQ6  h
          refine iq_aload_n hS 86 J_HField_hasItsData_d85 l8 rfl ?_
          refine iq_getI hS 89 J_HField_hasItsData_d86 lf_2_34 (Or.inl rfl) (ka_23 hM) rfl ?_
          refine iq_bipush hS 91 J_HField_hasItsData_d89 (v := 7) (by decide +kernel) rfl ?_
          obtain ⟨k9, Q9, hQ9, hk9, h⟩ := jn0_ed h
          have J9 : ∀  (L' : List (Nat × Value)), Q9 () → ia (tb_G L xs) (dep + 2) J_HField_hasItsData (rpI M Q) (101, L', [], M) := by
            intro  L'  h
            replace h := hQ9  h
            refine iq_iconst hS 102 J_HField_hasItsData_d101 (v := 1) (by decide +kernel) rfl ?_
            refine iq_goto hS J_HField_hasItsData_d102 (t := 106) rfl ?_
            exact iq_iret J_HField_hasItsData_d106 rfl rfl ⟨_, rfl, rfl, ed_some h⟩
          refine iq_icmp_ne hS 94 J_HField_hasItsData_d91 (t := 101) rfl (fun q91 => ?_) rfl (fun q91 => ?_)
          · replace h := ed_pos q91 h
            exact J9  _  (hk9  h)
          · replace h := ed_neg q91 h
            refine iq_aload_n hS 95 J_HField_hasItsData_d94 l8 rfl ?_
            obtain ⟨Q10, hQ10, h⟩ := bd1_ed h
            refine iq_cpI hS 98 J_HField_hasItsData_d95 rfl (pr_inst (vs := []) lc_2_64 lT_49 rfl rfl (by decide) (by decide) rfl (Nat.le_of_ble_eq_true rfl) (Nat.le_of_ble_eq_true rfl) (fun _ => Or.inl (pr_b (ka_23 hM) (by decide) rfl))) (f_HField_isPicture_ok (dep := dep + 0) hM h) rfl ?_
            intro x10 h
            replace h := hQ10 _ h
            refine iq_if_eq hS 101 J_HField_hasItsData_d98 (t := 105) rfl (fun q98 => ?_) rfl (fun q98 => ?_)
            · replace h := ed_pos q98 h
              refine iq_iconst hS 106 J_HField_hasItsData_d105 (v := 0) (by decide +kernel) rfl ?_
              exact iq_iret J_HField_hasItsData_d106 rfl rfl ⟨_, rfl, rfl, ed_some h⟩
            · replace h := ed_neg q98 h
              exact J9  _  (hk9  h)
        refine iq_icmp_ne hS 67 J_HField_hasItsData_d64 (t := 85) rfl (fun q64 => ?_) rfl (fun q64 => ?_)
        · replace h := ed_pos q64 h
          exact J6  _ l5 (hk6  h)
        · replace h := ed_neg q64 h
          refine iq_aload_n hS 68 J_HField_hasItsData_d67 l5 rfl ?_
          refine iq_getI hS 71 J_HField_hasItsData_d68 lf_2_47 (Or.inl rfl) (ka_23 hM) rfl ?_
          refine iq_bipush hS 73 J_HField_hasItsData_d71 (v := 12) (by decide +kernel) rfl ?_
          refine iq_icmp_ne hS 76 J_HField_hasItsData_d73 (t := 83) rfl (fun q73 => ?_) rfl (fun q73 => ?_)
          · replace h := ed_pos q73 h
            refine iq_iconst hS 84 J_HField_hasItsData_d83 (v := 0) (by decide +kernel) rfl ?_
            exact iq_iret J_HField_hasItsData_d84 rfl rfl ⟨_, rfl, rfl, ed_some h⟩
          · replace h := ed_neg q73 h
            refine iq_aload_n hS 77 J_HField_hasItsData_d76 l5 rfl ?_
            obtain ⟨Q7, hQ7, h⟩ := bd1_ed h
            refine iq_cpI hS 80 J_HField_hasItsData_d77 rfl (pr_inst (vs := []) lc_2_60 lT_48 rfl rfl (by decide) (by decide) rfl (Nat.le_of_ble_eq_true rfl) (Nat.le_of_ble_eq_true rfl) (fun _ => Or.inl (pr_b (ka_23 hM) (by decide) rfl))) (f_HField_allDigits_ok (dep := dep + 0) hM h) rfl ?_
            intro x7 h
            replace h := hQ7 _ h
            refine iq_if_ne hS 83 J_HField_hasItsData_d80 (t := 85) rfl (fun q80 => ?_) rfl (fun q80 => ?_)
            · replace h := ed_pos q80 h
              exact J6  _ l5 (hk6  h)
            · replace h := ed_neg q80 h
              refine iq_iconst hS 84 J_HField_hasItsData_d83 (v := 0) (by decide +kernel) rfl ?_
              exact iq_iret J_HField_hasItsData_d84 rfl rfl ⟨_, rfl, rfl, ed_some h⟩
    refine iq_icmp_le hS 41 J_HField_hasItsData_d38 (t := 52) rfl (fun q38 => ?_) rfl (fun q38 => ?_)
    · replace h := ed_pos q38 h
      exact J4  _ l3 (hk4  h)
    · replace h := ed_neg q38 h
      refine iq_aload_n hS 42 J_HField_hasItsData_d41 l3 rfl ?_
      refine iq_getI hS 45 J_HField_hasItsData_d42 lf_2_34 (Or.inl rfl) (ka_23 hM) rfl ?_
      refine iq_bipush hS 47 J_HField_hasItsData_d45 (v := 7) (by decide +kernel) rfl ?_
      refine iq_icmp_ge hS 50 J_HField_hasItsData_d47 (t := 52) rfl (fun q47 => ?_) rfl (fun q47 => ?_)
      · replace h := ed_pos q47 h
        exact J4  _ l3 (hk4  h)
      · replace h := ed_neg q47 h
        refine iq_iconst hS 51 J_HField_hasItsData_d50 (v := 1) (by decide +kernel) rfl ?_
        exact iq_iret J_HField_hasItsData_d51 rfl rfl ⟨_, rfl, rfl, ed_some h⟩
  refine iq_if_eq hS 7 J_HField_hasItsData_d4 (t := 33) rfl (fun q4 => ?_) rfl (fun q4 => ?_)
  · replace h := ed_pos q4 h
    exact J1  _ l0 (hk1  h)
  · replace h := ed_neg q4 h
    refine iq_aload_n hS 8 J_HField_hasItsData_d7 l0 rfl ?_
    refine iq_getI hS 11 J_HField_hasItsData_d8 lf_2_47 (Or.inl rfl) (ka_23 hM) rfl ?_
    refine iq_if_eq hS 14 J_HField_hasItsData_d11 (t := 31) rfl (fun q11 => ?_) rfl (fun q11 => ?_)
    · replace h := ed_pos q11 h
      refine iq_iconst hS 32 J_HField_hasItsData_d31 (v := 0) (by decide +kernel) rfl ?_
      exact iq_iret J_HField_hasItsData_d32 rfl rfl ⟨_, rfl, rfl, ed_some h⟩
    · replace h := ed_neg q11 h
      refine iq_aload_n hS 15 J_HField_hasItsData_d14 l0 rfl ?_
      refine iq_getR hS 18 J_HField_hasItsData_d15 lf_2_17 (Or.inr ⟨_, rfl⟩) (ka_23 hM) (ra_23_7 hM) rfl ?_
      refine iq_aload_n hS 19 J_HField_hasItsData_d18 l0 rfl ?_
      refine iq_getI hS 22 J_HField_hasItsData_d19 lf_2_47 (Or.inl rfl) (ka_23 hM) rfl ?_
      refine iq_iconst hS 23 J_HField_hasItsData_d22 (v := 1) (by decide +kernel) rfl ?_
      refine iq_isub hS 24 J_HField_hasItsData_d23 rfl ?_
      obtain ⟨g24, h⟩ := ed_gd h
      refine iq_baload hS 25 J_HField_hasItsData_d24 ⟨(ka_25 hM).1, (ka_25 hM).2, g24.1, ix_lt (kl_25 hM) g24.2⟩ rfl ?_
      obtain ⟨Q2, hQ2, h⟩ := bd1_ed h
      refine iq_cpI hS 28 J_HField_hasItsData_d25 rfl (pr_stat (vs := [_]) lc_2_56 lT_35 rfl rfl (by decide) rfl (Nat.le_of_ble_eq_true rfl) (Nat.le_of_ble_eq_true rfl)) (f_HTape_isDigit_ok (dep := dep + 1) hM h) rfl ?_
      intro x2 h
      replace h := hQ2 _ h
      refine iq_if_ne hS 31 J_HField_hasItsData_d28 (t := 33) rfl (fun q28 => ?_) rfl (fun q28 => ?_)
      · replace h := ed_pos q28 h
        exact J1  _ l0 (hk1  h)
      · replace h := ed_neg q28 h
        refine iq_iconst hS 32 J_HField_hasItsData_d31 (v := 0) (by decide +kernel) rfl ?_
        exact iq_iret J_HField_hasItsData_d32 rfl rfl ⟨_, rfl, rfl, ed_some h⟩
noncomputable def f_Arrays_rangeCheck (p0 : Int32) (p1 : Int32) (p2 : Int32) (M : im_M) : Option (Unit) := if p1 ≤ p2 then if 0 ≤ p1 then if p2 ≤ p0 then some () else none else none else none
theorem f_Arrays_rangeCheck_ok {L : Nat} {xs : Nat → Int32} {dep : Nat} {w : Bool} {p0 : Int32} {p1 : Int32} {p2 : Int32} {M : im_M} {Q : Unit → Prop} (hM : lw_S w M) (h : ed (f_Arrays_rangeCheck p0 p1 p2 M) Q) : ia (tb_G L xs) dep J_Arrays_rangeCheck (rpV M Q) (0, lv_args 0 [.int p0, .int p1, .int p2], [], M) := by
  have hS : im_St (tb_G L xs) dep J_Arrays_rangeCheck (ia (tb_G L xs) dep J_Arrays_rangeCheck (rpV M Q)) := ia_St
  unfold f_Arrays_rangeCheck at h
  have l0 : im_lk (lv_args 0 [.int p0, .int p1, .int p2]) 0 = some (.int p0) := rfl
  have l1 : im_lk (lv_args 0 [.int p0, .int p1, .int p2]) 1 = some (.int p1) := rfl
  have l2 : im_lk (lv_args 0 [.int p0, .int p1, .int p2]) 2 = some (.int p2) := rfl
  refine iq_iload_n hS 1 J_Arrays_rangeCheck_d0 l1 rfl ?_
  refine iq_iload_n hS 2 J_Arrays_rangeCheck_d1 l2 rfl ?_
  refine iq_icmp_le hS 5 J_Arrays_rangeCheck_d2 (t := 46) rfl (fun q2 => ?_) rfl (fun q2 => ?_)
  · replace h := ed_pos q2 h
    refine iq_iload_n hS 47 J_Arrays_rangeCheck_d46 l1 rfl ?_
    refine iq_if_ge hS 50 J_Arrays_rangeCheck_d47 (t := 59) rfl (fun q47 => ?_) rfl (fun q47 => ?_)
    · replace h := ed_pos q47 h
      refine iq_iload_n hS 60 J_Arrays_rangeCheck_d59 l2 rfl ?_
      refine iq_iload_n hS 61 J_Arrays_rangeCheck_d60 l0 rfl ?_
      refine iq_icmp_le hS 64 J_Arrays_rangeCheck_d61 (t := 73) rfl (fun q61 => ?_) rfl (fun q61 => ?_)
      · replace h := ed_pos q61 h
        exact iq_ret J_Arrays_rangeCheck_d73 rfl ⟨rfl, rfl, ed_some h⟩
      · replace h := ed_neg q61 h
        exact (ed_none h).elim
    · replace h := ed_neg q47 h
      exact (ed_none h).elim
  · replace h := ed_neg q2 h
    exact (ed_none h).elim
noncomputable def f_Arrays_fill_L10 (v3 : Int32) (v4 : Int32) (x5 : Int32) (M6 : im_M) : Option ((Int32 × im_M) ⊕ (im_M)) := if v3 ≤ x5 then some (.inr M6) else gd (inb x5 1960) <| some (.inl ((x5 + 1), (im_setI M6 21 (Int32.toNatClampNeg x5) v4)))
noncomputable def f_Arrays_fill (p1 : Int32) (p2 : Int32) (p3 : Int32) (M : im_M) : Option (im_M) := bd0 (f_Arrays_rangeCheck 1960 p1 p2 M) fun (_ : Unit) => bd1 (lp (uc2 (f_Arrays_fill_L10 p2 p3)) (p1, M)) fun (M7 : im_M) => some M7
theorem f_Arrays_fill_ok {L : Nat} {xs : Nat → Int32} {dep : Nat} {w : Bool} {p1 : Int32} {p2 : Int32} {p3 : Int32} {M : im_M} {Q : im_M → Prop} (hM : lw_S w M) (h : ed (f_Arrays_fill p1 p2 p3 M) Q) : ia (tb_G L xs) (dep + 1) J_Arrays_fill (rwV w Q) (0, lv_args 0 [.ref 21, .int p1, .int p2, .int p3], [], M) := by
  have hS : im_St (tb_G L xs) (dep + 1) J_Arrays_fill (ia (tb_G L xs) (dep + 1) J_Arrays_fill (rwV w Q)) := ia_St
  unfold f_Arrays_fill at h
  have l0 : im_lk (lv_args 0 [.ref 21, .int p1, .int p2, .int p3]) 0 = some (.ref 21) := rfl
  have l1 : im_lk (lv_args 0 [.ref 21, .int p1, .int p2, .int p3]) 1 = some (.int p1) := rfl
  have l2 : im_lk (lv_args 0 [.ref 21, .int p1, .int p2, .int p3]) 2 = some (.int p2) := rfl
  have l3 : im_lk (lv_args 0 [.ref 21, .int p1, .int p2, .int p3]) 3 = some (.int p3) := rfl
  refine iq_aload_n hS 1 J_Arrays_fill_d0 l0 rfl ?_
  refine iq_alenv hS 2 J_Arrays_fill_d1 (v := 1960) (ka_21 hM) (by decide) (by decide) (kl_21 hM) (by decide +kernel) rfl ?_
  refine iq_iload_n hS 3 J_Arrays_fill_d2 l1 rfl ?_
  refine iq_iload_n hS 4 J_Arrays_fill_d3 l2 rfl ?_
  obtain ⟨Q1, hQ1, h⟩ := bd0_ed h
  refine iq_cpV hS 7 J_Arrays_fill_d4 rfl (pr_stat (vs := [_, _, _]) lc_22_13 lT_54 rfl rfl (by decide) rfl (Nat.le_of_ble_eq_true rfl) (Nat.le_of_ble_eq_true rfl)) (f_Arrays_rangeCheck_ok (dep := dep + 0) hM h) rfl ?_
  intro h
  replace h := hQ1  h
  refine iq_iload_n hS 8 J_Arrays_fill_d7 l1 rfl ?_
  refine iq_istore hS 10 J_Arrays_fill_d8 (by decide) rfl ?_
  obtain ⟨Q2, hQ2, h⟩ := bd1_ed h
  have K2 : ∀ (M3 : im_M) (L' : List (Nat × Value)), lw_S w M3 → Q2 M3 → ia (tb_G L xs) (dep + 1) J_Arrays_fill (rwV w Q) (27, L', [], M3) := by
    intro M3 L' hM3  h
    replace h := hQ2 _ h
    exact iq_ret J_Arrays_fill_d27 rfl ⟨rfl, hM3, ed_some h⟩
  obtain ⟨r2, hr2, hq2⟩ := h
  obtain ⟨n2, hn2⟩ := lp_n hr2
  have I2 : ∀ (n : Nat) (x4 : Int32) (M5 : im_M) (L' : List (Nat × Value)), lw_S w M5 → im_lk L' 0 = some (.ref 21) → im_lk L' 2 = some (.int p2) → im_lk L' 3 = some (.int p3) → im_lk L' 4 = some (.int x4) → lpn (uc2 (f_Arrays_fill_L10 p2 p3)) n (x4, M5) = some r2 → ia (tb_G L xs) (dep + 1) J_Arrays_fill (rwV w Q) (10, L', [], M5) := by
    intro n
    induction n with
    | zero => intro x4 M5 L' hM5 l6 l7 l8 l9 hn; exact (lpn_0 hn).elim
    | succ n ih =>
      intro x4 M5 L' hM5 l6 l7 l8 l9 hn
      have h := lpn_ed2 hn
      unfold f_Arrays_fill_L10 at h
      refine iq_iload hS 12 J_Arrays_fill_d10 l9 rfl ?_
      refine iq_iload_n hS 13 J_Arrays_fill_d12 l7 rfl ?_
      refine iq_icmp_ge hS 16 J_Arrays_fill_d13 (t := 27) rfl (fun q13 => ?_) rfl (fun q13 => ?_)
      · replace h := ed_pos q13 h
        exact K2 _ _ hM5  (lq_r h hq2)
      · replace h := ed_neg q13 h
        refine iq_aload_n hS 17 J_Arrays_fill_d16 l6 rfl ?_
        refine iq_iload hS 19 J_Arrays_fill_d17 l9 rfl ?_
        refine iq_iload_n hS 20 J_Arrays_fill_d19 l8 rfl ?_
        obtain ⟨g20, h⟩ := ed_gd h
        refine iq_iastore hS 21 J_Arrays_fill_d20 ⟨(ka_21 hM5).1, (ka_21 hM5).2, g20.1, ix_lt (kl_21 hM5) g20.2⟩ rfl ?_
        refine iq_iincv hS 24 J_Arrays_fill_d21 (c := 1) (by decide +kernel) l9 (by decide) rfl ?_
        refine iq_goto hS J_Arrays_fill_d24 (t := 10) rfl ?_
        exact ih _ _ _ hM5 (lk_1r l6 (by decide)) (lk_1i l7 (by decide)) (lk_1i l8 (by decide)) lk_1s (lq_l h)
  exact I2 n2 _ _ _ hM (lk_1r l0 (by decide)) (lk_1i l2 (by decide)) (lk_1i l3 (by decide)) lk_1s hn2
noncomputable def f_HOrders_lay (p0 : Int32) (p1 : Int32) (p2 : Int32) (p3 : Int32) (p4 : Int32) (M : im_M) : Option (im_M) := bd1 (f_Arrays_fill (p0 * 14) ((p0 * 14) + 14) 0 M) fun (M1 : im_M) => gd (inb ((p0 * 14) + 0) 1960) <| gd (inb ((p0 * 14) + 1) 1960) <| gd (inb ((p0 * 14) + 2) 1960) <| gd (inb ((p0 * 14) + 3) 1960) <| some (im_setI (im_setI (im_setI (im_setI M1 21 (Int32.toNatClampNeg ((p0 * 14) + 0)) p1) 21 (Int32.toNatClampNeg ((p0 * 14) + 1)) p2) 21 (Int32.toNatClampNeg ((p0 * 14) + 2)) p3) 21 (Int32.toNatClampNeg ((p0 * 14) + 3)) p4)
theorem J_HOrders_lay_d0 : decode J_HOrders_lay.2.1 0 = .ok (.iload_n 1, 1) := by decide +kernel
theorem J_HOrders_lay_d1 : decode J_HOrders_lay.2.1 1 = .ok (.bipush 14, 2) := by decide +kernel
theorem J_HOrders_lay_d3 : decode J_HOrders_lay.2.1 3 = .ok (.imul, 1) := by decide +kernel
theorem J_HOrders_lay_d4 : decode J_HOrders_lay.2.1 4 = .ok (.istore 6, 2) := by decide +kernel
theorem J_HOrders_lay_d6 : decode J_HOrders_lay.2.1 6 = .ok (.aload_n 0, 1) := by decide +kernel
theorem J_HOrders_lay_d7 : decode J_HOrders_lay.2.1 7 = .ok (.getfield 13, 3) := by decide +kernel
theorem J_HOrders_lay_d10 : decode J_HOrders_lay.2.1 10 = .ok (.iload 6, 2) := by decide +kernel
theorem J_HOrders_lay_d12 : decode J_HOrders_lay.2.1 12 = .ok (.iload 6, 2) := by decide +kernel
theorem J_HOrders_lay_d14 : decode J_HOrders_lay.2.1 14 = .ok (.bipush 14, 2) := by decide +kernel
theorem J_HOrders_lay_d16 : decode J_HOrders_lay.2.1 16 = .ok (.iadd, 1) := by decide +kernel
theorem J_HOrders_lay_d17 : decode J_HOrders_lay.2.1 17 = .ok (.iconst 0, 1) := by decide +kernel
theorem J_HOrders_lay_d18 : decode J_HOrders_lay.2.1 18 = .ok (.invokestatic 20, 3) := by decide +kernel
theorem J_HOrders_lay_d21 : decode J_HOrders_lay.2.1 21 = .ok (.aload_n 0, 1) := by decide +kernel
theorem J_HOrders_lay_d22 : decode J_HOrders_lay.2.1 22 = .ok (.getfield 13, 3) := by decide +kernel
theorem J_HOrders_lay_d25 : decode J_HOrders_lay.2.1 25 = .ok (.iload 6, 2) := by decide +kernel
theorem J_HOrders_lay_d27 : decode J_HOrders_lay.2.1 27 = .ok (.iconst 0, 1) := by decide +kernel
theorem J_HOrders_lay_d28 : decode J_HOrders_lay.2.1 28 = .ok (.iadd, 1) := by decide +kernel
theorem J_HOrders_lay_d29 : decode J_HOrders_lay.2.1 29 = .ok (.iload_n 2, 1) := by decide +kernel
theorem J_HOrders_lay_d30 : decode J_HOrders_lay.2.1 30 = .ok (.iastore, 1) := by decide +kernel
theorem J_HOrders_lay_d31 : decode J_HOrders_lay.2.1 31 = .ok (.aload_n 0, 1) := by decide +kernel
theorem J_HOrders_lay_d32 : decode J_HOrders_lay.2.1 32 = .ok (.getfield 13, 3) := by decide +kernel
theorem J_HOrders_lay_d35 : decode J_HOrders_lay.2.1 35 = .ok (.iload 6, 2) := by decide +kernel
theorem J_HOrders_lay_d37 : decode J_HOrders_lay.2.1 37 = .ok (.iconst 1, 1) := by decide +kernel
theorem J_HOrders_lay_d38 : decode J_HOrders_lay.2.1 38 = .ok (.iadd, 1) := by decide +kernel
theorem J_HOrders_lay_d39 : decode J_HOrders_lay.2.1 39 = .ok (.iload_n 3, 1) := by decide +kernel
theorem J_HOrders_lay_d40 : decode J_HOrders_lay.2.1 40 = .ok (.iastore, 1) := by decide +kernel
theorem J_HOrders_lay_d41 : decode J_HOrders_lay.2.1 41 = .ok (.aload_n 0, 1) := by decide +kernel
theorem J_HOrders_lay_d42 : decode J_HOrders_lay.2.1 42 = .ok (.getfield 13, 3) := by decide +kernel
theorem J_HOrders_lay_d45 : decode J_HOrders_lay.2.1 45 = .ok (.iload 6, 2) := by decide +kernel
theorem J_HOrders_lay_d47 : decode J_HOrders_lay.2.1 47 = .ok (.iconst 2, 1) := by decide +kernel
theorem J_HOrders_lay_d48 : decode J_HOrders_lay.2.1 48 = .ok (.iadd, 1) := by decide +kernel
theorem J_HOrders_lay_d49 : decode J_HOrders_lay.2.1 49 = .ok (.iload 4, 2) := by decide +kernel
theorem J_HOrders_lay_d51 : decode J_HOrders_lay.2.1 51 = .ok (.iastore, 1) := by decide +kernel
theorem J_HOrders_lay_d52 : decode J_HOrders_lay.2.1 52 = .ok (.aload_n 0, 1) := by decide +kernel
theorem J_HOrders_lay_d53 : decode J_HOrders_lay.2.1 53 = .ok (.getfield 13, 3) := by decide +kernel
theorem J_HOrders_lay_d56 : decode J_HOrders_lay.2.1 56 = .ok (.iload 6, 2) := by decide +kernel
theorem J_HOrders_lay_d58 : decode J_HOrders_lay.2.1 58 = .ok (.iconst 3, 1) := by decide +kernel
theorem J_HOrders_lay_d59 : decode J_HOrders_lay.2.1 59 = .ok (.iadd, 1) := by decide +kernel
theorem J_HOrders_lay_d60 : decode J_HOrders_lay.2.1 60 = .ok (.iload 5, 2) := by decide +kernel
theorem J_HOrders_lay_d62 : decode J_HOrders_lay.2.1 62 = .ok (.iastore, 1) := by decide +kernel
theorem J_HOrders_lay_d63 : decode J_HOrders_lay.2.1 63 = .ok (.return_, 1) := by decide +kernel
theorem f_HOrders_lay_ok {L : Nat} {xs : Nat → Int32} {dep : Nat} {w : Bool} {p0 : Int32} {p1 : Int32} {p2 : Int32} {p3 : Int32} {p4 : Int32} {M : im_M} {Q : im_M → Prop} (hM : lw_S w M) (h : ed (f_HOrders_lay p0 p1 p2 p3 p4 M) Q) : ia (tb_G L xs) (dep + 2) J_HOrders_lay (rwV w Q) (0, lv_args 0 [.ref 19, .int p0, .int p1, .int p2, .int p3, .int p4], [], M) := by
  have hS : im_St (tb_G L xs) (dep + 2) J_HOrders_lay (ia (tb_G L xs) (dep + 2) J_HOrders_lay (rwV w Q)) := ia_St
  unfold f_HOrders_lay at h
  have l0 : im_lk (lv_args 0 [.ref 19, .int p0, .int p1, .int p2, .int p3, .int p4]) 0 = some (.ref 19) := rfl
  have l1 : im_lk (lv_args 0 [.ref 19, .int p0, .int p1, .int p2, .int p3, .int p4]) 1 = some (.int p0) := rfl
  have l2 : im_lk (lv_args 0 [.ref 19, .int p0, .int p1, .int p2, .int p3, .int p4]) 2 = some (.int p1) := rfl
  have l3 : im_lk (lv_args 0 [.ref 19, .int p0, .int p1, .int p2, .int p3, .int p4]) 3 = some (.int p2) := rfl
  have l4 : im_lk (lv_args 0 [.ref 19, .int p0, .int p1, .int p2, .int p3, .int p4]) 4 = some (.int p3) := rfl
  have l5 : im_lk (lv_args 0 [.ref 19, .int p0, .int p1, .int p2, .int p3, .int p4]) 5 = some (.int p4) := rfl
  refine iq_iload_n hS 1 J_HOrders_lay_d0 l1 rfl ?_
  refine iq_bipush hS 3 J_HOrders_lay_d1 (v := 14) (by decide +kernel) rfl ?_
  refine iq_imul hS 4 J_HOrders_lay_d3 rfl ?_
  refine iq_istore hS 6 J_HOrders_lay_d4 (by decide) rfl ?_
  refine iq_aload_n hS 7 J_HOrders_lay_d6 (lk_1r l0 (by decide)) rfl ?_
  refine iq_getR hS 10 J_HOrders_lay_d7 lf_5_13 (Or.inr ⟨_, rfl⟩) (ka_19 hM) (ra_19_0 hM) rfl ?_
  refine iq_iload hS 12 J_HOrders_lay_d10 lk_1s rfl ?_
  refine iq_iload hS 14 J_HOrders_lay_d12 lk_1s rfl ?_
  refine iq_bipush hS 16 J_HOrders_lay_d14 (v := 14) (by decide +kernel) rfl ?_
  refine iq_iadd hS 17 J_HOrders_lay_d16 rfl ?_
  refine iq_iconst hS 18 J_HOrders_lay_d17 (v := 0) (by decide +kernel) rfl ?_
  obtain ⟨Q1, hQ1, h⟩ := bd1_ed h
  refine iq_cwV hS 21 J_HOrders_lay_d18 rfl (pr_stat (vs := [_, _, _, _]) lc_5_20 lT_53 rfl rfl (by decide) rfl (Nat.le_of_ble_eq_true rfl) (Nat.le_of_ble_eq_true rfl)) (f_Arrays_fill_ok (dep := dep + 0) hM h) rfl ?_
  intro M1 hM1 h
  replace h := hQ1 _ h
  refine iq_aload_n hS 22 J_HOrders_lay_d21 (lk_1r l0 (by decide)) rfl ?_
  refine iq_getR hS 25 J_HOrders_lay_d22 lf_5_13 (Or.inr ⟨_, rfl⟩) (ka_19 hM1) (ra_19_0 hM1) rfl ?_
  refine iq_iload hS 27 J_HOrders_lay_d25 lk_1s rfl ?_
  refine iq_iconst hS 28 J_HOrders_lay_d27 (v := 0) (by decide +kernel) rfl ?_
  refine iq_iadd hS 29 J_HOrders_lay_d28 rfl ?_
  refine iq_iload_n hS 30 J_HOrders_lay_d29 (lk_1i l2 (by decide)) rfl ?_
  obtain ⟨g30, h⟩ := ed_gd h
  refine iq_iastore hS 31 J_HOrders_lay_d30 ⟨(ka_21 hM1).1, (ka_21 hM1).2, g30.1, ix_lt (kl_21 hM1) g30.2⟩ rfl ?_
  refine iq_aload_n hS 32 J_HOrders_lay_d31 (lk_1r l0 (by decide)) rfl ?_
  refine iq_getR hS 35 J_HOrders_lay_d32 lf_5_13 (Or.inr ⟨_, rfl⟩) (ka_19 hM1) (ra_19_0 hM1) rfl ?_
  refine iq_iload hS 37 J_HOrders_lay_d35 lk_1s rfl ?_
  refine iq_iconst hS 38 J_HOrders_lay_d37 (v := 1) (by decide +kernel) rfl ?_
  refine iq_iadd hS 39 J_HOrders_lay_d38 rfl ?_
  refine iq_iload_n hS 40 J_HOrders_lay_d39 (lk_1i l3 (by decide)) rfl ?_
  obtain ⟨g40, h⟩ := ed_gd h
  refine iq_iastore hS 41 J_HOrders_lay_d40 ⟨(ka_21 hM1).1, (ka_21 hM1).2, g40.1, ix_lt (kl_21 hM1) g40.2⟩ rfl ?_
  refine iq_aload_n hS 42 J_HOrders_lay_d41 (lk_1r l0 (by decide)) rfl ?_
  refine iq_getR hS 45 J_HOrders_lay_d42 lf_5_13 (Or.inr ⟨_, rfl⟩) (ka_19 hM1) (ra_19_0 hM1) rfl ?_
  refine iq_iload hS 47 J_HOrders_lay_d45 lk_1s rfl ?_
  refine iq_iconst hS 48 J_HOrders_lay_d47 (v := 2) (by decide +kernel) rfl ?_
  refine iq_iadd hS 49 J_HOrders_lay_d48 rfl ?_
  refine iq_iload hS 51 J_HOrders_lay_d49 (lk_1i l4 (by decide)) rfl ?_
  obtain ⟨g51, h⟩ := ed_gd h
  refine iq_iastore hS 52 J_HOrders_lay_d51 ⟨(ka_21 hM1).1, (ka_21 hM1).2, g51.1, ix_lt (kl_21 hM1) g51.2⟩ rfl ?_
  refine iq_aload_n hS 53 J_HOrders_lay_d52 (lk_1r l0 (by decide)) rfl ?_
  refine iq_getR hS 56 J_HOrders_lay_d53 lf_5_13 (Or.inr ⟨_, rfl⟩) (ka_19 hM1) (ra_19_0 hM1) rfl ?_
  refine iq_iload hS 58 J_HOrders_lay_d56 lk_1s rfl ?_
  refine iq_iconst hS 59 J_HOrders_lay_d58 (v := 3) (by decide +kernel) rfl ?_
  refine iq_iadd hS 60 J_HOrders_lay_d59 rfl ?_
  refine iq_iload hS 62 J_HOrders_lay_d60 (lk_1i l5 (by decide)) rfl ?_
  obtain ⟨g62, h⟩ := ed_gd h
  refine iq_iastore hS 63 J_HOrders_lay_d62 ⟨(ka_21 hM1).1, (ka_21 hM1).2, g62.1, ix_lt (kl_21 hM1) g62.2⟩ rfl ?_
  exact iq_ret J_HOrders_lay_d63 rfl ⟨rfl, hM1, ed_some h⟩
