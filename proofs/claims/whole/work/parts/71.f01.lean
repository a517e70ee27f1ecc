/-! METHODS AS FUNCTIONS -/
noncomputable def f_H_wipe (M : im_M) : Option (Int32 × im_M) := some ((im_i M 1 1), (im_setI M 1 1 0))
theorem f_H_wipe_ok {L : Nat} {xs : Nat → Int32} {dep : Nat} {w : Bool} {M : im_M} {Q : Int32 × im_M → Prop} (hM : lw_S w M) (h : ed (f_H_wipe M) Q) : ia (tb_G L xs) dep J_H_wipe (rwI w Q) (0, lv_args 0 [.ref 0], [], M) := by
  have hS : im_St (tb_G L xs) dep J_H_wipe (ia (tb_G L xs) dep J_H_wipe (rwI w Q)) := ia_St
  unfold f_H_wipe at h
  have l0 : im_lk (lv_args 0 [.ref 0]) 0 = some (.ref 0) := rfl
  refine iq_aload_n hS 1 J_H_wipe_d0 l0 rfl ?_
  refine iq_getR hS 4 J_H_wipe_d1 lf_11_10 (Or.inl ⟨_, rfl⟩) (ka_0 hM) (ra_0_0 hM) rfl ?_
  refine iq_getI hS 7 J_H_wipe_d4 lf_11_91 (Or.inl rfl) (ka_1 hM) rfl ?_
  refine iq_istore_n hS 8 J_H_wipe_d7 (by decide) rfl ?_
  refine iq_aload_n hS 9 J_H_wipe_d8 (lk_1r l0 (by decide)) rfl ?_
  refine iq_getR hS 12 J_H_wipe_d9 lf_11_10 (Or.inl ⟨_, rfl⟩) (ka_0 hM) (ra_0_0 hM) rfl ?_
  refine iq_iconst hS 13 J_H_wipe_d12 (v := 0) (by decide +kernel) rfl ?_
  refine iq_putI hS 16 J_H_wipe_d13 lf_11_91 (Or.inl rfl) rfl (ka_1 hM) rfl ?_
  refine iq_iload_n hS 17 J_H_wipe_d16 lk_1s rfl ?_
  exact iq_iret J_H_wipe_d17 rfl rfl ⟨_, rfl, (lw_sI hM), ed_some h⟩
theorem f_H_wipe_fr {M : im_M} {r : Int32 × im_M} (h : f_H_wipe M = some r) : fr 0 [(1, 1)] M r.2 := by
  replace h : ed (f_H_wipe M) (fun x => x = r) := ⟨r, h, rfl⟩
  unfold f_H_wipe at h
  exact fr_ret h (fr_F (by decide) fr_refl)
noncomputable def f_HTape_rewind (M : im_M) : Option (im_M) := gd (inb 0 5) <| some (im_setI (im_setI M 1 6 0) 8 (Int32.toNatClampNeg 0) 0)
theorem J_HTape_rewind_d0 : decode J_HTape_rewind.2.1 0 = .ok (.aload_n 0, 1) := by decide +kernel
theorem J_HTape_rewind_d1 : decode J_HTape_rewind.2.1 1 = .ok (.iconst 0, 1) := by decide +kernel
theorem J_HTape_rewind_d2 : decode J_HTape_rewind.2.1 2 = .ok (.putfield 44, 3) := by decide +kernel
theorem J_HTape_rewind_d5 : decode J_HTape_rewind.2.1 5 = .ok (.aload_n 0, 1) := by decide +kernel
theorem J_HTape_rewind_d6 : decode J_HTape_rewind.2.1 6 = .ok (.getfield 31, 3) := by decide +kernel
theorem J_HTape_rewind_d9 : decode J_HTape_rewind.2.1 9 = .ok (.iconst 0, 1) := by decide +kernel
theorem J_HTape_rewind_d10 : decode J_HTape_rewind.2.1 10 = .ok (.iconst 0, 1) := by decide +kernel
theorem J_HTape_rewind_d11 : decode J_HTape_rewind.2.1 11 = .ok (.iastore, 1) := by decide +kernel
theorem J_HTape_rewind_d12 : decode J_HTape_rewind.2.1 12 = .ok (.return_, 1) := by decide +kernel
theorem f_HTape_rewind_ok {L : Nat} {xs : Nat → Int32} {dep : Nat} {w : Bool} {M : im_M} {Q : im_M → Prop} (hM : lw_S w M) (h : ed (f_HTape_rewind M) Q) : ia (tb_G L xs) dep J_HTape_rewind (rwV w Q) (0, lv_args 0 [.ref 1], [], M) := by
  have hS : im_St (tb_G L xs) dep J_HTape_rewind (ia (tb_G L xs) dep J_HTape_rewind (rwV w Q)) := ia_St
  unfold f_HTape_rewind at h
  have l0 : im_lk (lv_args 0 [.ref 1]) 0 = some (.ref 1) := rfl
  refine iq_aload_n hS 1 J_HTape_rewind_d0 l0 rfl ?_
  refine iq_iconst hS 2 J_HTape_rewind_d1 (v := 0) (by decide +kernel) rfl ?_
  refine iq_putI hS 5 J_HTape_rewind_d2 lf_10_44 (Or.inl rfl) rfl (ka_1 hM) rfl ?_
  refine iq_aload_n hS 6 J_HTape_rewind_d5 l0 rfl ?_
  refine iq_getR hS 9 J_HTape_rewind_d6 lf_10_31 (Or.inr ⟨_, rfl⟩) (ka_1 (lw_sI hM)) (ra_1_8 (lw_sI hM)) rfl ?_
  refine iq_iconst hS 10 J_HTape_rewind_d9 (v := 0) (by decide +kernel) rfl ?_
  refine iq_iconst hS 11 J_HTape_rewind_d10 (v := 0) (by decide +kernel) rfl ?_
  obtain ⟨g11, h⟩ := ed_gd h
  refine iq_iastore hS 12 J_HTape_rewind_d11 ⟨(ka_8 (lw_sI hM)).1, (ka_8 (lw_sI hM)).2, g11.1, ix_lt (kl_8 (lw_sI hM)) g11.2⟩ rfl ?_
  exact iq_ret J_HTape_rewind_d12 rfl ⟨rfl, (lw_sI (lw_sI hM)), ed_some h⟩
theorem f_HTape_rewind_fr {M : im_M} {r : im_M} (h : f_HTape_rewind M = some r) : fr 256 [(1, 6)] M r := by
  replace h : ed (f_HTape_rewind M) (fun x => x = r) := ⟨r, h, rfl⟩
  unfold f_HTape_rewind at h
  obtain ⟨g11, h⟩ := ed_gd h
  exact fr_retV h (fr_I (by decide) (fr_F (by decide) fr_refl))
noncomputable def f_HTape_next (M : im_M) : Option (Int32) := gd (inb (im_i M 1 6) 5) <| if ¬ (im_i M 1 6) = 0 then gd (inb (im_i M 1 6) 5) <| gd (inb (im_i M 7 (Int32.toNatClampNeg (im_i M 1 6))) 8) <| if (im_i M 4 (Int32.toNatClampNeg (im_i M 7 (Int32.toNatClampNeg (im_i M 1 6))))) ≤ (im_i M 8 (Int32.toNatClampNeg (im_i M 1 6))) then some (-1) else gd (inb (((im_i M 7 (Int32.toNatClampNeg (im_i M 1 6))) * 400) + (im_i M 8 (Int32.toNatClampNeg (im_i M 1 6)))) 3200) <| some ((im_i M 3 (Int32.toNatClampNeg (((im_i M 7 (Int32.toNatClampNeg (im_i M 1 6))) * 400) + (im_i M 8 (Int32.toNatClampNeg (im_i M 1 6)))))) &&& 255) else if (im_i M 1 1) ≤ (im_i M 8 (Int32.toNatClampNeg (im_i M 1 6))) then some (-1) else gd (inb (im_i M 8 (Int32.toNatClampNeg (im_i M 1 6))) 4096) <| some ((im_i M 2 (Int32.toNatClampNeg (im_i M 8 (Int32.toNatClampNeg (im_i M 1 6))))) &&& 255)
theorem J_HTape_next_d0 : decode J_HTape_next.2.1 0 = .ok (.aload_n 0, 1) := by decide +kernel
theorem J_HTape_next_d1 : decode J_HTape_next.2.1 1 = .ok (.getfield 31, 3) := by decide +kernel
theorem J_HTape_next_d4 : decode J_HTape_next.2.1 4 = .ok (.aload_n 0, 1) := by decide +kernel
theorem J_HTape_next_d5 : decode J_HTape_next.2.1 5 = .ok (.getfield 44, 3) := by decide +kernel
theorem J_HTape_next_d8 : decode J_HTape_next.2.1 8 = .ok (.iaload, 1) := by decide +kernel
theorem J_HTape_next_d9 : decode J_HTape_next.2.1 9 = .ok (.istore_n 1, 1) := by decide +kernel
theorem J_HTape_next_d10 : decode J_HTape_next.2.1 10 = .ok (.aload_n 0, 1) := by decide +kernel
theorem J_HTape_next_d11 : decode J_HTape_next.2.1 11 = .ok (.getfield 44, 3) := by decide +kernel
theorem J_HTape_next_d14 : decode J_HTape_next.2.1 14 = .ok (.ifCond .ne 26, 3) := by decide +kernel
theorem J_HTape_next_d17 : decode J_HTape_next.2.1 17 = .ok (.iload_n 1, 1) := by decide +kernel
theorem J_HTape_next_d18 : decode J_HTape_next.2.1 18 = .ok (.aload_n 0, 1) := by decide +kernel
theorem J_HTape_next_d19 : decode J_HTape_next.2.1 19 = .ok (.getfield 40, 3) := by decide +kernel
theorem J_HTape_next_d22 : decode J_HTape_next.2.1 22 = .ok (.if_icmp .ge 16, 3) := by decide +kernel
theorem J_HTape_next_d25 : decode J_HTape_next.2.1 25 = .ok (.aload_n 0, 1) := by decide +kernel
theorem J_HTape_next_d26 : decode J_HTape_next.2.1 26 = .ok (.getfield 11, 3) := by decide +kernel
theorem J_HTape_next_d29 : decode J_HTape_next.2.1 29 = .ok (.iload_n 1, 1) := by decide +kernel
theorem J_HTape_next_d30 : decode J_HTape_next.2.1 30 = .ok (.baload, 1) := by decide +kernel
theorem J_HTape_next_d31 : decode J_HTape_next.2.1 31 = .ok (.sipush 255, 3) := by decide +kernel
theorem J_HTape_next_d34 : decode J_HTape_next.2.1 34 = .ok (.iand, 1) := by decide +kernel
theorem J_HTape_next_d35 : decode J_HTape_next.2.1 35 = .ok (.goto 4, 3) := by decide +kernel
theorem J_HTape_next_d38 : decode J_HTape_next.2.1 38 = .ok (.iconst (-1), 1) := by decide +kernel
theorem J_HTape_next_d39 : decode J_HTape_next.2.1 39 = .ok (.ireturn, 1) := by decide +kernel
theorem J_HTape_next_d40 : decode J_HTape_next.2.1 40 = .ok (.aload_n 0, 1) := by decide +kernel
theorem J_HTape_next_d41 : decode J_HTape_next.2.1 41 = .ok (.getfield 28, 3) := by decide +kernel
theorem J_HTape_next_d44 : decode J_HTape_next.2.1 44 = .ok (.aload_n 0, 1) := by decide +kernel
theorem J_HTape_next_d45 : decode J_HTape_next.2.1 45 = .ok (.getfield 44, 3) := by decide +kernel
theorem J_HTape_next_d48 : decode J_HTape_next.2.1 48 = .ok (.iaload, 1) := by decide +kernel
theorem J_HTape_next_d49 : decode J_HTape_next.2.1 49 = .ok (.istore_n 2, 1) := by decide +kernel
theorem J_HTape_next_d50 : decode J_HTape_next.2.1 50 = .ok (.iload_n 1, 1) := by decide +kernel
theorem J_HTape_next_d51 : decode J_HTape_next.2.1 51 = .ok (.aload_n 0, 1) := by decide +kernel
theorem J_HTape_next_d52 : decode J_HTape_next.2.1 52 = .ok (.getfield 18, 3) := by decide +kernel
theorem J_HTape_next_d55 : decode J_HTape_next.2.1 55 = .ok (.iload_n 2, 1) := by decide +kernel
theorem J_HTape_next_d56 : decode J_HTape_next.2.1 56 = .ok (.iaload, 1) := by decide +kernel
theorem J_HTape_next_d57 : decode J_HTape_next.2.1 57 = .ok (.if_icmp .ge 22, 3) := by decide +kernel
theorem J_HTape_next_d60 : decode J_HTape_next.2.1 60 = .ok (.aload_n 0, 1) := by decide +kernel
theorem J_HTape_next_d61 : decode J_HTape_next.2.1 61 = .ok (.getfield 15, 3) := by decide +kernel
theorem J_HTape_next_d64 : decode J_HTape_next.2.1 64 = .ok (.iload_n 2, 1) := by decide +kernel
theorem J_HTape_next_d65 : decode J_HTape_next.2.1 65 = .ok (.sipush 400, 3) := by decide +kernel
theorem J_HTape_next_d68 : decode J_HTape_next.2.1 68 = .ok (.imul, 1) := by decide +kernel
theorem J_HTape_next_d69 : decode J_HTape_next.2.1 69 = .ok (.iload_n 1, 1) := by decide +kernel
theorem J_HTape_next_d70 : decode J_HTape_next.2.1 70 = .ok (.iadd, 1) := by decide +kernel
theorem J_HTape_next_d71 : decode J_HTape_next.2.1 71 = .ok (.baload, 1) := by decide +kernel
theorem J_HTape_next_d72 : decode J_HTape_next.2.1 72 = .ok (.sipush 255, 3) := by decide +kernel
theorem J_HTape_next_d75 : decode J_HTape_next.2.1 75 = .ok (.iand, 1) := by decide +kernel
theorem J_HTape_next_d76 : decode J_HTape_next.2.1 76 = .ok (.goto 4, 3) := by decide +kernel
theorem J_HTape_next_d79 : decode J_HTape_next.2.1 79 = .ok (.iconst (-1), 1) := by decide +kernel
theorem J_HTape_next_d80 : decode J_HTape_next.2.1 80 = .ok (.ireturn, 1) := by decide +kernel
theorem f_HTape_next_ok {L : Nat} {xs : Nat → Int32} {dep : Nat} {w : Bool} {M : im_M} {Q : Int32 → Prop} (hM : lw_S w M) (h : ed (f_HTape_next M) Q) : ia (tb_G L xs) dep J_HTape_next (rpI M Q) (0, lv_args 0 [.ref 1], [], M) := by
  have hS : im_St (tb_G L xs) dep J_HTape_next (ia (tb_G L xs) dep J_HTape_next (rpI M Q)) := ia_St
  unfold f_HTape_next at h
  have l0 : im_lk (lv_args 0 [.ref 1]) 0 = some (.ref 1) := rfl
  refine iq_aload_n hS 1 J_HTape_next_d0 l0 rfl ?_
  refine iq_getR hS 4 J_HTape_next_d1 lf_10_31 (Or.inr ⟨_, rfl⟩) (ka_1 hM) (ra_1_8 hM) rfl ?_
  refine iq_aload_n hS 5 J_HTape_next_d4 l0 rfl ?_
  refine iq_getI hS 8 J_HTape_next_d5 lf_10_44 (Or.inl rfl) (ka_1 hM) rfl ?_
  obtain ⟨g8, h⟩ := ed_gd h
  refine iq_iaload hS 9 J_HTape_next_d8 ⟨(ka_8 hM).1, (ka_8 hM).2, g8.1, ix_lt (kl_8 hM) g8.2⟩ rfl ?_
  refine iq_istore_n hS 10 J_HTape_next_d9 (by decide) rfl ?_
  refine iq_aload_n hS 11 J_HTape_next_d10 (lk_1r l0 (by decide)) rfl ?_
  refine iq_getI hS 14 J_HTape_next_d11 lf_10_44 (Or.inl rfl) (ka_1 hM) rfl ?_
  refine iq_if_ne hS 17 J_HTape_next_d14 (t := 40) rfl (fun q14 => ?_) rfl (fun q14 => ?_)
  · replace h := ed_pos q14 h
    refine iq_aload_n hS 41 J_HTape_next_d40 (lk_1r l0 (by decide)) rfl ?_
    refine iq_getR hS 44 J_HTape_next_d41 lf_10_28 (Or.inr ⟨_, rfl⟩) (ka_1 hM) (ra_1_7 hM) rfl ?_
    refine iq_aload_n hS 45 J_HTape_next_d44 (lk_1r l0 (by decide)) rfl ?_
    refine iq_getI hS 48 J_HTape_next_d45 lf_10_44 (Or.inl rfl) (ka_1 hM) rfl ?_
    obtain ⟨g48, h⟩ := ed_gd h
    refine iq_iaload hS 49 J_HTape_next_d48 ⟨(ka_7 hM).1, (ka_7 hM).2, g48.1, ix_lt (kl_7 hM) g48.2⟩ rfl ?_
    refine iq_istore_n hS 50 J_HTape_next_d49 (by decide) rfl ?_
    refine iq_iload_n hS 51 J_HTape_next_d50 (lk_1i lk_1s (by decide)) rfl ?_
    refine iq_aload_n hS 52 J_HTape_next_d51 (lk_1r (lk_1r l0 (by decide)) (by decide)) rfl ?_
    refine iq_getR hS 55 J_HTape_next_d52 lf_10_18 (Or.inr ⟨_, rfl⟩) (ka_1 hM) (ra_1_3 hM) rfl ?_
    refine iq_iload_n hS 56 J_HTape_next_d55 lk_1s rfl ?_
    obtain ⟨g56, h⟩ := ed_gd h
    refine iq_iaload hS 57 J_HTape_next_d56 ⟨(ka_4 hM).1, (ka_4 hM).2, g56.1, ix_lt (kl_4 hM) g56.2⟩ rfl ?_
    refine iq_icmp_ge hS 60 J_HTape_next_d57 (t := 79) rfl (fun q57 => ?_) rfl (fun q57 => ?_)
    · replace h := ed_pos q57 h
      refine iq_iconst hS 80 J_HTape_next_d79 (v := (-1)) (by decide +kernel) rfl ?_
      exact iq_iret J_HTape_next_d80 rfl rfl ⟨_, rfl, rfl, ed_some h⟩
    · replace h := ed_neg q57 h
      refine iq_aload_n hS 61 J_HTape_next_d60 (lk_1r (lk_1r l0 (by decide)) (by decide)) rfl ?_
      refine iq_getR hS 64 J_HTape_next_d61 lf_10_15 (Or.inr ⟨_, rfl⟩) (ka_1 hM) (ra_1_2 hM) rfl ?_
      refine iq_iload_n hS 65 J_HTape_next_d64 lk_1s rfl ?_
      refine iq_sipush hS 68 J_HTape_next_d65 (v := 400) (by decide +kernel) rfl ?_
      refine iq_imul hS 69 J_HTape_next_d68 rfl ?_
      refine iq_iload_n hS 70 J_HTape_next_d69 (lk_1i lk_1s (by decide)) rfl ?_
      refine iq_iadd hS 71 J_HTape_next_d70 rfl ?_
      obtain ⟨g71, h⟩ := ed_gd h
      refine iq_baload hS 72 J_HTape_next_d71 ⟨(ka_3 hM).1, (ka_3 hM).2, g71.1, ix_lt (kl_3 hM) g71.2⟩ rfl ?_
      refine iq_sipush hS 75 J_HTape_next_d72 (v := 255) (by decide +kernel) rfl ?_
      refine iq_iand hS 76 J_HTape_next_d75 rfl ?_
      refine iq_goto hS J_HTape_next_d76 (t := 80) rfl ?_
      exact iq_iret J_HTape_next_d80 rfl rfl ⟨_, rfl, rfl, ed_some h⟩
  · replace h := ed_neg q14 h
    refine iq_iload_n hS 18 J_HTape_next_d17 lk_1s rfl ?_
    refine iq_aload_n hS 19 J_HTape_next_d18 (lk_1r l0 (by decide)) rfl ?_
    refine iq_getI hS 22 J_HTape_next_d19 lf_10_40 (Or.inl rfl) (ka_1 hM) rfl ?_
    refine iq_icmp_ge hS 25 J_HTape_next_d22 (t := 38) rfl (fun q22 => ?_) rfl (fun q22 => ?_)
    · replace h := ed_pos q22 h
      refine iq_iconst hS 39 J_HTape_next_d38 (v := (-1)) (by decide +kernel) rfl ?_
      exact iq_iret J_HTape_next_d39 rfl rfl ⟨_, rfl, rfl, ed_some h⟩
    · replace h := ed_neg q22 h
      refine iq_aload_n hS 26 J_HTape_next_d25 (lk_1r l0 (by decide)) rfl ?_
      refine iq_getR hS 29 J_HTape_next_d26 lf_10_11 (Or.inr ⟨_, rfl⟩) (ka_1 hM) (ra_1_0 hM) rfl ?_
      refine iq_iload_n hS 30 J_HTape_next_d29 lk_1s rfl ?_
      obtain ⟨g30, h⟩ := ed_gd h
      refine iq_baload hS 31 J_HTape_next_d30 ⟨(ka_2 hM).1, (ka_2 hM).2, g30.1, ix_lt (kl_2 hM) g30.2⟩ rfl ?_
      refine iq_sipush hS 34 J_HTape_next_d31 (v := 255) (by decide +kernel) rfl ?_
      refine iq_iand hS 35 J_HTape_next_d34 rfl ?_
      refine iq_goto hS J_HTape_next_d35 (t := 39) rfl ?_
      exact iq_iret J_HTape_next_d39 rfl rfl ⟨_, rfl, rfl, ed_some h⟩
noncomputable def f_HTape_pass (M : im_M) : Option (im_M) := gd (inb (im_i M 1 6) 5) <| gd (inb (im_i M 1 6) 5) <| some (im_setI M 8 (Int32.toNatClampNeg (im_i M 1 6)) ((im_i M 8 (Int32.toNatClampNeg (im_i M 1 6))) + 1))
theorem J_HTape_pass_d0 : decode J_HTape_pass.2.1 0 = .ok (.aload_n 0, 1) := by decide +kernel
theorem J_HTape_pass_d1 : decode J_HTape_pass.2.1 1 = .ok (.getfield 31, 3) := by decide +kernel
theorem J_HTape_pass_d4 : decode J_HTape_pass.2.1 4 = .ok (.aload_n 0, 1) := by decide +kernel
theorem J_HTape_pass_d5 : decode J_HTape_pass.2.1 5 = .ok (.getfield 44, 3) := by decide +kernel
theorem J_HTape_pass_d8 : decode J_HTape_pass.2.1 8 = .ok (.dup2, 1) := by decide +kernel
theorem J_HTape_pass_d9 : decode J_HTape_pass.2.1 9 = .ok (.iaload, 1) := by decide +kernel
theorem J_HTape_pass_d10 : decode J_HTape_pass.2.1 10 = .ok (.iconst 1, 1) := by decide +kernel
theorem J_HTape_pass_d11 : decode J_HTape_pass.2.1 11 = .ok (.iadd, 1) := by decide +kernel
theorem J_HTape_pass_d12 : decode J_HTape_pass.2.1 12 = .ok (.iastore, 1) := by decide +kernel
theorem J_HTape_pass_d13 : decode J_HTape_pass.2.1 13 = .ok (.return_, 1) := by decide +kernel
theorem f_HTape_pass_ok {L : Nat} {xs : Nat → Int32} {dep : Nat} {w : Bool} {M : im_M} {Q : im_M → Prop} (hM : lw_S w M) (h : ed (f_HTape_pass M) Q) : ia (tb_G L xs) dep J_HTape_pass (rwV w Q) (0, lv_args 0 [.ref 1], [], M) := by
  have hS : im_St (tb_G L xs) dep J_HTape_pass (ia (tb_G L xs) dep J_HTape_pass (rwV w Q)) := ia_St
  unfold f_HTape_pass at h
  have l0 : im_lk (lv_args 0 [.ref 1]) 0 = some (.ref 1) := rfl
  refine iq_aload_n hS 1 J_HTape_pass_d0 l0 rfl ?_
  refine iq_getR hS 4 J_HTape_pass_d1 lf_10_31 (Or.inr ⟨_, rfl⟩) (ka_1 hM) (ra_1_8 hM) rfl ?_
  refine iq_aload_n hS 5 J_HTape_pass_d4 l0 rfl ?_
  refine iq_getI hS 8 J_HTape_pass_d5 lf_10_44 (Or.inl rfl) (ka_1 hM) rfl ?_
  refine iq_dup2 hS 9 J_HTape_pass_d8 rfl rfl rfl ?_
  obtain ⟨g9, h⟩ := ed_gd h
  refine iq_iaload hS 10 J_HTape_pass_d9 ⟨(ka_8 hM).1, (ka_8 hM).2, g9.1, ix_lt (kl_8 hM) g9.2⟩ rfl ?_
  refine iq_iconst hS 11 J_HTape_pass_d10 (v := 1) (by decide +kernel) rfl ?_
  refine iq_iadd hS 12 J_HTape_pass_d11 rfl ?_
  obtain ⟨g12, h⟩ := ed_gd h
  refine iq_iastore hS 13 J_HTape_pass_d12 ⟨(ka_8 hM).1, (ka_8 hM).2, g12.1, ix_lt (kl_8 hM) g12.2⟩ rfl ?_
  exact iq_ret J_HTape_pass_d13 rfl ⟨rfl, (lw_sI hM), ed_some h⟩
theorem f_HTape_pass_fr {M : im_M} {r : im_M} (h : f_HTape_pass M = some r) : fr 256 [] M r := by
  replace h : ed (f_HTape_pass M) (fun x => x = r) := ⟨r, h, rfl⟩
  unfold f_HTape_pass at h
  obtain ⟨g9, h⟩ := ed_gd h
  obtain ⟨g12, h⟩ := ed_gd h
  exact fr_retV h (fr_I (by decide) fr_refl)
noncomputable def f_HTape_passBlanks_L2 (x2 : Int32) (M3 : im_M) : Option ((Int32 × im_M) ⊕ (im_M)) := if 4096 ≤ x2 then some (.inr M3) else bd1 (f_HTape_next M3) fun (x4 : Int32) => if x4 < 0 then some (.inr M3) else bd1 (f_HTape_next M3) fun (x5 : Int32) => if 32 < x5 then some (.inr M3) else bd1 (f_HTape_pass M3) fun (M6 : im_M) => some (.inl ((x2 + 1), M6))
noncomputable def f_HTape_passBlanks (M : im_M) : Option (im_M) := bd1 (lp (uc2 (f_HTape_passBlanks_L2)) (0, M)) fun (M7 : im_M) => some M7
theorem J_HTape_passBlanks_d0 : decode J_HTape_passBlanks.2.1 0 = .ok (.iconst 0, 1) := by decide +kernel
theorem J_HTape_passBlanks_d1 : decode J_HTape_passBlanks.2.1 1 = .ok (.istore_n 1, 1) := by decide +kernel
theorem J_HTape_passBlanks_d2 : decode J_HTape_passBlanks.2.1 2 = .ok (.iload_n 1, 1) := by decide +kernel
theorem J_HTape_passBlanks_d3 : decode J_HTape_passBlanks.2.1 3 = .ok (.sipush 4096, 3) := by decide +kernel
theorem J_HTape_passBlanks_d6 : decode J_HTape_passBlanks.2.1 6 = .ok (.if_icmp .ge 29, 3) := by decide +kernel
theorem J_HTape_passBlanks_d9 : decode J_HTape_passBlanks.2.1 9 = .ok (.aload_n 0, 1) := by decide +kernel
theorem J_HTape_passBlanks_d10 : decode J_HTape_passBlanks.2.1 10 = .ok (.invokevirtual 47, 3) := by decide +kernel
theorem J_HTape_passBlanks_d13 : decode J_HTape_passBlanks.2.1 13 = .ok (.ifCond .lt 22, 3) := by decide +kernel
theorem J_HTape_passBlanks_d16 : decode J_HTape_passBlanks.2.1 16 = .ok (.aload_n 0, 1) := by decide +kernel
theorem J_HTape_passBlanks_d17 : decode J_HTape_passBlanks.2.1 17 = .ok (.invokevirtual 47, 3) := by decide +kernel
theorem J_HTape_passBlanks_d20 : decode J_HTape_passBlanks.2.1 20 = .ok (.bipush 32, 2) := by decide +kernel
theorem J_HTape_passBlanks_d22 : decode J_HTape_passBlanks.2.1 22 = .ok (.if_icmp .gt 13, 3) := by decide +kernel
theorem J_HTape_passBlanks_d25 : decode J_HTape_passBlanks.2.1 25 = .ok (.aload_n 0, 1) := by decide +kernel
theorem J_HTape_passBlanks_d26 : decode J_HTape_passBlanks.2.1 26 = .ok (.invokevirtual 51, 3) := by decide +kernel
theorem J_HTape_passBlanks_d29 : decode J_HTape_passBlanks.2.1 29 = .ok (.iinc 1 1, 3) := by decide +kernel
theorem J_HTape_passBlanks_d32 : decode J_HTape_passBlanks.2.1 32 = .ok (.goto (-30), 3) := by decide +kernel
theorem J_HTape_passBlanks_d35 : decode J_HTape_passBlanks.2.1 35 = .ok (.return_, 1) := by decide +kernel
theorem f_HTape_passBlanks_ok {L : Nat} {xs : Nat → Int32} {dep : Nat} {w : Bool} {M : im_M} {Q : im_M → Prop} (hM : lw_S w M) (h : ed (f_HTape_passBlanks M) Q) : ia (tb_G L xs) (dep + 1) J_HTape_passBlanks (rwV w Q) (0, lv_args 0 [.ref 1], [], M) := by
  have hS : im_St (tb_G L xs) (dep + 1) J_HTape_passBlanks (ia (tb_G L xs) (dep + 1) J_HTape_passBlanks (rwV w Q)) := ia_St
  unfold f_HTape_passBlanks at h
  have l0 : im_lk (lv_args 0 [.ref 1]) 0 = some (.ref 1) := rfl
  refine iq_iconst hS 1 J_HTape_passBlanks_d0 (v := 0) (by decide +kernel) rfl ?_
  refine iq_istore_n hS 2 J_HTape_passBlanks_d1 (by decide) rfl ?_
  obtain ⟨Q1, hQ1, h⟩ := bd1_ed h
  have K1 : ∀ (M2 : im_M) (L' : List (Nat × Value)), lw_S w M2 → Q1 M2 → ia (tb_G L xs) (dep + 1) J_HTape_passBlanks (rwV w Q) (35, L', [], M2) := by
    intro M2 L' hM2  h
    replace h := hQ1 _ h
    exact iq_ret J_HTape_passBlanks_d35 rfl ⟨rfl, hM2, ed_some h⟩
  obtain ⟨r1, hr1, hq1⟩ := h
  obtain ⟨n1, hn1⟩ := lp_n hr1
  have I1 : ∀ (n : Nat) (x3 : Int32) (M4 : im_M) (L' : List (Nat × Value)), lw_S w M4 → im_lk L' 0 = some (.ref 1) → im_lk L' 1 = some (.int x3) → lpn (uc2 (f_HTape_passBlanks_L2)) n (x3, M4) = some r1 → ia (tb_G L xs) (dep + 1) J_HTape_passBlanks (rwV w Q) (2, L', [], M4) := by
    intro n
    induction n with
    | zero => intro x3 M4 L' hM4 l5 l6 hn; exact (lpn_0 hn).elim
    | succ n ih =>
      intro x3 M4 L' hM4 l5 l6 hn
      have h := lpn_ed2 hn
      unfold f_HTape_passBlanks_L2 at h
      refine iq_iload_n hS 3 J_HTape_passBlanks_d2 l6 rfl ?_
      refine iq_sipush hS 6 J_HTape_passBlanks_d3 (v := 4096) (by decide +kernel) rfl ?_
      refine iq_icmp_ge hS 9 J_HTape_passBlanks_d6 (t := 35) rfl (fun q6 => ?_) rfl (fun q6 => ?_)
      · replace h := ed_pos q6 h
        exact K1 _ _ hM4  (lq_r h hq1)
      · replace h := ed_neg q6 h
        refine iq_aload_n hS 10 J_HTape_passBlanks_d9 l5 rfl ?_
        obtain ⟨Q7, hQ7, h⟩ := bd1_ed h
        refine iq_cpI hS 13 J_HTape_passBlanks_d10 rfl (pr_inst (vs := []) lc_10_47 lT_17 rfl rfl (by decide) (by decide) rfl (Nat.le_of_ble_eq_true rfl) (Nat.le_of_ble_eq_true rfl) (fun _ => Or.inl (pr_b (ka_1 hM4) (by decide) rfl))) (f_HTape_next_ok (dep := dep + 0) hM4 h) rfl ?_
        intro x7 h
        replace h := hQ7 _ h
        refine iq_if_lt hS 16 J_HTape_passBlanks_d13 (t := 35) rfl (fun q13 => ?_) rfl (fun q13 => ?_)
        · replace h := ed_pos q13 h
          exact K1 _ _ hM4  (lq_r h hq1)
        · replace h := ed_neg q13 h
          refine iq_aload_n hS 17 J_HTape_passBlanks_d16 l5 rfl ?_
          obtain ⟨Q8, hQ8, h⟩ := bd1_ed h
          refine iq_cpI hS 20 J_HTape_passBlanks_d17 rfl (pr_inst (vs := []) lc_10_47 lT_17 rfl rfl (by decide) (by decide) rfl (Nat.le_of_ble_eq_true rfl) (Nat.le_of_ble_eq_true rfl) (fun _ => Or.inl (pr_b (ka_1 hM4) (by decide) rfl))) (f_HTape_next_ok (dep := dep + 0) hM4 h) rfl ?_
          intro x8 h
          replace h := hQ8 _ h
          refine iq_bipush hS 22 J_HTape_passBlanks_d20 (v := 32) (by decide +kernel) rfl ?_
          refine iq_icmp_gt hS 25 J_HTape_passBlanks_d22 (t := 35) rfl (fun q22 => ?_) rfl (fun q22 => ?_)
          · replace h := ed_pos q22 h
            exact K1 _ _ hM4  (lq_r h hq1)
          · replace h := ed_neg q22 h
            refine iq_aload_n hS 26 J_HTape_passBlanks_d25 l5 rfl ?_
            obtain ⟨Q9, hQ9, h⟩ := bd1_ed h
            refine iq_cwV hS 29 J_HTape_passBlanks_d26 rfl (pr_inst (vs := []) lc_10_51 lT_18 rfl rfl (by decide) (by decide) rfl (Nat.le_of_ble_eq_true rfl) (Nat.le_of_ble_eq_true rfl) (fun _ => Or.inl (pr_b (ka_1 hM4) (by decide) rfl))) (f_HTape_pass_ok (dep := dep + 0) hM4 h) rfl ?_
            intro M9 hM9 h
            replace h := hQ9 _ h
            refine iq_iincv hS 32 J_HTape_passBlanks_d29 (c := 1) (by decide +kernel) l6 (by decide) rfl ?_
            refine iq_goto hS J_HTape_passBlanks_d32 (t := 2) rfl ?_
            exact ih _ _ _ hM9 (lk_1r l5 (by decide)) lk_1s (lq_l h)
  exact I1 n1 _ _ _ hM (lk_1r l0 (by decide)) lk_1s hn1
theorem f_HTape_passBlanks_fr {M : im_M} {r : im_M} (h : f_HTape_passBlanks M = some r) : fr 256 [] M r := by
  replace h : ed (f_HTape_passBlanks M) (fun x => x = r) := ⟨r, h, rfl⟩
  unfold f_HTape_passBlanks at h
  obtain ⟨Q1, hQ1, h⟩ := bd1_ed h
  have K1 : ∀ (M2 : im_M), fr 256 [] M M2 → Q1 M2 → fr 256 [] M r := by
    intro M2 hM2 h
    replace h := hQ1 _ h
    exact fr_retV h hM2
  obtain ⟨r1, hr1, hq1⟩ := h
  obtain ⟨n1, hn1⟩ := lp_n hr1
  have I1 : ∀ (n : Nat) (x3 : Int32) (M4 : im_M), fr 256 [] M M4 → lpn (uc2 (f_HTape_passBlanks_L2)) n (x3, M4) = some r1 → fr 256 [] M r := by
    intro n
    induction n with
    | zero => intro x3 M4 hM4 hn; exact (lpn_0 hn).elim
    | succ n ih =>
      intro x3 M4 hM4 hn
      have h := lpn_ed2 hn
      unfold f_HTape_passBlanks_L2 at h
      by_cases q6 : 4096 ≤ x3
      · replace h := ed_pos q6 h
        exact K1 _ hM4 (lq_r h hq1)
      · replace h := ed_neg q6 h
        obtain ⟨Q5, hQ5, h⟩ := bd1_ed h
        obtain ⟨x5, e5, h⟩ := h
        replace h := hQ5 _ h
        by_cases q13 : x5 < 0
        · replace h := ed_pos q13 h
          exact K1 _ hM4 (lq_r h hq1)
        · replace h := ed_neg q13 h
          obtain ⟨Q6, hQ6, h⟩ := bd1_ed h
          obtain ⟨x6, e6, h⟩ := h
          replace h := hQ6 _ h
          by_cases q22 : 32 < x6
          · replace h := ed_pos q22 h
            exact K1 _ hM4 (lq_r h hq1)
          · replace h := ed_neg q22 h
            obtain ⟨Q7, hQ7, h⟩ := bd1_ed h
            obtain ⟨M7, e7, h⟩ := h
            replace h := hQ7 _ h
            exact ih _ _ (fr_tr (fr_mono (by decide) (by decide +kernel) (f_HTape_pass_fr e7)) hM4) (lq_l h)
  exact I1 n1 _ _ fr_refl hn1
noncomputable def f_String_isLatin1 (M : im_M) : Option (Int32) := if (1 : Int32) = 0 then some 0 else if ¬ (0 : Int32) = 0 then some 0 else some 1
theorem J_String_isLatin1_d0 : decode J_String_isLatin1.2.1 0 = .ok (.getstatic 38, 3) := by decide +kernel
theorem J_String_isLatin1_d3 : decode J_String_isLatin1.2.1 3 = .ok (.ifCond .eq 14, 3) := by decide +kernel
theorem J_String_isLatin1_d6 : decode J_String_isLatin1.2.1 6 = .ok (.aload_n 0, 1) := by decide +kernel
theorem J_String_isLatin1_d7 : decode J_String_isLatin1.2.1 7 = .ok (.getfield 15, 3) := by decide +kernel
theorem J_String_isLatin1_d10 : decode J_String_isLatin1.2.1 10 = .ok (.ifCond .ne 7, 3) := by decide +kernel
theorem J_String_isLatin1_d13 : decode J_String_isLatin1.2.1 13 = .ok (.iconst 1, 1) := by decide +kernel
theorem J_String_isLatin1_d14 : decode J_String_isLatin1.2.1 14 = .ok (.goto 4, 3) := by decide +kernel
theorem J_String_isLatin1_d17 : decode J_String_isLatin1.2.1 17 = .ok (.iconst 0, 1) := by decide +kernel
theorem J_String_isLatin1_d18 : decode J_String_isLatin1.2.1 18 = .ok (.ireturn, 1) := by decide +kernel
theorem f_String_isLatin1_ok {L : Nat} {xs : Nat → Int32} {dep : Nat} {w : Bool} {M : im_M} {Q : Int32 → Prop} (hM : lw_S w M) (h : ed (f_String_isLatin1 M) Q) : ia (tb_G L xs) dep J_String_isLatin1 (rpI M Q) (0, lv_args 0 [.ref 2000000], [], M) := by
  have hS : im_St (tb_G L xs) dep J_String_isLatin1 (ia (tb_G L xs) dep J_String_isLatin1 (rpI M Q)) := ia_St
  unfold f_String_isLatin1 at h
  have l0 : im_lk (lv_args 0 [.ref 2000000]) 0 = some (.ref 2000000) := rfl
  refine iq_getstatic hS 3 J_String_isLatin1_d0 gs_19_38 rfl ?_
  refine iq_if_eq hS 6 J_String_isLatin1_d3 (t := 17) rfl (fun q3 => ?_) rfl (fun q3 => ?_)
  · replace h := ed_pos q3 h
    refine iq_iconst hS 18 J_String_isLatin1_d17 (v := 0) (by decide +kernel) rfl ?_
    exact iq_iret J_String_isLatin1_d18 rfl rfl ⟨_, rfl, rfl, ed_some h⟩
  · replace h := ed_neg q3 h
    refine iq_aload_n hS 7 J_String_isLatin1_d6 l0 rfl ?_
    refine iq_xcod hS 10 J_String_isLatin1_d7 (gf_of (by decide +kernel)) (gvT_of (by decide +kernel)) xks_0 rfl ?_
    refine iq_if_ne hS 13 J_String_isLatin1_d10 (t := 17) rfl (fun q10 => ?_) rfl (fun q10 => ?_)
    · replace h := ed_pos q10 h
      refine iq_iconst hS 18 J_String_isLatin1_d17 (v := 0) (by decide +kernel) rfl ?_
      exact iq_iret J_String_isLatin1_d18 rfl rfl ⟨_, rfl, rfl, ed_some h⟩
    · replace h := ed_neg q10 h
      refine iq_iconst hS 14 J_String_isLatin1_d13 (v := 1) (by decide +kernel) rfl ?_
      refine iq_goto hS J_String_isLatin1_d14 (t := 18) rfl ?_
      exact iq_iret J_String_isLatin1_d18 rfl rfl ⟨_, rfl, rfl, ed_some h⟩
noncomputable def f_String_coder (M : im_M) : Option (Int32) := if (1 : Int32) = 0 then some 1 else some 0
theorem J_String_coder_d0 : decode J_String_coder.2.1 0 = .ok (.getstatic 38, 3) := by decide +kernel
theorem J_String_coder_d3 : decode J_String_coder.2.1 3 = .ok (.ifCond .eq 10, 3) := by decide +kernel
theorem J_String_coder_d6 : decode J_String_coder.2.1 6 = .ok (.aload_n 0, 1) := by decide +kernel
theorem J_String_coder_d7 : decode J_String_coder.2.1 7 = .ok (.getfield 15, 3) := by decide +kernel
theorem J_String_coder_d10 : decode J_String_coder.2.1 10 = .ok (.goto 4, 3) := by decide +kernel
theorem J_String_coder_d13 : decode J_String_coder.2.1 13 = .ok (.iconst 1, 1) := by decide +kernel
theorem J_String_coder_d14 : decode J_String_coder.2.1 14 = .ok (.ireturn, 1) := by decide +kernel
theorem f_String_coder_ok {L : Nat} {xs : Nat → Int32} {dep : Nat} {w : Bool} {M : im_M} {Q : Int32 → Prop} (hM : lw_S w M) (h : ed (f_String_coder M) Q) : ia (tb_G L xs) dep J_String_coder (rpI M Q) (0, lv_args 0 [.ref 2000000], [], M) := by
  have hS : im_St (tb_G L xs) dep J_String_coder (ia (tb_G L xs) dep J_String_coder (rpI M Q)) := ia_St
  unfold f_String_coder at h
  have l0 : im_lk (lv_args 0 [.ref 2000000]) 0 = some (.ref 2000000) := rfl
  refine iq_getstatic hS 3 J_String_coder_d0 gs_19_38 rfl ?_
  refine iq_if_eq hS 6 J_String_coder_d3 (t := 13) rfl (fun q3 => ?_) rfl (fun q3 => ?_)
  · replace h := ed_pos q3 h
    refine iq_iconst hS 14 J_String_coder_d13 (v := 1) (by decide +kernel) rfl ?_
    exact iq_iret J_String_coder_d14 rfl rfl ⟨_, rfl, rfl, ed_some h⟩
  · replace h := ed_neg q3 h
    refine iq_aload_n hS 7 J_String_coder_d6 l0 rfl ?_
    refine iq_xcod hS 10 J_String_coder_d7 (gf_of (by decide +kernel)) (gvT_of (by decide +kernel)) xks_0 rfl ?_
    refine iq_goto hS J_String_coder_d10 (t := 14) rfl ?_
    exact iq_iret J_String_coder_d14 rfl rfl ⟨_, rfl, rfl, ed_some h⟩
noncomputable def f_String_length (M : im_M) : Option (Int32) := bd1 (f_String_coder M) fun (x1 : Int32) => some ((Int32.ofNat 23) >>> (x1 &&& 31 : Int32) : Int32)
theorem J_String_length_d0 : decode J_String_length.2.1 0 = .ok (.aload_n 0, 1) := by decide +kernel
theorem J_String_length_d1 : decode J_String_length.2.1 1 = .ok (.getfield 9, 3) := by decide +kernel
theorem J_String_length_d4 : decode J_String_length.2.1 4 = .ok (.arraylength, 1) := by decide +kernel
theorem J_String_length_d5 : decode J_String_length.2.1 5 = .ok (.aload_n 0, 1) := by decide +kernel
theorem J_String_length_d6 : decode J_String_length.2.1 6 = .ok (.invokevirtual 335, 3) := by decide +kernel
theorem J_String_length_d9 : decode J_String_length.2.1 9 = .ok (.ishr, 1) := by decide +kernel
theorem J_String_length_d10 : decode J_String_length.2.1 10 = .ok (.ireturn, 1) := by decide +kernel
theorem f_String_length_ok {L : Nat} {xs : Nat → Int32} {dep : Nat} {w : Bool} {M : im_M} {Q : Int32 → Prop} (hM : lw_S w M) (h : ed (f_String_length M) Q) : ia (tb_G L xs) (dep + 1) J_String_length (rpI M Q) (0, lv_args 0 [.ref 2000000], [], M) := by
  have hS : im_St (tb_G L xs) (dep + 1) J_String_length (ia (tb_G L xs) (dep + 1) J_String_length (rpI M Q)) := ia_St
  unfold f_String_length at h
  have l0 : im_lk (lv_args 0 [.ref 2000000]) 0 = some (.ref 2000000) := rfl
  refine iq_aload_n hS 1 J_String_length_d0 l0 rfl ?_
  refine iq_xval hS 4 J_String_length_d1 (gf_of (by decide +kernel)) (gvT_of (by decide +kernel)) xks_0 (b := 3000000) rfl rfl ?_
  refine iq_xalen hS 5 J_String_length_d4 (by rw [(hM).1]; decide) (Or.inr (by rw [xkb_0])) rfl ?_
  rw [xkb_0]
  refine iq_aload_n hS 6 J_String_length_d5 l0 rfl ?_
  obtain ⟨Q1, hQ1, h⟩ := bd1_ed h
  refine iq_cpI hS 9 J_String_length_d6 rfl (pr_inst (vs := []) lc_19_335 lT_24 rfl rfl (by decide) (by decide) rfl (Nat.le_of_ble_eq_true rfl) (Nat.le_of_ble_eq_true rfl) (fun _ => Or.inr ⟨xks_0, rfl⟩)) (f_String_coder_ok (dep := dep + 0) hM h) rfl ?_
  intro x1 h
  replace h := hQ1 _ h
  refine iq_ishr hS 10 J_String_length_d9 rfl ?_
  exact iq_iret J_String_length_d10 rfl rfl ⟨_, rfl, rfl, ed_some h⟩
noncomputable def f_StringLatin1_canEncode (p0 : Int32) (M : im_M) : Option (Int32) := if p0 < 0 then some 0 else if 255 < p0 then some 0 else some 1
theorem J_StringLatin1_canEncode_d0 : decode J_StringLatin1_canEncode.2.1 0 = .ok (.iload_n 0, 1) := by decide +kernel
theorem J_StringLatin1_canEncode_d1 : decode J_StringLatin1_canEncode.2.1 1 = .ok (.ifCond .lt 14, 3) := by decide +kernel
theorem J_StringLatin1_canEncode_d4 : decode J_StringLatin1_canEncode.2.1 4 = .ok (.iload_n 0, 1) := by decide +kernel
theorem J_StringLatin1_canEncode_d5 : decode J_StringLatin1_canEncode.2.1 5 = .ok (.sipush 255, 3) := by decide +kernel
theorem J_StringLatin1_canEncode_d8 : decode J_StringLatin1_canEncode.2.1 8 = .ok (.if_icmp .gt 7, 3) := by decide +kernel
theorem J_StringLatin1_canEncode_d11 : decode J_StringLatin1_canEncode.2.1 11 = .ok (.iconst 1, 1) := by decide +kernel
theorem J_StringLatin1_canEncode_d12 : decode J_StringLatin1_canEncode.2.1 12 = .ok (.goto 4, 3) := by decide +kernel
theorem J_StringLatin1_canEncode_d15 : decode J_StringLatin1_canEncode.2.1 15 = .ok (.iconst 0, 1) := by decide +kernel
theorem J_StringLatin1_canEncode_d16 : decode J_StringLatin1_canEncode.2.1 16 = .ok (.ireturn, 1) := by decide +kernel
theorem f_StringLatin1_canEncode_ok {L : Nat} {xs : Nat → Int32} {dep : Nat} {w : Bool} {p0 : Int32} {M : im_M} {Q : Int32 → Prop} (hM : lw_S w M) (h : ed (f_StringLatin1_canEncode p0 M) Q) : ia (tb_G L xs) dep J_StringLatin1_canEncode (rpI M Q) (0, lv_args 0 [.int p0], [], M) := by
  have hS : im_St (tb_G L xs) dep J_StringLatin1_canEncode (ia (tb_G L xs) dep J_StringLatin1_canEncode (rpI M Q)) := ia_St
  unfold f_StringLatin1_canEncode at h
  have l0 : im_lk (lv_args 0 [.int p0]) 0 = some (.int p0) := rfl
  refine iq_iload_n hS 1 J_StringLatin1_canEncode_d0 l0 rfl ?_
  refine iq_if_lt hS 4 J_StringLatin1_canEncode_d1 (t := 15) rfl (fun q1 => ?_) rfl (fun q1 => ?_)
  · replace h := ed_pos q1 h
    refine iq_iconst hS 16 J_StringLatin1_canEncode_d15 (v := 0) (by decide +kernel) rfl ?_
    exact iq_iret J_StringLatin1_canEncode_d16 rfl rfl ⟨_, rfl, rfl, ed_some h⟩
  · replace h := ed_neg q1 h
    refine iq_iload_n hS 5 J_StringLatin1_canEncode_d4 l0 rfl ?_
    refine iq_sipush hS 8 J_StringLatin1_canEncode_d5 (v := 255) (by decide +kernel) rfl ?_
    refine iq_icmp_gt hS 11 J_StringLatin1_canEncode_d8 (t := 15) rfl (fun q8 => ?_) rfl (fun q8 => ?_)
    · replace h := ed_pos q8 h
      refine iq_iconst hS 16 J_StringLatin1_canEncode_d15 (v := 0) (by decide +kernel) rfl ?_
      exact iq_iret J_StringLatin1_canEncode_d16 rfl rfl ⟨_, rfl, rfl, ed_some h⟩
    · replace h := ed_neg q8 h
      refine iq_iconst hS 12 J_StringLatin1_canEncode_d11 (v := 1) (by decide +kernel) rfl ?_
      refine iq_goto hS J_StringLatin1_canEncode_d12 (t := 16) rfl ?_
      exact iq_iret J_StringLatin1_canEncode_d16 rfl rfl ⟨_, rfl, rfl, ed_some h⟩
noncomputable def f_Math_max (p0 : Int32) (p1 : Int32) (M : im_M) : Option (Int32) := if p0 < p1 then some p1 else some p0
theorem J_Math_max_d0 : decode J_Math_max.2.1 0 = .ok (.iload_n 0, 1) := by decide +kernel
theorem J_Math_max_d1 : decode J_Math_max.2.1 1 = .ok (.iload_n 1, 1) := by decide +kernel
theorem J_Math_max_d2 : decode J_Math_max.2.1 2 = .ok (.if_icmp .lt 7, 3) := by decide +kernel
theorem J_Math_max_d5 : decode J_Math_max.2.1 5 = .ok (.iload_n 0, 1) := by decide +kernel
theorem J_Math_max_d6 : decode J_Math_max.2.1 6 = .ok (.goto 4, 3) := by decide +kernel
theorem J_Math_max_d9 : decode J_Math_max.2.1 9 = .ok (.iload_n 1, 1) := by decide +kernel
theorem J_Math_max_d10 : decode J_Math_max.2.1 10 = .ok (.ireturn, 1) := by decide +kernel
theorem f_Math_max_ok {L : Nat} {xs : Nat → Int32} {dep : Nat} {w : Bool} {p0 : Int32} {p1 : Int32} {M : im_M} {Q : Int32 → Prop} (hM : lw_S w M) (h : ed (f_Math_max p0 p1 M) Q) : ia (tb_G L xs) dep J_Math_max (rpI M Q) (0, lv_args 0 [.int p0, .int p1], [], M) := by
  have hS : im_St (tb_G L xs) dep J_Math_max (ia (tb_G L xs) dep J_Math_max (rpI M Q)) := ia_St
  unfold f_Math_max at h
  have l0 : im_lk (lv_args 0 [.int p0, .int p1]) 0 = some (.int p0) := rfl
  have l1 : im_lk (lv_args 0 [.int p0, .int p1]) 1 = some (.int p1) := rfl
  refine iq_iload_n hS 1 J_Math_max_d0 l0 rfl ?_
  refine iq_iload_n hS 2 J_Math_max_d1 l1 rfl ?_
  refine iq_icmp_lt hS 5 J_Math_max_d2 (t := 9) rfl (fun q2 => ?_) rfl (fun q2 => ?_)
  · replace h := ed_pos q2 h
    refine iq_iload_n hS 10 J_Math_max_d9 l1 rfl ?_
    exact iq_iret J_Math_max_d10 rfl rfl ⟨_, rfl, rfl, ed_some h⟩
  · replace h := ed_neg q2 h
    refine iq_iload_n hS 6 J_Math_max_d5 l0 rfl ?_
    refine iq_goto hS J_Math_max_d6 (t := 10) rfl ?_
    exact iq_iret J_Math_max_d10 rfl rfl ⟨_, rfl, rfl, ed_some h⟩
noncomputable def f_Math_min (p0 : Int32) (p1 : Int32) (M : im_M) : Option (Int32) := if p1 < p0 then some p1 else some p0
theorem J_Math_min_d0 : decode J_Math_min.2.1 0 = .ok (.iload_n 0, 1) := by decide +kernel
theorem J_Math_min_d1 : decode J_Math_min.2.1 1 = .ok (.iload_n 1, 1) := by decide +kernel
theorem J_Math_min_d2 : decode J_Math_min.2.1 2 = .ok (.if_icmp .gt 7, 3) := by decide +kernel
theorem J_Math_min_d5 : decode J_Math_min.2.1 5 = .ok (.iload_n 0, 1) := by decide +kernel
theorem J_Math_min_d6 : decode J_Math_min.2.1 6 = .ok (.goto 4, 3) := by decide +kernel
theorem J_Math_min_d9 : decode J_Math_min.2.1 9 = .ok (.iload_n 1, 1) := by decide +kernel
theorem J_Math_min_d10 : decode J_Math_min.2.1 10 = .ok (.ireturn, 1) := by decide +kernel
theorem f_Math_min_ok {L : Nat} {xs : Nat → Int32} {dep : Nat} {w : Bool} {p0 : Int32} {p1 : Int32} {M : im_M} {Q : Int32 → Prop} (hM : lw_S w M) (h : ed (f_Math_min p0 p1 M) Q) : ia (tb_G L xs) dep J_Math_min (rpI M Q) (0, lv_args 0 [.int p0, .int p1], [], M) := by
  have hS : im_St (tb_G L xs) dep J_Math_min (ia (tb_G L xs) dep J_Math_min (rpI M Q)) := ia_St
  unfold f_Math_min at h
  have l0 : im_lk (lv_args 0 [.int p0, .int p1]) 0 = some (.int p0) := rfl
  have l1 : im_lk (lv_args 0 [.int p0, .int p1]) 1 = some (.int p1) := rfl
  refine iq_iload_n hS 1 J_Math_min_d0 l0 rfl ?_
  refine iq_iload_n hS 2 J_Math_min_d1 l1 rfl ?_
  refine iq_icmp_gt hS 5 J_Math_min_d2 (t := 9) rfl (fun q2 => ?_) rfl (fun q2 => ?_)
  · replace h := ed_pos q2 h
    refine iq_iload_n hS 10 J_Math_min_d9 l1 rfl ?_
    exact iq_iret J_Math_min_d10 rfl rfl ⟨_, rfl, rfl, ed_some h⟩
  · replace h := ed_neg q2 h
    refine iq_iload_n hS 6 J_Math_min_d5 l0 rfl ?_
    refine iq_goto hS J_Math_min_d6 (t := 10) rfl ?_
    exact iq_iret J_Math_min_d10 rfl rfl ⟨_, rfl, rfl, ed_some h⟩
noncomputable def f_StringLatin1_indexOfChar_L7 (v2 : Int32) (v3 : Int32) (M5 : im_M) (x4 : Int32) : Option ((Int32) ⊕ ((Unit) ⊕ (Int32))) := if v2 ≤ x4 then some (.inr (.inl ())) else gd (inb x4 23) <| if ¬ (xb_0 x4) = v3 then some (.inl (x4 + 1)) else some (.inr (.inr x4))
noncomputable def f_StringLatin1_indexOfChar (p1 : Int32) (p2 : Int32) (p3 : Int32) (M : im_M) : Option (Int32) := bs0 (lp (uc1 (f_StringLatin1_indexOfChar_L7 p3 ((Int32.toInt8 p1).toInt32) M)) p2) (fun (_ : Unit) => some (-1)) (fun t => some t)
theorem J_StringLatin1_indexOfChar_d0 : decode J_StringLatin1_indexOfChar.2.1 0 = .ok (.iload_n 1, 1) := by decide +kernel
theorem J_StringLatin1_indexOfChar_d1 : decode J_StringLatin1_indexOfChar.2.1 1 = .ok (.i2b, 1) := by decide +kernel
theorem J_StringLatin1_indexOfChar_d2 : decode J_StringLatin1_indexOfChar.2.1 2 = .ok (.istore 4, 2) := by decide +kernel
theorem J_StringLatin1_indexOfChar_d4 : decode J_StringLatin1_indexOfChar.2.1 4 = .ok (.iload_n 2, 1) := by decide +kernel
theorem J_StringLatin1_indexOfChar_d5 : decode J_StringLatin1_indexOfChar.2.1 5 = .ok (.istore 5, 2) := by decide +kernel
theorem J_StringLatin1_indexOfChar_d7 : decode J_StringLatin1_indexOfChar.2.1 7 = .ok (.iload 5, 2) := by decide +kernel
theorem J_StringLatin1_indexOfChar_d9 : decode J_StringLatin1_indexOfChar.2.1 9 = .ok (.iload_n 3, 1) := by decide +kernel
theorem J_StringLatin1_indexOfChar_d10 : decode J_StringLatin1_indexOfChar.2.1 10 = .ok (.if_icmp .ge 21, 3) := by decide +kernel
theorem J_StringLatin1_indexOfChar_d13 : decode J_StringLatin1_indexOfChar.2.1 13 = .ok (.aload_n 0, 1) := by decide +kernel
theorem J_StringLatin1_indexOfChar_d14 : decode J_StringLatin1_indexOfChar.2.1 14 = .ok (.iload 5, 2) := by decide +kernel
theorem J_StringLatin1_indexOfChar_d16 : decode J_StringLatin1_indexOfChar.2.1 16 = .ok (.baload, 1) := by decide +kernel
theorem J_StringLatin1_indexOfChar_d17 : decode J_StringLatin1_indexOfChar.2.1 17 = .ok (.iload 4, 2) := by decide +kernel
theorem J_StringLatin1_indexOfChar_d19 : decode J_StringLatin1_indexOfChar.2.1 19 = .ok (.if_icmp .ne 6, 3) := by decide +kernel
theorem J_StringLatin1_indexOfChar_d22 : decode J_StringLatin1_indexOfChar.2.1 22 = .ok (.iload 5, 2) := by decide +kernel
theorem J_StringLatin1_indexOfChar_d24 : decode J_StringLatin1_indexOfChar.2.1 24 = .ok (.ireturn, 1) := by decide +kernel
theorem J_StringLatin1_indexOfChar_d25 : decode J_StringLatin1_indexOfChar.2.1 25 = .ok (.iinc 5 1, 3) := by decide +kernel
theorem J_StringLatin1_indexOfChar_d28 : decode J_StringLatin1_indexOfChar.2.1 28 = .ok (.goto (-21), 3) := by decide +kernel
theorem J_StringLatin1_indexOfChar_d31 : decode J_StringLatin1_indexOfChar.2.1 31 = .ok (.iconst (-1), 1) := by decide +kernel
theorem J_StringLatin1_indexOfChar_d32 : decode J_StringLatin1_indexOfChar.2.1 32 = .ok (.ireturn, 1) := by decide +kernel
theorem f_StringLatin1_indexOfChar_ok {L : Nat} {xs : Nat → Int32} {dep : Nat} {w : Bool} {p1 : Int32} {p2 : Int32} {p3 : Int32} {M : im_M} {Q : Int32 → Prop} (hM : lw_S w M) (h : ed (f_StringLatin1_indexOfChar p1 p2 p3 M) Q) : ia (tb_G L xs) dep J_StringLatin1_indexOfChar (rpI M Q) (0, lv_args 0 [.ref 3000000, .int p1, .int p2, .int p3], [], M) := by
  have hS : im_St (tb_G L xs) dep J_StringLatin1_indexOfChar (ia (tb_G L xs) dep J_StringLatin1_indexOfChar (rpI M Q)) := ia_St
  unfold f_StringLatin1_indexOfChar at h
  have l0 : im_lk (lv_args 0 [.ref 3000000, .int p1, .int p2, .int p3]) 0 = some (.ref 3000000) := rfl
  have l1 : im_lk (lv_args 0 [.ref 3000000, .int p1, .int p2, .int p3]) 1 = some (.int p1) := rfl
  have l2 : im_lk (lv_args 0 [.ref 3000000, .int p1, .int p2, .int p3]) 2 = some (.int p2) := rfl
  have l3 : im_lk (lv_args 0 [.ref 3000000, .int p1, .int p2, .int p3]) 3 = some (.int p3) := rfl
  refine iq_iload_n hS 1 J_StringLatin1_indexOfChar_d0 l1 rfl ?_
  refine iq_i2b hS 2 J_StringLatin1_indexOfChar_d1 rfl ?_
  refine iq_istore hS 4 J_StringLatin1_indexOfChar_d2 (by decide) rfl ?_
  refine iq_iload_n hS 5 J_StringLatin1_indexOfChar_d4 (lk_1i l2 (by decide)) rfl ?_
  refine iq_istore hS 7 J_StringLatin1_indexOfChar_d5 (by decide) rfl ?_
  obtain ⟨Q1, hQ1, hR1, h⟩ := bs0_ed h
  have K1 : ∀  (L' : List (Nat × Value)), Q1 (.inl ()) → ia (tb_G L xs) dep J_StringLatin1_indexOfChar (rpI M Q) (31, L', [], M) := by
    intro  L'  h
    replace h := hQ1  h
    refine iq_iconst hS 32 J_StringLatin1_indexOfChar_d31 (v := (-1)) (by decide +kernel) rfl ?_
    exact iq_iret J_StringLatin1_indexOfChar_d32 rfl rfl ⟨_, rfl, rfl, ed_some h⟩
  obtain ⟨r1, hr1, hq1⟩ := h
  obtain ⟨n1, hn1⟩ := lp_n hr1
  have I1 : ∀ (n : Nat) (x2 : Int32) (L' : List (Nat × Value)), im_lk L' 0 = some (.ref 3000000) → im_lk L' 3 = some (.int p3) → im_lk L' 4 = some (.int ((Int32.toInt8 p1).toInt32)) → im_lk L' 5 = some (.int x2) → lpn (uc1 (f_StringLatin1_indexOfChar_L7 p3 ((Int32.toInt8 p1).toInt32) M)) n x2 = some r1 → ia (tb_G L xs) dep J_StringLatin1_indexOfChar (rpI M Q) (7, L', [], M) := by
    intro n
    induction n with
    | zero => intro x2 L' l3 l4 l5 l6 hn; exact (lpn_0 hn).elim
    | succ n ih =>
      intro x2 L' l3 l4 l5 l6 hn
      have h := lpn_ed1 hn
      unfold f_StringLatin1_indexOfChar_L7 at h
      refine iq_iload hS 9 J_StringLatin1_indexOfChar_d7 l6 rfl ?_
      refine iq_iload_n hS 10 J_StringLatin1_indexOfChar_d9 l4 rfl ?_
      refine iq_icmp_ge hS 13 J_StringLatin1_indexOfChar_d10 (t := 31) rfl (fun q10 => ?_) rfl (fun q10 => ?_)
      · replace h := ed_pos q10 h
        exact K1  _  (lq_r h hq1)
      · replace h := ed_neg q10 h
        refine iq_aload_n hS 14 J_StringLatin1_indexOfChar_d13 l3 rfl ?_
        refine iq_iload hS 16 J_StringLatin1_indexOfChar_d14 l6 rfl ?_
        obtain ⟨g16, h⟩ := ed_gd h
        refine iq_xlb_0 hS 17 J_StringLatin1_indexOfChar_d16 hM g16 rfl ?_
        refine iq_iload hS 19 J_StringLatin1_indexOfChar_d17 l5 rfl ?_
        refine iq_icmp_ne hS 22 J_StringLatin1_indexOfChar_d19 (t := 25) rfl (fun q19 => ?_) rfl (fun q19 => ?_)
        · replace h := ed_pos q19 h
          refine iq_iincv hS 28 J_StringLatin1_indexOfChar_d25 (c := 1) (by decide +kernel) l6 (by decide) rfl ?_
          refine iq_goto hS J_StringLatin1_indexOfChar_d28 (t := 7) rfl ?_
          exact ih _ _ (lk_1r l3 (by decide)) (lk_1i l4 (by decide)) (lk_1i l5 (by decide)) lk_1s (lq_l h)
        · replace h := ed_neg q19 h
          refine iq_iload hS 24 J_StringLatin1_indexOfChar_d22 l6 rfl ?_
          exact iq_iret J_StringLatin1_indexOfChar_d24 rfl rfl ⟨_, rfl, rfl, ed_some (hR1 _ (lq_r h hq1))⟩
  exact I1 n1 _ _ (lk_1r (lk_1r l0 (by decide)) (by decide)) (lk_1i (lk_1i l3 (by decide)) (by decide)) (lk_1i lk_1s (by decide)) lk_1s hn1
noncomputable def f_StringLatin1_indexOf (p1 : Int32) (p2 : Int32) (p3 : Int32) (M : im_M) : Option (Int32) := bd1 (f_StringLatin1_canEncode p1 M) fun (x1 : Int32) => if ¬ x1 = 0 then bd1 (f_Math_max p2 0 M) fun (x2 : Int32) => bd1 (f_Math_min p3 (Int32.ofNat 23) M) fun (x3 : Int32) => if x2 < x3 then bd1 (f_StringLatin1_indexOfChar p1 x2 x3 M) fun (x4 : Int32) => some x4 else some (-1) else some (-1)
theorem J_StringLatin1_indexOf_d0 : decode J_StringLatin1_indexOf.2.1 0 = .ok (.iload_n 1, 1) := by decide +kernel
theorem J_StringLatin1_indexOf_d1 : decode J_StringLatin1_indexOf.2.1 1 = .ok (.invokestatic 88, 3) := by decide +kernel
theorem J_StringLatin1_indexOf_d4 : decode J_StringLatin1_indexOf.2.1 4 = .ok (.ifCond .ne 5, 3) := by decide +kernel
theorem J_StringLatin1_indexOf_d7 : decode J_StringLatin1_indexOf.2.1 7 = .ok (.iconst (-1), 1) := by decide +kernel
theorem J_StringLatin1_indexOf_d8 : decode J_StringLatin1_indexOf.2.1 8 = .ok (.ireturn, 1) := by decide +kernel
theorem J_StringLatin1_indexOf_d9 : decode J_StringLatin1_indexOf.2.1 9 = .ok (.iload_n 2, 1) := by decide +kernel
theorem J_StringLatin1_indexOf_d10 : decode J_StringLatin1_indexOf.2.1 10 = .ok (.iconst 0, 1) := by decide +kernel
theorem J_StringLatin1_indexOf_d11 : decode J_StringLatin1_indexOf.2.1 11 = .ok (.invokestatic 92, 3) := by decide +kernel
theorem J_StringLatin1_indexOf_d14 : decode J_StringLatin1_indexOf.2.1 14 = .ok (.istore_n 2, 1) := by decide +kernel
theorem J_StringLatin1_indexOf_d15 : decode J_StringLatin1_indexOf.2.1 15 = .ok (.iload_n 3, 1) := by decide +kernel
theorem J_StringLatin1_indexOf_d16 : decode J_StringLatin1_indexOf.2.1 16 = .ok (.aload_n 0, 1) := by decide +kernel
theorem J_StringLatin1_indexOf_d17 : decode J_StringLatin1_indexOf.2.1 17 = .ok (.arraylength, 1) := by decide +kernel
theorem J_StringLatin1_indexOf_d18 : decode J_StringLatin1_indexOf.2.1 18 = .ok (.invokestatic 38, 3) := by decide +kernel
theorem J_StringLatin1_indexOf_d21 : decode J_StringLatin1_indexOf.2.1 21 = .ok (.istore_n 3, 1) := by decide +kernel
theorem J_StringLatin1_indexOf_d22 : decode J_StringLatin1_indexOf.2.1 22 = .ok (.iload_n 2, 1) := by decide +kernel
theorem J_StringLatin1_indexOf_d23 : decode J_StringLatin1_indexOf.2.1 23 = .ok (.iload_n 3, 1) := by decide +kernel
theorem J_StringLatin1_indexOf_d24 : decode J_StringLatin1_indexOf.2.1 24 = .ok (.if_icmp .lt 5, 3) := by decide +kernel
theorem J_StringLatin1_indexOf_d27 : decode J_StringLatin1_indexOf.2.1 27 = .ok (.iconst (-1), 1) := by decide +kernel
theorem J_StringLatin1_indexOf_d28 : decode J_StringLatin1_indexOf.2.1 28 = .ok (.ireturn, 1) := by decide +kernel
theorem J_StringLatin1_indexOf_d29 : decode J_StringLatin1_indexOf.2.1 29 = .ok (.aload_n 0, 1) := by decide +kernel
theorem J_StringLatin1_indexOf_d30 : decode J_StringLatin1_indexOf.2.1 30 = .ok (.iload_n 1, 1) := by decide +kernel
theorem J_StringLatin1_indexOf_d31 : decode J_StringLatin1_indexOf.2.1 31 = .ok (.iload_n 2, 1) := by decide +kernel
theorem J_StringLatin1_indexOf_d32 : decode J_StringLatin1_indexOf.2.1 32 = .ok (.iload_n 3, 1) := by decide +kernel
theorem J_StringLatin1_indexOf_d33 : decode J_StringLatin1_indexOf.2.1 33 = .ok (.invokestatic 95, 3) := by decide +kernel
theorem J_StringLatin1_indexOf_d36 : decode J_StringLatin1_indexOf.2.1 36 = .ok (.ireturn, 1) := by decide +kernel
theorem f_StringLatin1_indexOf_ok {L : Nat} {xs : Nat → Int32} {dep : Nat} {w : Bool} {p1 : Int32} {p2 : Int32} {p3 : Int32} {M : im_M} {Q : Int32 → Prop} (hM : lw_S w M) (h : ed (f_StringLatin1_indexOf p1 p2 p3 M) Q) : ia (tb_G L xs) (dep + 1) J_StringLatin1_indexOf (rpI M Q) (0, lv_args 0 [.ref 3000000, .int p1, .int p2, .int p3], [], M) := by
  have hS : im_St (tb_G L xs) (dep + 1) J_StringLatin1_indexOf (ia (tb_G L xs) (dep + 1) J_StringLatin1_indexOf (rpI M Q)) := ia_St
  unfold f_StringLatin1_indexOf at h
  have l0 : im_lk (lv_args 0 [.ref 3000000, .int p1, .int p2, .int p3]) 0 = some (.ref 3000000) := rfl
  have l1 : im_lk (lv_args 0 [.ref 3000000, .int p1, .int p2, .int p3]) 1 = some (.int p1) := rfl
  have l2 : im_lk (lv_args 0 [.ref 3000000, .int p1, .int p2, .int p3]) 2 = some (.int p2) := rfl
  have l3 : im_lk (lv_args 0 [.ref 3000000, .int p1, .int p2, .int p3]) 3 = some (.int p3) := rfl
  refine iq_iload_n hS 1 J_StringLatin1_indexOf_d0 l1 rfl ?_
  obtain ⟨Q1, hQ1, h⟩ := bd1_ed h
  refine iq_cpI hS 4 J_StringLatin1_indexOf_d1 rfl (pr_stat (vs := [_]) lc_20_88 lT_26 rfl rfl (by decide) rfl (Nat.le_of_ble_eq_true rfl) (Nat.le_of_ble_eq_true rfl)) (f_StringLatin1_canEncode_ok (dep := dep + 0) hM h) rfl ?_
  intro x1 h
  replace h := hQ1 _ h
  refine iq_if_ne hS 7 J_StringLatin1_indexOf_d4 (t := 9) rfl (fun q4 => ?_) rfl (fun q4 => ?_)
  · replace h := ed_pos q4 h
    refine iq_iload_n hS 10 J_StringLatin1_indexOf_d9 l2 rfl ?_
    refine iq_iconst hS 11 J_StringLatin1_indexOf_d10 (v := 0) (by decide +kernel) rfl ?_
    obtain ⟨Q2, hQ2, h⟩ := bd1_ed h
    refine iq_cpI hS 14 J_StringLatin1_indexOf_d11 rfl (pr_stat (vs := [_, _]) lc_20_92 lT_27 rfl rfl (by decide) rfl (Nat.le_of_ble_eq_true rfl) (Nat.le_of_ble_eq_true rfl)) (f_Math_max_ok (dep := dep + 0) hM h) rfl ?_
    intro x2 h
    replace h := hQ2 _ h
    refine iq_istore_n hS 15 J_StringLatin1_indexOf_d14 (by decide) rfl ?_
    refine iq_iload_n hS 16 J_StringLatin1_indexOf_d15 (lk_1i l3 (by decide)) rfl ?_
    refine iq_aload_n hS 17 J_StringLatin1_indexOf_d16 (lk_1r l0 (by decide)) rfl ?_
    refine iq_xalen hS 18 J_StringLatin1_indexOf_d17 (by rw [(hM).1]; decide) (Or.inr (by rw [xkb_0])) rfl ?_
    rw [xkb_0]
    obtain ⟨Q3, hQ3, h⟩ := bd1_ed h
    refine iq_cpI hS 21 J_StringLatin1_indexOf_d18 rfl (pr_stat (vs := [_, _]) lc_20_38 lT_28 rfl rfl (by decide) rfl (Nat.le_of_ble_eq_true rfl) (Nat.le_of_ble_eq_true rfl)) (f_Math_min_ok (dep := dep + 0) hM h) rfl ?_
    intro x3 h
    replace h := hQ3 _ h
    refine iq_istore_n hS 22 J_StringLatin1_indexOf_d21 (by decide) rfl ?_
    refine iq_iload_n hS 23 J_StringLatin1_indexOf_d22 (lk_1i lk_1s (by decide)) rfl ?_
    refine iq_iload_n hS 24 J_StringLatin1_indexOf_d23 lk_1s rfl ?_
    refine iq_icmp_lt hS 27 J_StringLatin1_indexOf_d24 (t := 29) rfl (fun q24 => ?_) rfl (fun q24 => ?_)
    · replace h := ed_pos q24 h
      refine iq_aload_n hS 30 J_StringLatin1_indexOf_d29 (lk_1r (lk_1r l0 (by decide)) (by decide)) rfl ?_
      refine iq_iload_n hS 31 J_StringLatin1_indexOf_d30 (lk_1i (lk_1i l1 (by decide)) (by decide)) rfl ?_
      refine iq_iload_n hS 32 J_StringLatin1_indexOf_d31 (lk_1i lk_1s (by decide)) rfl ?_
      refine iq_iload_n hS 33 J_StringLatin1_indexOf_d32 lk_1s rfl ?_
      obtain ⟨Q4, hQ4, h⟩ := bd1_ed h
      refine iq_cpI hS 36 J_StringLatin1_indexOf_d33 rfl (pr_stat (vs := [_, _, _, _]) lc_20_95 lT_29 rfl rfl (by decide) rfl (Nat.le_of_ble_eq_true rfl) (Nat.le_of_ble_eq_true rfl)) (f_StringLatin1_indexOfChar_ok (dep := dep + 0) hM h) rfl ?_
      intro x4 h
      replace h := hQ4 _ h
      exact iq_iret J_StringLatin1_indexOf_d36 rfl rfl ⟨_, rfl, rfl, ed_some h⟩
    · replace h := ed_neg q24 h
      refine iq_iconst hS 28 J_StringLatin1_indexOf_d27 (v := (-1)) (by decide +kernel) rfl ?_
      exact iq_iret J_StringLatin1_indexOf_d28 rfl rfl ⟨_, rfl, rfl, ed_some h⟩
  · replace h := ed_neg q4 h
    refine iq_iconst hS 8 J_StringLatin1_indexOf_d7 (v := (-1)) (by decide +kernel) rfl ?_
    exact iq_iret J_StringLatin1_indexOf_d8 rfl rfl ⟨_, rfl, rfl, ed_some h⟩
noncomputable def f_String_indexOf2 (p0 : Int32) (p1 : Int32) (M : im_M) : Option (Int32) := bd1 (f_String_isLatin1 M) fun (x1 : Int32) => if x1 = 0 then bd1 (f_String_length M) fun (x2 : Int32) => none else bd1 (f_String_length M) fun (x3 : Int32) => bd1 (f_StringLatin1_indexOf p0 p1 x3 M) fun (x4 : Int32) => some x4
theorem J_String_indexOf2_d0 : decode J_String_indexOf2.2.1 0 = .ok (.aload_n 0, 1) := by decide +kernel
theorem J_String_indexOf2_d1 : decode J_String_indexOf2.2.1 1 = .ok (.invokevirtual 492, 3) := by decide +kernel
theorem J_String_indexOf2_d4 : decode J_String_indexOf2.2.1 4 = .ok (.ifCond .eq 19, 3) := by decide +kernel
theorem J_String_indexOf2_d7 : decode J_String_indexOf2.2.1 7 = .ok (.aload_n 0, 1) := by decide +kernel
theorem J_String_indexOf2_d8 : decode J_String_indexOf2.2.1 8 = .ok (.getfield 9, 3) := by decide +kernel
theorem J_String_indexOf2_d11 : decode J_String_indexOf2.2.1 11 = .ok (.iload_n 1, 1) := by decide +kernel
theorem J_String_indexOf2_d12 : decode J_String_indexOf2.2.1 12 = .ok (.iload_n 2, 1) := by decide +kernel
theorem J_String_indexOf2_d13 : decode J_String_indexOf2.2.1 13 = .ok (.aload_n 0, 1) := by decide +kernel
theorem J_String_indexOf2_d14 : decode J_String_indexOf2.2.1 14 = .ok (.invokevirtual 505, 3) := by decide +kernel
theorem J_String_indexOf2_d17 : decode J_String_indexOf2.2.1 17 = .ok (.invokestatic 637, 3) := by decide +kernel
theorem J_String_indexOf2_d20 : decode J_String_indexOf2.2.1 20 = .ok (.goto 16, 3) := by decide +kernel
theorem J_String_indexOf2_d23 : decode J_String_indexOf2.2.1 23 = .ok (.aload_n 0, 1) := by decide +kernel
theorem J_String_indexOf2_d24 : decode J_String_indexOf2.2.1 24 = .ok (.getfield 9, 3) := by decide +kernel
theorem J_String_indexOf2_d27 : decode J_String_indexOf2.2.1 27 = .ok (.iload_n 1, 1) := by decide +kernel
theorem J_String_indexOf2_d28 : decode J_String_indexOf2.2.1 28 = .ok (.iload_n 2, 1) := by decide +kernel
theorem J_String_indexOf2_d29 : decode J_String_indexOf2.2.1 29 = .ok (.aload_n 0, 1) := by decide +kernel
theorem J_String_indexOf2_d30 : decode J_String_indexOf2.2.1 30 = .ok (.invokevirtual 505, 3) := by decide +kernel
theorem J_String_indexOf2_d36 : decode J_String_indexOf2.2.1 36 = .ok (.ireturn, 1) := by decide +kernel
theorem f_String_indexOf2_ok {L : Nat} {xs : Nat → Int32} {dep : Nat} {w : Bool} {p0 : Int32} {p1 : Int32} {M : im_M} {Q : Int32 → Prop} (hM : lw_S w M) (h : ed (f_String_indexOf2 p0 p1 M) Q) : ia (tb_G L xs) (dep + 2) J_String_indexOf2 (rpI M Q) (0, lv_args 0 [.ref 2000000, .int p0, .int p1], [], M) := by
  have hS : im_St (tb_G L xs) (dep + 2) J_String_indexOf2 (ia (tb_G L xs) (dep + 2) J_String_indexOf2 (rpI M Q)) := ia_St
  unfold f_String_indexOf2 at h
  have l0 : im_lk (lv_args 0 [.ref 2000000, .int p0, .int p1]) 0 = some (.ref 2000000) := rfl
  have l1 : im_lk (lv_args 0 [.ref 2000000, .int p0, .int p1]) 1 = some (.int p0) := rfl
  have l2 : im_lk (lv_args 0 [.ref 2000000, .int p0, .int p1]) 2 = some (.int p1) := rfl
  refine iq_aload_n hS 1 J_String_indexOf2_d0 l0 rfl ?_
  obtain ⟨Q1, hQ1, h⟩ := bd1_ed h
  refine iq_cpI hS 4 J_String_indexOf2_d1 rfl (pr_inst (vs := []) lc_19_492 lT_22 rfl rfl (by decide) (by decide) rfl (Nat.le_of_ble_eq_true rfl) (Nat.le_of_ble_eq_true rfl) (fun _ => Or.inr ⟨xks_0, rfl⟩)) (f_String_isLatin1_ok (dep := dep + 1) hM h) rfl ?_
  intro x1 h
  replace h := hQ1 _ h
  refine iq_if_eq hS 7 J_String_indexOf2_d4 (t := 23) rfl (fun q4 => ?_) rfl (fun q4 => ?_)
  · replace h := ed_pos q4 h
    refine iq_aload_n hS 24 J_String_indexOf2_d23 l0 rfl ?_
    refine iq_xval hS 27 J_String_indexOf2_d24 (gf_of (by decide +kernel)) (gvT_of (by decide +kernel)) xks_0 (b := 3000000) rfl rfl ?_
    refine iq_iload_n hS 28 J_String_indexOf2_d27 l1 rfl ?_
    refine iq_iload_n hS 29 J_String_indexOf2_d28 l2 rfl ?_
    refine iq_aload_n hS 30 J_String_indexOf2_d29 l0 rfl ?_
    obtain ⟨Q2, hQ2, h⟩ := bd1_ed h
    refine iq_cpI hS 33 J_String_indexOf2_d30 rfl (pr_inst (vs := []) lc_19_505 lT_23 rfl rfl (by decide) (by decide) rfl (Nat.le_of_ble_eq_true rfl) (Nat.le_of_ble_eq_true rfl) (fun _ => Or.inr ⟨xks_0, rfl⟩)) (f_String_length_ok (dep := dep + 0) hM h) rfl ?_
    intro x2 h
    replace h := hQ2 _ h
    exact (ed_none h).elim
  · replace h := ed_neg q4 h
    refine iq_aload_n hS 8 J_String_indexOf2_d7 l0 rfl ?_
    refine iq_xval hS 11 J_String_indexOf2_d8 (gf_of (by decide +kernel)) (gvT_of (by decide +kernel)) xks_0 (b := 3000000) rfl rfl ?_
    refine iq_iload_n hS 12 J_String_indexOf2_d11 l1 rfl ?_
    refine iq_iload_n hS 13 J_String_indexOf2_d12 l2 rfl ?_
    refine iq_aload_n hS 14 J_String_indexOf2_d13 l0 rfl ?_
    obtain ⟨Q3, hQ3, h⟩ := bd1_ed h
    refine iq_cpI hS 17 J_String_indexOf2_d14 rfl (pr_inst (vs := []) lc_19_505 lT_23 rfl rfl (by decide) (by decide) rfl (Nat.le_of_ble_eq_true rfl) (Nat.le_of_ble_eq_true rfl) (fun _ => Or.inr ⟨xks_0, rfl⟩)) (f_String_length_ok (dep := dep + 0) hM h) rfl ?_
    intro x3 h
    replace h := hQ3 _ h
    obtain ⟨Q4, hQ4, h⟩ := bd1_ed h
    refine iq_cpI hS 20 J_String_indexOf2_d17 rfl (pr_stat (vs := [_, _, _, _]) lc_19_637 lT_25 rfl rfl (by decide) rfl (Nat.le_of_ble_eq_true rfl) (Nat.le_of_ble_eq_true rfl)) (f_StringLatin1_indexOf_ok (dep := dep + 0) hM h) rfl ?_
    intro x4 h
    replace h := hQ4 _ h
    refine iq_goto hS J_String_indexOf2_d20 (t := 36) rfl ?_
    exact iq_iret J_String_indexOf2_d36 rfl rfl ⟨_, rfl, rfl, ed_some h⟩
noncomputable def f_String_indexOf (p0 : Int32) (M : im_M) : Option (Int32) := bd1 (f_String_indexOf2 p0 0 M) fun (x1 : Int32) => some x1
theorem J_String_indexOf_d0 : decode J_String_indexOf.2.1 0 = .ok (.aload_n 0, 1) := by decide +kernel
theorem J_String_indexOf_d1 : decode J_String_indexOf.2.1 1 = .ok (.iload_n 1, 1) := by decide +kernel
theorem J_String_indexOf_d2 : decode J_String_indexOf.2.1 2 = .ok (.iconst 0, 1) := by decide +kernel
theorem J_String_indexOf_d3 : decode J_String_indexOf.2.1 3 = .ok (.invokevirtual 633, 3) := by decide +kernel
theorem J_String_indexOf_d6 : decode J_String_indexOf.2.1 6 = .ok (.ireturn, 1) := by decide +kernel
theorem f_String_indexOf_ok {L : Nat} {xs : Nat → Int32} {dep : Nat} {w : Bool} {p0 : Int32} {M : im_M} {Q : Int32 → Prop} (hM : lw_S w M) (h : ed (f_String_indexOf p0 M) Q) : ia (tb_G L xs) (dep + 3) J_String_indexOf (rpI M Q) (0, lv_args 0 [.ref 2000000, .int p0], [], M) := by
  have hS : im_St (tb_G L xs) (dep + 3) J_String_indexOf (ia (tb_G L xs) (dep + 3) J_String_indexOf (rpI M Q)) := ia_St
  unfold f_String_indexOf at h
  have l0 : im_lk (lv_args 0 [.ref 2000000, .int p0]) 0 = some (.ref 2000000) := rfl
  have l1 : im_lk (lv_args 0 [.ref 2000000, .int p0]) 1 = some (.int p0) := rfl
  refine iq_aload_n hS 1 J_String_indexOf_d0 l0 rfl ?_
  refine iq_iload_n hS 2 J_String_indexOf_d1 l1 rfl ?_
  refine iq_iconst hS 3 J_String_indexOf_d2 (v := 0) (by decide +kernel) rfl ?_
  obtain ⟨Q1, hQ1, h⟩ := bd1_ed h
  refine iq_cpI hS 6 J_String_indexOf_d3 rfl (pr_inst (vs := [_, _]) lc_19_633 lT_21 rfl rfl (by decide) (by decide) rfl (Nat.le_of_ble_eq_true rfl) (Nat.le_of_ble_eq_true rfl) (fun _ => Or.inr ⟨xks_0, rfl⟩)) (f_String_indexOf2_ok (dep := dep + 0) hM h) rfl ?_
  intro x1 h
  replace h := hQ1 _ h
  exact iq_iret J_String_indexOf_d6 rfl rfl ⟨_, rfl, rfl, ed_some h⟩
noncomputable def f_HSetter_canStand (p0 : Int32) (M : im_M) : Option (Int32) := if p0 = 0 ∨ p0 = 1 then if ¬ (im_i M 15 8) = 0 then some 0 else some 1 else if p0 = 2 then some 1 else if p0 = 3 then if (im_i M 15 8) = 0 then some 0 else if ¬ (im_i M 1 6) = 0 then some 0 else some 1 else if p0 = 22 then if (im_i M 15 8) = 0 then some 0 else if (im_i M 23 2) = (-1) then some 0 else some 1 else gd ((im_i M 15 8) = 0 ∨ (im_i M 15 8) = 1) <| some (im_i M 15 8)
theorem J_HSetter_canStand_d0 : decode J_HSetter_canStand.2.1 0 = .ok (.iload_n 1, 1) := by decide +kernel
theorem J_HSetter_canStand_d1 : decode J_HSetter_canStand.2.1 1 = .ok (.lookupswitch 113 #[(0, 51), (1, 51), (2, 64), (3, 66), (22, 89)], 51) := by decide +kernel
theorem J_HSetter_canStand_d52 : decode J_HSetter_canStand.2.1 52 = .ok (.aload_n 0, 1) := by decide +kernel
theorem J_HSetter_canStand_d53 : decode J_HSetter_canStand.2.1 53 = .ok (.getfield 62, 3) := by decide +kernel
theorem J_HSetter_canStand_d56 : decode J_HSetter_canStand.2.1 56 = .ok (.ifCond .ne 7, 3) := by decide +kernel
theorem J_HSetter_canStand_d59 : decode J_HSetter_canStand.2.1 59 = .ok (.iconst 1, 1) := by decide +kernel
theorem J_HSetter_canStand_d60 : decode J_HSetter_canStand.2.1 60 = .ok (.goto 4, 3) := by decide +kernel
theorem J_HSetter_canStand_d63 : decode J_HSetter_canStand.2.1 63 = .ok (.iconst 0, 1) := by decide +kernel
theorem J_HSetter_canStand_d64 : decode J_HSetter_canStand.2.1 64 = .ok (.ireturn, 1) := by decide +kernel
theorem J_HSetter_canStand_d65 : decode J_HSetter_canStand.2.1 65 = .ok (.iconst 1, 1) := by decide +kernel
theorem J_HSetter_canStand_d66 : decode J_HSetter_canStand.2.1 66 = .ok (.ireturn, 1) := by decide +kernel
theorem J_HSetter_canStand_d67 : decode J_HSetter_canStand.2.1 67 = .ok (.aload_n 0, 1) := by decide +kernel
theorem J_HSetter_canStand_d68 : decode J_HSetter_canStand.2.1 68 = .ok (.getfield 62, 3) := by decide +kernel
theorem J_HSetter_canStand_d71 : decode J_HSetter_canStand.2.1 71 = .ok (.ifCond .eq 17, 3) := by decide +kernel
theorem J_HSetter_canStand_d74 : decode J_HSetter_canStand.2.1 74 = .ok (.aload_n 0, 1) := by decide +kernel
theorem J_HSetter_canStand_d75 : decode J_HSetter_canStand.2.1 75 = .ok (.getfield 25, 3) := by decide +kernel
theorem J_HSetter_canStand_d78 : decode J_HSetter_canStand.2.1 78 = .ok (.getfield 79, 3) := by decide +kernel
theorem J_HSetter_canStand_d81 : decode J_HSetter_canStand.2.1 81 = .ok (.ifCond .ne 7, 3) := by decide +kernel
theorem J_HSetter_canStand_d84 : decode J_HSetter_canStand.2.1 84 = .ok (.iconst 1, 1) := by decide +kernel
theorem J_HSetter_canStand_d85 : decode J_HSetter_canStand.2.1 85 = .ok (.goto 4, 3) := by decide +kernel
theorem J_HSetter_canStand_d88 : decode J_HSetter_canStand.2.1 88 = .ok (.iconst 0, 1) := by decide +kernel
theorem J_HSetter_canStand_d89 : decode J_HSetter_canStand.2.1 89 = .ok (.ireturn, 1) := by decide +kernel
theorem J_HSetter_canStand_d90 : decode J_HSetter_canStand.2.1 90 = .ok (.aload_n 0, 1) := by decide +kernel
theorem J_HSetter_canStand_d91 : decode J_HSetter_canStand.2.1 91 = .ok (.getfield 62, 3) := by decide +kernel
theorem J_HSetter_canStand_d94 : decode J_HSetter_canStand.2.1 94 = .ok (.ifCond .eq 18, 3) := by decide +kernel
theorem J_HSetter_canStand_d97 : decode J_HSetter_canStand.2.1 97 = .ok (.aload_n 0, 1) := by decide +kernel
theorem J_HSetter_canStand_d98 : decode J_HSetter_canStand.2.1 98 = .ok (.getfield 44, 3) := by decide +kernel
theorem J_HSetter_canStand_d101 : decode J_HSetter_canStand.2.1 101 = .ok (.getfield 128, 3) := by decide +kernel
theorem J_HSetter_canStand_d104 : decode J_HSetter_canStand.2.1 104 = .ok (.iconst (-1), 1) := by decide +kernel
theorem J_HSetter_canStand_d105 : decode J_HSetter_canStand.2.1 105 = .ok (.if_icmp .eq 7, 3) := by decide +kernel
theorem J_HSetter_canStand_d108 : decode J_HSetter_canStand.2.1 108 = .ok (.iconst 1, 1) := by decide +kernel
theorem J_HSetter_canStand_d109 : decode J_HSetter_canStand.2.1 109 = .ok (.goto 4, 3) := by decide +kernel
theorem J_HSetter_canStand_d112 : decode J_HSetter_canStand.2.1 112 = .ok (.iconst 0, 1) := by decide +kernel
theorem J_HSetter_canStand_d113 : decode J_HSetter_canStand.2.1 113 = .ok (.ireturn, 1) := by decide +kernel
theorem J_HSetter_canStand_d114 : decode J_HSetter_canStand.2.1 114 = .ok (.aload_n 0, 1) := by decide +kernel
theorem J_HSetter_canStand_d115 : decode J_HSetter_canStand.2.1 115 = .ok (.getfield 62, 3) := by decide +kernel
theorem J_HSetter_canStand_d118 : decode J_HSetter_canStand.2.1 118 = .ok (.ireturn, 1) := by decide +kernel
theorem f_HSetter_canStand_ok {L : Nat} {xs : Nat → Int32} {dep : Nat} {w : Bool} {p0 : Int32} {M : im_M} {Q : Int32 → Prop} (hM : lw_S w M) (h : ed (f_HSetter_canStand p0 M) Q) : ia (tb_G L xs) dep J_HSetter_canStand (rpI M Q) (0, lv_args 0 [.ref 15, .int p0], [], M) := by
  have hS : im_St (tb_G L xs) dep J_HSetter_canStand (ia (tb_G L xs) dep J_HSetter_canStand (rpI M Q)) := ia_St
  unfold f_HSetter_canStand at h
  have l0 : im_lk (lv_args 0 [.ref 15, .int p0]) 0 = some (.ref 15) := rfl
  have l1 : im_lk (lv_args 0 [.ref 15, .int p0]) 1 = some (.int p0) := rfl
  refine iq_iload_n hS 1 J_HSetter_canStand_d0 l1 rfl ?_
  by_cases q1_0 : p0 = 0 ∨ p0 = 1
  · replace h := ed_pos q1_0 h
    refine iq_lsw hS J_HSetter_canStand_d1 (t := 52) (by rcases q1_0 with z | z <;> exact sl_v z (by decide +kernel)) ?_
    refine iq_aload_n hS 53 J_HSetter_canStand_d52 l0 rfl ?_
    refine iq_getI hS 56 J_HSetter_canStand_d53 lf_8_62 (Or.inr rfl) (ka_15 hM) rfl ?_
    refine iq_if_ne hS 59 J_HSetter_canStand_d56 (t := 63) rfl (fun q56 => ?_) rfl (fun q56 => ?_)
    · replace h := ed_pos q56 h
      refine iq_iconst hS 64 J_HSetter_canStand_d63 (v := 0) (by decide +kernel) rfl ?_
      exact iq_iret J_HSetter_canStand_d64 rfl rfl ⟨_, rfl, rfl, ed_some h⟩
    · replace h := ed_neg q56 h
      refine iq_iconst hS 60 J_HSetter_canStand_d59 (v := 1) (by decide +kernel) rfl ?_
      refine iq_goto hS J_HSetter_canStand_d60 (t := 64) rfl ?_
      exact iq_iret J_HSetter_canStand_d64 rfl rfl ⟨_, rfl, rfl, ed_some h⟩
  replace h := ed_neg q1_0 h
  by_cases q1_2 : p0 = 2
  · replace h := ed_pos q1_2 h
    refine iq_lsw hS J_HSetter_canStand_d1 (t := 65) (sl_v q1_2 (by decide +kernel)) ?_
    refine iq_iconst hS 66 J_HSetter_canStand_d65 (v := 1) (by decide +kernel) rfl ?_
    exact iq_iret J_HSetter_canStand_d66 rfl rfl ⟨_, rfl, rfl, ed_some h⟩
  replace h := ed_neg q1_2 h
  by_cases q1_3 : p0 = 3
  · replace h := ed_pos q1_3 h
    refine iq_lsw hS J_HSetter_canStand_d1 (t := 67) (sl_v q1_3 (by decide +kernel)) ?_
    refine iq_aload_n hS 68 J_HSetter_canStand_d67 l0 rfl ?_
    refine iq_getI hS 71 J_HSetter_canStand_d68 lf_8_62 (Or.inr rfl) (ka_15 hM) rfl ?_
    refine iq_if_eq hS 74 J_HSetter_canStand_d71 (t := 88) rfl (fun q71 => ?_) rfl (fun q71 => ?_)
    · replace h := ed_pos q71 h
      refine iq_iconst hS 89 J_HSetter_canStand_d88 (v := 0) (by decide +kernel) rfl ?_
      exact iq_iret J_HSetter_canStand_d89 rfl rfl ⟨_, rfl, rfl, ed_some h⟩
    · replace h := ed_neg q71 h
      refine iq_aload_n hS 75 J_HSetter_canStand_d74 l0 rfl ?_
      refine iq_getR hS 78 J_HSetter_canStand_d75 lf_8_25 (Or.inl ⟨_, rfl⟩) (ka_15 hM) (ra_15_0 hM) rfl ?_
      refine iq_getI hS 81 J_HSetter_canStand_d78 lf_8_79 (Or.inl rfl) (ka_1 hM) rfl ?_
      refine iq_if_ne hS 84 J_HSetter_canStand_d81 (t := 88) rfl (fun q81 => ?_) rfl (fun q81 => ?_)
      · replace h := ed_pos q81 h
        refine iq_iconst hS 89 J_HSetter_canStand_d88 (v := 0) (by decide +kernel) rfl ?_
        exact iq_iret J_HSetter_canStand_d89 rfl rfl ⟨_, rfl, rfl, ed_some h⟩
      · replace h := ed_neg q81 h
        refine iq_iconst hS 85 J_HSetter_canStand_d84 (v := 1) (by decide +kernel) rfl ?_
        refine iq_goto hS J_HSetter_canStand_d85 (t := 89) rfl ?_
        exact iq_iret J_HSetter_canStand_d89 rfl rfl ⟨_, rfl, rfl, ed_some h⟩
  replace h := ed_neg q1_3 h
  by_cases q1_22 : p0 = 22
  · replace h := ed_pos q1_22 h
    refine iq_lsw hS J_HSetter_canStand_d1 (t := 90) (sl_v q1_22 (by decide +kernel)) ?_
    refine iq_aload_n hS 91 J_HSetter_canStand_d90 l0 rfl ?_
    refine iq_getI hS 94 J_HSetter_canStand_d91 lf_8_62 (Or.inr rfl) (ka_15 hM) rfl ?_
    refine iq_if_eq hS 97 J_HSetter_canStand_d94 (t := 112) rfl (fun q94 => ?_) rfl (fun q94 => ?_)
    · replace h := ed_pos q94 h
      refine iq_iconst hS 113 J_HSetter_canStand_d112 (v := 0) (by decide +kernel) rfl ?_
      exact iq_iret J_HSetter_canStand_d113 rfl rfl ⟨_, rfl, rfl, ed_some h⟩
    · replace h := ed_neg q94 h
      refine iq_aload_n hS 98 J_HSetter_canStand_d97 l0 rfl ?_
      refine iq_getR hS 101 J_HSetter_canStand_d98 lf_8_44 (Or.inl ⟨_, rfl⟩) (ka_15 hM) (ra_15_3 hM) rfl ?_
      refine iq_getI hS 104 J_HSetter_canStand_d101 lf_8_128 (Or.inl rfl) (ka_23 hM) rfl ?_
      refine iq_iconst hS 105 J_HSetter_canStand_d104 (v := (-1)) (by decide +kernel) rfl ?_
      refine iq_icmp_eq hS 108 J_HSetter_canStand_d105 (t := 112) rfl (fun q105 => ?_) rfl (fun q105 => ?_)
      · replace h := ed_pos q105 h
        refine iq_iconst hS 113 J_HSetter_canStand_d112 (v := 0) (by decide +kernel) rfl ?_
        exact iq_iret J_HSetter_canStand_d113 rfl rfl ⟨_, rfl, rfl, ed_some h⟩
      · replace h := ed_neg q105 h
        refine iq_iconst hS 109 J_HSetter_canStand_d108 (v := 1) (by decide +kernel) rfl ?_
        refine iq_goto hS J_HSetter_canStand_d109 (t := 113) rfl ?_
        exact iq_iret J_HSetter_canStand_d113 rfl rfl ⟨_, rfl, rfl, ed_some h⟩
  replace h := ed_neg q1_22 h
  refine iq_lsw hS J_HSetter_canStand_d1 (t := 114) (sl_d [0, 1, 2, 3, 22] (by decide) (by decide +kernel) (by decide +kernel) (sw_nc (fun z => q1_0 (Or.inl z)) (sw_nc (fun z => q1_0 (Or.inr z)) (sw_nc q1_2 (sw_nc q1_3 (sw_nc q1_22 sw_nn)))))) ?_
  refine iq_aload_n hS 115 J_HSetter_canStand_d114 l0 rfl ?_
  refine iq_getI hS 118 J_HSetter_canStand_d115 lf_8_62 (Or.inr rfl) (ka_15 hM) rfl ?_
  obtain ⟨g118, h⟩ := ed_gd h
  exact iq_iret J_HSetter_canStand_d118 rfl (nar_z g118) ⟨_, rfl, rfl, ed_some h⟩
noncomputable def f_HSetter_leaveOut_L2 (v2 : Int32) (x3 : Int32) (M4 : im_M) : Option ((Int32 × im_M) ⊕ (im_M)) := if 4 ≤ x3 then some (.inr M4) else bd1 (if ¬ v2 = 13 then gd (inb (((12 : Int32) * v2) + ((3 : Int32) * x3)) 276) <| some (xa_0 (((12 : Int32) * v2) + ((3 : Int32) * x3))) else gd (inb x3 4) <| some (im_i M4 18 (Int32.toNatClampNeg x3))) fun (y6 : Int32) => gd (inb x3 4) <| some (.inl ((x3 + 1), (im_setI M4 9 (Int32.toNatClampNeg x3) y6)))
noncomputable def f_HSetter_leaveOut (p0 : Int32) (M : im_M) : Option (im_M) := bd1 (lp (uc2 (f_HSetter_leaveOut_L2 p0)) (0, M)) fun (M10 : im_M) => some M10
theorem J_HSetter_leaveOut_d0 : decode J_HSetter_leaveOut.2.1 0 = .ok (.iconst 0, 1) := by decide +kernel
theorem J_HSetter_leaveOut_d1 : decode J_HSetter_leaveOut.2.1 1 = .ok (.istore_n 2, 1) := by decide +kernel
theorem J_HSetter_leaveOut_d2 : decode J_HSetter_leaveOut.2.1 2 = .ok (.iload_n 2, 1) := by decide +kernel
theorem J_HSetter_leaveOut_d3 : decode J_HSetter_leaveOut.2.1 3 = .ok (.iconst 4, 1) := by decide +kernel
theorem J_HSetter_leaveOut_d4 : decode J_HSetter_leaveOut.2.1 4 = .ok (.if_icmp .ge 45, 3) := by decide +kernel
theorem J_HSetter_leaveOut_d7 : decode J_HSetter_leaveOut.2.1 7 = .ok (.aload_n 0, 1) := by decide +kernel
theorem J_HSetter_leaveOut_d8 : decode J_HSetter_leaveOut.2.1 8 = .ok (.getfield 25, 3) := by decide +kernel
theorem J_HSetter_leaveOut_d11 : decode J_HSetter_leaveOut.2.1 11 = .ok (.getfield 131, 3) := by decide +kernel
theorem J_HSetter_leaveOut_d14 : decode J_HSetter_leaveOut.2.1 14 = .ok (.iload_n 2, 1) := by decide +kernel
theorem J_HSetter_leaveOut_d15 : decode J_HSetter_leaveOut.2.1 15 = .ok (.iload_n 1, 1) := by decide +kernel
theorem J_HSetter_leaveOut_d16 : decode J_HSetter_leaveOut.2.1 16 = .ok (.bipush 13, 2) := by decide +kernel
theorem J_HSetter_leaveOut_d18 : decode J_HSetter_leaveOut.2.1 18 = .ok (.if_icmp .ne 12, 3) := by decide +kernel
theorem J_HSetter_leaveOut_d21 : decode J_HSetter_leaveOut.2.1 21 = .ok (.aload_n 0, 1) := by decide +kernel
theorem J_HSetter_leaveOut_d22 : decode J_HSetter_leaveOut.2.1 22 = .ok (.getfield 22, 3) := by decide +kernel
theorem J_HSetter_leaveOut_d25 : decode J_HSetter_leaveOut.2.1 25 = .ok (.iload_n 2, 1) := by decide +kernel
theorem J_HSetter_leaveOut_d26 : decode J_HSetter_leaveOut.2.1 26 = .ok (.iaload, 1) := by decide +kernel
theorem J_HSetter_leaveOut_d27 : decode J_HSetter_leaveOut.2.1 27 = .ok (.goto 15, 3) := by decide +kernel
theorem J_HSetter_leaveOut_d30 : decode J_HSetter_leaveOut.2.1 30 = .ok (.getstatic 134, 3) := by decide +kernel
theorem J_HSetter_leaveOut_d33 : decode J_HSetter_leaveOut.2.1 33 = .ok (.bipush 12, 2) := by decide +kernel
theorem J_HSetter_leaveOut_d35 : decode J_HSetter_leaveOut.2.1 35 = .ok (.iload_n 1, 1) := by decide +kernel
theorem J_HSetter_leaveOut_d36 : decode J_HSetter_leaveOut.2.1 36 = .ok (.imul, 1) := by decide +kernel
theorem J_HSetter_leaveOut_d37 : decode J_HSetter_leaveOut.2.1 37 = .ok (.iconst 3, 1) := by decide +kernel
theorem J_HSetter_leaveOut_d38 : decode J_HSetter_leaveOut.2.1 38 = .ok (.iload_n 2, 1) := by decide +kernel
theorem J_HSetter_leaveOut_d39 : decode J_HSetter_leaveOut.2.1 39 = .ok (.imul, 1) := by decide +kernel
theorem J_HSetter_leaveOut_d40 : decode J_HSetter_leaveOut.2.1 40 = .ok (.iadd, 1) := by decide +kernel
theorem J_HSetter_leaveOut_d41 : decode J_HSetter_leaveOut.2.1 41 = .ok (.iaload, 1) := by decide +kernel
theorem J_HSetter_leaveOut_d42 : decode J_HSetter_leaveOut.2.1 42 = .ok (.iastore, 1) := by decide +kernel
theorem J_HSetter_leaveOut_d43 : decode J_HSetter_leaveOut.2.1 43 = .ok (.iinc 2 1, 3) := by decide +kernel
theorem J_HSetter_leaveOut_d46 : decode J_HSetter_leaveOut.2.1 46 = .ok (.goto (-44), 3) := by decide +kernel
theorem J_HSetter_leaveOut_d49 : decode J_HSetter_leaveOut.2.1 49 = .ok (.return_, 1) := by decide +kernel
theorem f_HSetter_leaveOut_ok {L : Nat} {xs : Nat → Int32} {dep : Nat} {w : Bool} {p0 : Int32} {M : im_M} {Q : im_M → Prop} (hM : lw_S w M) (h : ed (f_HSetter_leaveOut p0 M) Q) : ia (tb_G L xs) dep J_HSetter_leaveOut (rwV w Q) (0, lv_args 0 [.ref 15, .int p0], [], M) := by
  have hS : im_St (tb_G L xs) dep J_HSetter_leaveOut (ia (tb_G L xs) dep J_HSetter_leaveOut (rwV w Q)) := ia_St
  unfold f_HSetter_leaveOut at h
  have l0 : im_lk (lv_args 0 [.ref 15, .int p0]) 0 = some (.ref 15) := rfl
  have l1 : im_lk (lv_args 0 [.ref 15, .int p0]) 1 = some (.int p0) := rfl
  refine iq_iconst hS 1 J_HSetter_leaveOut_d0 (v := 0) (by decide +kernel) rfl ?_
  refine iq_istore_n hS 2 J_HSetter_leaveOut_d1 (by decide) rfl ?_
  obtain ⟨Q1, hQ1, h⟩ := bd1_ed h
  have K1 : ∀ (M2 : im_M) (L' : List (Nat × Value)), lw_S w M2 → Q1 M2 → ia (tb_G L xs) dep J_HSetter_leaveOut (rwV w Q) (49, L', [], M2) := by
    intro M2 L' hM2  h
    replace h := hQ1 _ h
    exact iq_ret J_HSetter_leaveOut_d49 rfl ⟨rfl, hM2, ed_some h⟩
  obtain ⟨r1, hr1, hq1⟩ := h
  obtain ⟨n1, hn1⟩ := lp_n hr1
  have I1 : ∀ (n : Nat) (x3 : Int32) (M4 : im_M) (L' : List (Nat × Value)), lw_S w M4 → im_lk L' 0 = some (.ref 15) → im_lk L' 1 = some (.int p0) → im_lk L' 2 = some (.int x3) → lpn (uc2 (f_HSetter_leaveOut_L2 p0)) n (x3, M4) = some r1 → ia (tb_G L xs) dep J_HSetter_leaveOut (rwV w Q) (2, L', [], M4) := by
    intro n
    induction n with
    | zero => intro x3 M4 L' hM4 l5 l6 l7 hn; exact (lpn_0 hn).elim
    | succ n ih =>
      intro x3 M4 L' hM4 l5 l6 l7 hn
      have h := lpn_ed2 hn
      unfold f_HSetter_leaveOut_L2 at h
      refine iq_iload_n hS 3 J_HSetter_leaveOut_d2 l7 rfl ?_
      refine iq_iconst hS 4 J_HSetter_leaveOut_d3 (v := 4) (by decide +kernel) rfl ?_
      refine iq_icmp_ge hS 7 J_HSetter_leaveOut_d4 (t := 49) rfl (fun q4 => ?_) rfl (fun q4 => ?_)
      · replace h := ed_pos q4 h
        exact K1 _ _ hM4  (lq_r h hq1)
      · replace h := ed_neg q4 h
        refine iq_aload_n hS 8 J_HSetter_leaveOut_d7 l5 rfl ?_
        refine iq_getR hS 11 J_HSetter_leaveOut_d8 lf_8_25 (Or.inl ⟨_, rfl⟩) (ka_15 hM4) (ra_15_0 hM4) rfl ?_
        refine iq_getR hS 14 J_HSetter_leaveOut_d11 lf_8_131 (Or.inr ⟨_, rfl⟩) (ka_1 hM4) (ra_1_9 hM4) rfl ?_
        refine iq_iload_n hS 15 J_HSetter_leaveOut_d14 l7 rfl ?_
        refine iq_iload_n hS 16 J_HSetter_leaveOut_d15 l6 rfl ?_
        refine iq_bipush hS 18 J_HSetter_leaveOut_d16 (v := 13) (by decide +kernel) rfl ?_
        obtain ⟨Q8, hQ8, h⟩ := bd1_ed h
        have J8 : ∀ (y9 : Int32) (L' : List (Nat × Value)), im_lk L' 0 = some (.ref 15) → im_lk L' 1 = some (.int p0) → im_lk L' 2 = some (.int x3) → Q8 y9 → ia (tb_G L xs) dep J_HSetter_leaveOut (rwV w Q) (42, L', [.int y9, .int x3, .ref 9], M4) := by
          intro y9 L' l10 l11 l12 h
          replace h := hQ8 _ h
          obtain ⟨g42, h⟩ := ed_gd h
          refine iq_iastore hS 43 J_HSetter_leaveOut_d42 ⟨(ka_9 hM4).1, (ka_9 hM4).2, g42.1, ix_lt (kl_9 hM4) g42.2⟩ rfl ?_
          refine iq_iincv hS 46 J_HSetter_leaveOut_d43 (c := 1) (by decide +kernel) l12 (by decide) rfl ?_
          refine iq_goto hS J_HSetter_leaveOut_d46 (t := 2) rfl ?_
          exact ih _ _ _ (lw_sI hM4) (lk_1r l10 (by decide)) (lk_1i l11 (by decide)) lk_1s (lq_l h)
        refine iq_icmp_ne hS 21 J_HSetter_leaveOut_d18 (t := 30) rfl (fun q18 => ?_) rfl (fun q18 => ?_)
        · replace h := ed_pos q18 h
          refine iq_getstatic hS 33 J_HSetter_leaveOut_d30 gs_8_134 rfl ?_
          refine iq_bipush hS 35 J_HSetter_leaveOut_d33 (v := 12) (by decide +kernel) rfl ?_
          refine iq_iload_n hS 36 J_HSetter_leaveOut_d35 l6 rfl ?_
          refine iq_imul hS 37 J_HSetter_leaveOut_d36 rfl ?_
          refine iq_iconst hS 38 J_HSetter_leaveOut_d37 (v := 3) (by decide +kernel) rfl ?_
          refine iq_iload_n hS 39 J_HSetter_leaveOut_d38 l7 rfl ?_
          refine iq_imul hS 40 J_HSetter_leaveOut_d39 rfl ?_
          refine iq_iadd hS 41 J_HSetter_leaveOut_d40 rfl ?_
          obtain ⟨g41, h⟩ := ed_gd h
          refine iq_xl_0 hS 42 J_HSetter_leaveOut_d41 hM4 g41 rfl ?_
          exact J8 _ _ l5 l6 l7 (ed_some h)
        · replace h := ed_neg q18 h
          refine iq_aload_n hS 22 J_HSetter_leaveOut_d21 l5 rfl ?_
          refine iq_getR hS 25 J_HSetter_leaveOut_d22 lf_8_22 (Or.inr ⟨_, rfl⟩) (ka_15 hM4) (ra_15_14 hM4) rfl ?_
          refine iq_iload_n hS 26 J_HSetter_leaveOut_d25 l7 rfl ?_
          obtain ⟨g26, h⟩ := ed_gd h
          refine iq_iaload hS 27 J_HSetter_leaveOut_d26 ⟨(ka_18 hM4).1, (ka_18 hM4).2, g26.1, ix_lt (kl_18 hM4) g26.2⟩ rfl ?_
          refine iq_goto hS J_HSetter_leaveOut_d27 (t := 42) rfl ?_
          exact J8 _ _ l5 l6 l7 (ed_some h)
  exact I1 n1 _ _ _ hM (lk_1r l0 (by decide)) (lk_1i l1 (by decide)) lk_1s hn1
theorem f_HSetter_leaveOut_fr {p0 : Int32} {M : im_M} {r : im_M} (h : f_HSetter_leaveOut p0 M = some r) : fr 512 [] M r := by
  replace h : ed (f_HSetter_leaveOut p0 M) (fun x => x = r) := ⟨r, h, rfl⟩
  unfold f_HSetter_leaveOut at h
  obtain ⟨Q1, hQ1, h⟩ := bd1_ed h
  have K1 : ∀ (M2 : im_M), fr 512 [] M M2 → Q1 M2 → fr 512 [] M r := by
    intro M2 hM2 h
    replace h := hQ1 _ h
    exact fr_retV h hM2
  obtain ⟨r1, hr1, hq1⟩ := h
  obtain ⟨n1, hn1⟩ := lp_n hr1
  have I1 : ∀ (n : Nat) (x3 : Int32) (M4 : im_M), fr 512 [] M M4 → lpn (uc2 (f_HSetter_leaveOut_L2 p0)) n (x3, M4) = some r1 → fr 512 [] M r := by
    intro n
    induction n with
    | zero => intro x3 M4 hM4 hn; exact (lpn_0 hn).elim
    | succ n ih =>
      intro x3 M4 hM4 hn
      have h := lpn_ed2 hn
      unfold f_HSetter_leaveOut_L2 at h
      by_cases q4 : 4 ≤ x3
      · replace h := ed_pos q4 h
        exact K1 _ hM4 (lq_r h hq1)
      · replace h := ed_neg q4 h
        obtain ⟨Q5, hQ5, h⟩ := bd1_ed h
        have J5 : ∀ (y6 : Int32), Q5 y6 → fr 512 [] M r := by
          intro y6 h
          replace h := hQ5 _ h
          obtain ⟨g42, h⟩ := ed_gd h
          exact ih _ _ (fr_I (by decide) hM4) (lq_l h)
        by_cases q18 : ¬ p0 = 13
        · replace h := ed_pos q18 h
          obtain ⟨g41, h⟩ := ed_gd h
          exact J5 _ (ed_some h)
        · replace h := ed_neg q18 h
          obtain ⟨g26, h⟩ := ed_gd h
          exact J5 _ (ed_some h)
  exact I1 n1 _ _ fr_refl hn1
noncomputable def f_HTape_isDigit (p0 : Int32) (M : im_M) : Option (Int32) := if p0 < 48 then some 0 else if 57 < p0 then some 0 else some 1
theorem J_HTape_isDigit_d0 : decode J_HTape_isDigit.2.1 0 = .ok (.iload_n 0, 1) := by decide +kernel
theorem J_HTape_isDigit_d1 : decode J_HTape_isDigit.2.1 1 = .ok (.bipush 48, 2) := by decide +kernel
theorem J_HTape_isDigit_d3 : decode J_HTape_isDigit.2.1 3 = .ok (.if_icmp .lt 13, 3) := by decide +kernel
theorem J_HTape_isDigit_d6 : decode J_HTape_isDigit.2.1 6 = .ok (.iload_n 0, 1) := by decide +kernel
theorem J_HTape_isDigit_d7 : decode J_HTape_isDigit.2.1 7 = .ok (.bipush 57, 2) := by decide +kernel
theorem J_HTape_isDigit_d9 : decode J_HTape_isDigit.2.1 9 = .ok (.if_icmp .gt 7, 3) := by decide +kernel
theorem J_HTape_isDigit_d12 : decode J_HTape_isDigit.2.1 12 = .ok (.iconst 1, 1) := by decide +kernel
theorem J_HTape_isDigit_d13 : decode J_HTape_isDigit.2.1 13 = .ok (.goto 4, 3) := by decide +kernel
theorem J_HTape_isDigit_d16 : decode J_HTape_isDigit.2.1 16 = .ok (.iconst 0, 1) := by decide +kernel
theorem J_HTape_isDigit_d17 : decode J_HTape_isDigit.2.1 17 = .ok (.ireturn, 1) := by decide +kernel
theorem f_HTape_isDigit_ok {L : Nat} {xs : Nat → Int32} {dep : Nat} {w : Bool} {p0 : Int32} {M : im_M} {Q : Int32 → Prop} (hM : lw_S w M) (h : ed (f_HTape_isDigit p0 M) Q) : ia (tb_G L xs) dep J_HTape_isDigit (rpI M Q) (0, lv_args 0 [.int p0], [], M) := by
  have hS : im_St (tb_G L xs) dep J_HTape_isDigit (ia (tb_G L xs) dep J_HTape_isDigit (rpI M Q)) := ia_St
  unfold f_HTape_isDigit at h
  have l0 : im_lk (lv_args 0 [.int p0]) 0 = some (.int p0) := rfl
  refine iq_iload_n hS 1 J_HTape_isDigit_d0 l0 rfl ?_
  refine iq_bipush hS 3 J_HTape_isDigit_d1 (v := 48) (by decide +kernel) rfl ?_
  refine iq_icmp_lt hS 6 J_HTape_isDigit_d3 (t := 16) rfl (fun q3 => ?_) rfl (fun q3 => ?_)
  · replace h := ed_pos q3 h
    refine iq_iconst hS 17 J_HTape_isDigit_d16 (v := 0) (by decide +kernel) rfl ?_
    exact iq_iret J_HTape_isDigit_d17 rfl rfl ⟨_, rfl, rfl, ed_some h⟩
  · replace h := ed_neg q3 h
    refine iq_iload_n hS 7 J_HTape_isDigit_d6 l0 rfl ?_
    refine iq_bipush hS 9 J_HTape_isDigit_d7 (v := 57) (by decide +kernel) rfl ?_
    refine iq_icmp_gt hS 12 J_HTape_isDigit_d9 (t := 16) rfl (fun q9 => ?_) rfl (fun q9 => ?_)
    · replace h := ed_pos q9 h
      refine iq_iconst hS 17 J_HTape_isDigit_d16 (v := 0) (by decide +kernel) rfl ?_
      exact iq_iret J_HTape_isDigit_d17 rfl rfl ⟨_, rfl, rfl, ed_some h⟩
    · replace h := ed_neg q9 h
      refine iq_iconst hS 13 J_HTape_isDigit_d12 (v := 1) (by decide +kernel) rfl ?_
      refine iq_goto hS J_HTape_isDigit_d13 (t := 17) rfl ?_
      exact iq_iret J_HTape_isDigit_d17 rfl rfl ⟨_, rfl, rfl, ed_some h⟩
noncomputable def f_HTape_takeNumber_L28 (v10 : Int32) (v11 : Int32) (x12 : Int32) (x13 : Int32) (M14 : im_M) : Option ((Int32 × Int32 × im_M) ⊕ (Int32 × Int32 × im_M)) := if 6 ≤ x13 then some (.inr (x12, x13, M14)) else bd1 (f_HTape_next M14) fun (x15 : Int32) => bd1 (f_HTape_isDigit x15 M14) fun (x16 : Int32) => if x16 = 0 then some (.inr (x12, x13, M14)) else bd1 (f_HTape_next M14) fun (x17 : Int32) => bd1 (f_HTape_pass M14) fun (M18 : im_M) => some (.inl (((((10 : Int32) * x12) + x17) - 48), (x13 + 1), M18))
noncomputable def f_HTape_takeNumber (p0 : Int32) (M : im_M) : Option (Int32 × im_M) := bd1 (f_HTape_next M) fun (x1 : Int32) => bd1 (if ((if ¬ x1 = 45 then 0 else 1) : Int32) = 0 then some M else bd1 (f_HTape_pass M) fun (M4 : im_M) => some M4) fun (M5 : im_M) => bd3 (lp (uc3 (f_HTape_takeNumber_L28 p0 ((if ¬ x1 = 45 then 0 else 1) : Int32))) (0, 0, M5)) fun (y19 : Int32) (y20 : Int32) (M21 : im_M) => if 5 < y20 then some (0, M21) else jn0 (fun (_ : Unit) => if y20 ≤ 0 then some (1, M21) else gd (inb p0 4) <| some (1, (im_setI M21 9 (Int32.toNatClampNeg p0) ((if ((if ¬ x1 = 45 then 0 else 1) : Int32) = 0 then y19 else (-y19)) : Int32)))) fun k22 => if ((if ¬ x1 = 45 then 0 else 1) : Int32) = 0 then k22 () else if ¬ y20 = 0 then k22 () else some (0, M21)
theorem J_HTape_takeNumber_d0 : decode J_HTape_takeNumber.2.1 0 = .ok (.aload_n 0, 1) := by decide +kernel
theorem J_HTape_takeNumber_d1 : decode J_HTape_takeNumber.2.1 1 = .ok (.invokevirtual 47, 3) := by decide +kernel
theorem J_HTape_takeNumber_d4 : decode J_HTape_takeNumber.2.1 4 = .ok (.bipush 45, 2) := by decide +kernel
theorem J_HTape_takeNumber_d6 : decode J_HTape_takeNumber.2.1 6 = .ok (.if_icmp .ne 7, 3) := by decide +kernel
theorem J_HTape_takeNumber_d9 : decode J_HTape_takeNumber.2.1 9 = .ok (.iconst 1, 1) := by decide +kernel
theorem J_HTape_takeNumber_d10 : decode J_HTape_takeNumber.2.1 10 = .ok (.goto 4, 3) := by decide +kernel
theorem J_HTape_takeNumber_d13 : decode J_HTape_takeNumber.2.1 13 = .ok (.iconst 0, 1) := by decide +kernel
theorem J_HTape_takeNumber_d14 : decode J_HTape_takeNumber.2.1 14 = .ok (.istore_n 2, 1) := by decide +kernel
theorem J_HTape_takeNumber_d15 : decode J_HTape_takeNumber.2.1 15 = .ok (.iload_n 2, 1) := by decide +kernel
theorem J_HTape_takeNumber_d16 : decode J_HTape_takeNumber.2.1 16 = .ok (.ifCond .eq 7, 3) := by decide +kernel
theorem J_HTape_takeNumber_d19 : decode J_HTape_takeNumber.2.1 19 = .ok (.aload_n 0, 1) := by decide +kernel
theorem J_HTape_takeNumber_d20 : decode J_HTape_takeNumber.2.1 20 = .ok (.invokevirtual 51, 3) := by decide +kernel
theorem J_HTape_takeNumber_d23 : decode J_HTape_takeNumber.2.1 23 = .ok (.iconst 0, 1) := by decide +kernel
theorem J_HTape_takeNumber_d24 : decode J_HTape_takeNumber.2.1 24 = .ok (.istore_n 3, 1) := by decide +kernel
theorem J_HTape_takeNumber_d25 : decode J_HTape_takeNumber.2.1 25 = .ok (.iconst 0, 1) := by decide +kernel
theorem J_HTape_takeNumber_d26 : decode J_HTape_takeNumber.2.1 26 = .ok (.istore 4, 2) := by decide +kernel
theorem J_HTape_takeNumber_d28 : decode J_HTape_takeNumber.2.1 28 = .ok (.iload 4, 2) := by decide +kernel
theorem J_HTape_takeNumber_d30 : decode J_HTape_takeNumber.2.1 30 = .ok (.bipush 6, 2) := by decide +kernel
theorem J_HTape_takeNumber_d32 : decode J_HTape_takeNumber.2.1 32 = .ok (.if_icmp .ge 36, 3) := by decide +kernel
theorem J_HTape_takeNumber_d35 : decode J_HTape_takeNumber.2.1 35 = .ok (.aload_n 0, 1) := by decide +kernel
theorem J_HTape_takeNumber_d36 : decode J_HTape_takeNumber.2.1 36 = .ok (.invokevirtual 47, 3) := by decide +kernel
theorem J_HTape_takeNumber_d39 : decode J_HTape_takeNumber.2.1 39 = .ok (.invokestatic 58, 3) := by decide +kernel
theorem J_HTape_takeNumber_d42 : decode J_HTape_takeNumber.2.1 42 = .ok (.ifCond .eq 26, 3) := by decide +kernel
theorem J_HTape_takeNumber_d45 : decode J_HTape_takeNumber.2.1 45 = .ok (.bipush 10, 2) := by decide +kernel
theorem J_HTape_takeNumber_d47 : decode J_HTape_takeNumber.2.1 47 = .ok (.iload_n 3, 1) := by decide +kernel
theorem J_HTape_takeNumber_d48 : decode J_HTape_takeNumber.2.1 48 = .ok (.imul, 1) := by decide +kernel
theorem J_HTape_takeNumber_d49 : decode J_HTape_takeNumber.2.1 49 = .ok (.aload_n 0, 1) := by decide +kernel
theorem J_HTape_takeNumber_d50 : decode J_HTape_takeNumber.2.1 50 = .ok (.invokevirtual 47, 3) := by decide +kernel
theorem J_HTape_takeNumber_d53 : decode J_HTape_takeNumber.2.1 53 = .ok (.iadd, 1) := by decide +kernel
theorem J_HTape_takeNumber_d54 : decode J_HTape_takeNumber.2.1 54 = .ok (.bipush 48, 2) := by decide +kernel
theorem J_HTape_takeNumber_d56 : decode J_HTape_takeNumber.2.1 56 = .ok (.isub, 1) := by decide +kernel
theorem J_HTape_takeNumber_d57 : decode J_HTape_takeNumber.2.1 57 = .ok (.istore_n 3, 1) := by decide +kernel
theorem J_HTape_takeNumber_d58 : decode J_HTape_takeNumber.2.1 58 = .ok (.aload_n 0, 1) := by decide +kernel
theorem J_HTape_takeNumber_d59 : decode J_HTape_takeNumber.2.1 59 = .ok (.invokevirtual 51, 3) := by decide +kernel
theorem J_HTape_takeNumber_d62 : decode J_HTape_takeNumber.2.1 62 = .ok (.iinc 4 1, 3) := by decide +kernel
theorem J_HTape_takeNumber_d65 : decode J_HTape_takeNumber.2.1 65 = .ok (.goto (-37), 3) := by decide +kernel
theorem J_HTape_takeNumber_d68 : decode J_HTape_takeNumber.2.1 68 = .ok (.iload 4, 2) := by decide +kernel
theorem J_HTape_takeNumber_d70 : decode J_HTape_takeNumber.2.1 70 = .ok (.iconst 5, 1) := by decide +kernel
theorem J_HTape_takeNumber_d71 : decode J_HTape_takeNumber.2.1 71 = .ok (.if_icmp .gt 12, 3) := by decide +kernel
theorem J_HTape_takeNumber_d74 : decode J_HTape_takeNumber.2.1 74 = .ok (.iload_n 2, 1) := by decide +kernel
theorem J_HTape_takeNumber_d75 : decode J_HTape_takeNumber.2.1 75 = .ok (.ifCond .eq 10, 3) := by decide +kernel
theorem J_HTape_takeNumber_d78 : decode J_HTape_takeNumber.2.1 78 = .ok (.iload 4, 2) := by decide +kernel
theorem J_HTape_takeNumber_d80 : decode J_HTape_takeNumber.2.1 80 = .ok (.ifCond .ne 5, 3) := by decide +kernel
theorem J_HTape_takeNumber_d83 : decode J_HTape_takeNumber.2.1 83 = .ok (.iconst 0, 1) := by decide +kernel
theorem J_HTape_takeNumber_d84 : decode J_HTape_takeNumber.2.1 84 = .ok (.ireturn, 1) := by decide +kernel
theorem J_HTape_takeNumber_d85 : decode J_HTape_takeNumber.2.1 85 = .ok (.iload 4, 2) := by decide +kernel
theorem J_HTape_takeNumber_d87 : decode J_HTape_takeNumber.2.1 87 = .ok (.ifCond .le 19, 3) := by decide +kernel
theorem J_HTape_takeNumber_d90 : decode J_HTape_takeNumber.2.1 90 = .ok (.aload_n 0, 1) := by decide +kernel
theorem J_HTape_takeNumber_d91 : decode J_HTape_takeNumber.2.1 91 = .ok (.getfield 34, 3) := by decide +kernel
theorem J_HTape_takeNumber_d94 : decode J_HTape_takeNumber.2.1 94 = .ok (.iload_n 1, 1) := by decide +kernel
theorem J_HTape_takeNumber_d95 : decode J_HTape_takeNumber.2.1 95 = .ok (.iload_n 2, 1) := by decide +kernel
theorem J_HTape_takeNumber_d96 : decode J_HTape_takeNumber.2.1 96 = .ok (.ifCond .eq 8, 3) := by decide +kernel
theorem J_HTape_takeNumber_d99 : decode J_HTape_takeNumber.2.1 99 = .ok (.iload_n 3, 1) := by decide +kernel
theorem J_HTape_takeNumber_d100 : decode J_HTape_takeNumber.2.1 100 = .ok (.ineg, 1) := by decide +kernel
theorem J_HTape_takeNumber_d101 : decode J_HTape_takeNumber.2.1 101 = .ok (.goto 4, 3) := by decide +kernel
theorem J_HTape_takeNumber_d104 : decode J_HTape_takeNumber.2.1 104 = .ok (.iload_n 3, 1) := by decide +kernel
theorem J_HTape_takeNumber_d105 : decode J_HTape_takeNumber.2.1 105 = .ok (.iastore, 1) := by decide +kernel
theorem J_HTape_takeNumber_d106 : decode J_HTape_takeNumber.2.1 106 = .ok (.iconst 1, 1) := by decide +kernel
theorem J_HTape_takeNumber_d107 : decode J_HTape_takeNumber.2.1 107 = .ok (.ireturn, 1) := by decide +kernel
theorem f_HTape_takeNumber_ok {L : Nat} {xs : Nat → Int32} {dep : Nat} {w : Bool} {p0 : Int32} {M : im_M} {Q : Int32 × im_M → Prop} (hM : lw_S w M) (h : ed (f_HTape_takeNumber p0 M) Q) : ia (tb_G L xs) (dep + 1) J_HTape_takeNumber (rwI w Q) (0, lv_args 0 [.ref 1, .int p0], [], M) := by
  have hS : im_St (tb_G L xs) (dep + 1) J_HTape_takeNumber (ia (tb_G L xs) (dep + 1) J_HTape_takeNumber (rwI w Q)) := ia_St
  unfold f_HTape_takeNumber at h
  have l0 : im_lk (lv_args 0 [.ref 1, .int p0]) 0 = some (.ref 1) := rfl
  have l1 : im_lk (lv_args 0 [.ref 1, .int p0]) 1 = some (.int p0) := rfl
  refine iq_aload_n hS 1 J_HTape_takeNumber_d0 l0 rfl ?_
  obtain ⟨Q1, hQ1, h⟩ := bd1_ed h
  refine iq_cpI hS 4 J_HTape_takeNumber_d1 rfl (pr_inst (vs := []) lc_10_47 lT_17 rfl rfl (by decide) (by decide) rfl (Nat.le_of_ble_eq_true rfl) (Nat.le_of_ble_eq_true rfl) (fun _ => Or.inl (pr_b (ka_1 hM) (by decide) rfl))) (f_HTape_next_ok (dep := dep + 0) hM h) rfl ?_
  intro x1 h
  replace h := hQ1 _ h
  refine iq_bipush hS 6 J_HTape_takeNumber_d4 (v := 45) (by decide +kernel) rfl ?_
  have J2 : ∀ (z3 : Int32) (L' : List (Nat × Value)), z3 = ((if ¬ x1 = 45 then 0 else 1) : Int32) → im_lk L' 0 = some (.ref 1) → im_lk L' 1 = some (.int p0) → ia (tb_G L xs) (dep + 1) J_HTape_takeNumber (rwI w Q) (14, L', [.int z3], M) := by
    intro z3 L' e4 l5 l6
    subst e4
    refine iq_istore_n hS 15 J_HTape_takeNumber_d14 (by decide) rfl ?_
    refine iq_iload_n hS 16 J_HTape_takeNumber_d15 lk_1s rfl ?_
    obtain ⟨Q7, hQ7, h⟩ := bd1_ed h
    have J7 : ∀ (M9 : im_M) (L' : List (Nat × Value)), lw_S w M9 → im_lk L' 0 = some (.ref 1) → im_lk L' 1 = some (.int p0) → im_lk L' 2 = some (.int ((if ¬ x1 = 45 then 0 else 1) : Int32)) → Q7 M9 → ia (tb_G L xs) (dep + 1) J_HTape_takeNumber (rwI w Q) (23, L', [], M9) := by
      intro M9 L' hM9 l10 l11 l12 h
      replace h := hQ7 _ h
      refine iq_iconst hS 24 J_HTape_takeNumber_d23 (v := 0) (by decide +kernel) rfl ?_
      refine iq_istore_n hS 25 J_HTape_takeNumber_d24 (by decide) rfl ?_
      refine iq_iconst hS 26 J_HTape_takeNumber_d25 (v := 0) (by decide +kernel) rfl ?_
      refine iq_istore hS 28 J_HTape_takeNumber_d26 (by decide) rfl ?_
      obtain ⟨Q13, hQ13, h⟩ := bd3_ed h
      have K13 : ∀ (y14 : Int32) (y15 : Int32) (M16 : im_M) (L' : List (Nat × Value)), lw_S w M16 → im_lk L' 0 = some (.ref 1) → im_lk L' 1 = some (.int p0) → im_lk L' 2 = some (.int ((if ¬ x1 = 45 then 0 else 1) : Int32)) → im_lk L' 3 = some (.int y14) → im_lk L' 4 = some (.int y15) → Q13 (y14, y15, M16) → ia (tb_G L xs) (dep + 1) J_HTape_takeNumber (rwI w Q) (68, L', [], M16) := by
        intro y14 y15 M16 L' hM16 l17 l18 l19 l20 l21 h
        replace h := hQ13 _ _ _ h
        refine iq_iload hS 70 J_HTape_takeNumber_d68 l21 rfl ?_
        refine iq_iconst hS 71 J_HTape_takeNumber_d70 (v := 5) (by decide +kernel) rfl ?_
        refine iq_icmp_gt hS 74 J_HTape_takeNumber_d71 (t := 83) rfl (fun q71 => ?_) rfl (fun q71 => ?_)
        · replace h := ed_pos q71 h
          refine iq_iconst hS 84 J_HTape_takeNumber_d83 (v := 0) (by decide +kernel) rfl ?_
          exact iq_iret J_HTape_takeNumber_d84 rfl rfl ⟨_, rfl, hM16, ed_some h⟩
        · replace h := ed_neg q71 h
          refine iq_iload_n hS 75 J_HTape_takeNumber_d74 l19 rfl ?_
          obtain ⟨k22, Q22, hQ22, hk22, h⟩ := jn0_ed h
          have J22 : ∀  (L' : List (Nat × Value)), im_lk L' 0 = some (.ref 1) → im_lk L' 1 = some (.int p0) → im_lk L' 2 = some (.int ((if ¬ x1 = 45 then 0 else 1) : Int32)) → im_lk L' 3 = some (.int y14) → im_lk L' 4 = some (.int y15) → Q22 () → ia (tb_G L xs) (dep + 1) J_HTape_takeNumber (rwI w Q) (85, L', [], M16) := by
            intro  L' l23 l24 l25 l26 l27 h
            replace h := hQ22  h
            refine iq_iload hS 87 J_HTape_takeNumber_d85 l27 rfl ?_
            refine iq_if_le hS 90 J_HTape_takeNumber_d87 (t := 106) rfl (fun q87 => ?_) rfl (fun q87 => ?_)
            · replace h := ed_pos q87 h
              refine iq_iconst hS 107 J_HTape_takeNumber_d106 (v := 1) (by decide +kernel) rfl ?_
              exact iq_iret J_HTape_takeNumber_d107 rfl rfl ⟨_, rfl, hM16, ed_some h⟩
            · replace h := ed_neg q87 h
              refine iq_aload_n hS 91 J_HTape_takeNumber_d90 l23 rfl ?_
              refine iq_getR hS 94 J_HTape_takeNumber_d91 lf_10_34 (Or.inr ⟨_, rfl⟩) (ka_1 hM16) (ra_1_9 hM16) rfl ?_
              refine iq_iload_n hS 95 J_HTape_takeNumber_d94 l24 rfl ?_
              refine iq_iload_n hS 96 J_HTape_takeNumber_d95 l25 rfl ?_
              have J28 : ∀ (z29 : Int32) (L' : List (Nat × Value)), z29 = ((if ((if ¬ x1 = 45 then 0 else 1) : Int32) = 0 then y14 else (-y14)) : Int32) → ia (tb_G L xs) (dep + 1) J_HTape_takeNumber (rwI w Q) (105, L', [.int z29, .int p0, .ref 9], M16) := by
                intro z29 L' e30 
                subst e30
                obtain ⟨g105, h⟩ := ed_gd h
                refine iq_iastore hS 106 J_HTape_takeNumber_d105 ⟨(ka_9 hM16).1, (ka_9 hM16).2, g105.1, ix_lt (kl_9 hM16) g105.2⟩ rfl ?_
                refine iq_iconst hS 107 J_HTape_takeNumber_d106 (v := 1) (by decide +kernel) rfl ?_
                exact iq_iret J_HTape_takeNumber_d107 rfl rfl ⟨_, rfl, (lw_sI hM16), ed_some h⟩
              refine iq_if_eq hS 99 J_HTape_takeNumber_d96 (t := 104) rfl (fun q96 => ?_) rfl (fun q96 => ?_)
              · refine iq_iload_n hS 105 J_HTape_takeNumber_d104 l26 rfl ?_
                exact J28 _ _ (by simp only [if_pos q96]) 
              · refine iq_iload_n hS 100 J_HTape_takeNumber_d99 l26 rfl ?_
                refine iq_ineg hS 101 J_HTape_takeNumber_d100 rfl ?_
                refine iq_goto hS J_HTape_takeNumber_d101 (t := 105) rfl ?_
                exact J28 _ _ (by simp only [if_neg q96]) 
          refine iq_if_eq hS 78 J_HTape_takeNumber_d75 (t := 85) rfl (fun q75 => ?_) rfl (fun q75 => ?_)
          · replace h := ed_pos q75 h
            exact J22  _ l17 l18 l19 l20 l21 (hk22  h)
          · replace h := ed_neg q75 h
            refine iq_iload hS 80 J_HTape_takeNumber_d78 l21 rfl ?_
            refine iq_if_ne hS 83 J_HTape_takeNumber_d80 (t := 85) rfl (fun q80 => ?_) rfl (fun q80 => ?_)
            · replace h := ed_pos q80 h
              exact J22  _ l17 l18 l19 l20 l21 (hk22  h)
            · replace h := ed_neg q80 h
              refine iq_iconst hS 84 J_HTape_takeNumber_d83 (v := 0) (by decide +kernel) rfl ?_
              exact iq_iret J_HTape_takeNumber_d84 rfl rfl ⟨_, rfl, hM16, ed_some h⟩
      obtain ⟨r13, hr13, hq13⟩ := h
      obtain ⟨n13, hn13⟩ := lp_n hr13
      have I13 : ∀ (n : Nat) (x31 : Int32) (x32 : Int32) (M33 : im_M) (L' : List (Nat × Value)), lw_S w M33 → im_lk L' 0 = some (.ref 1) → im_lk L' 1 = some (.int p0) → im_lk L' 2 = some (.int ((if ¬ x1 = 45 then 0 else 1) : Int32)) → im_lk L' 3 = some (.int x31) → im_lk L' 4 = some (.int x32) → lpn (uc3 (f_HTape_takeNumber_L28 p0 ((if ¬ x1 = 45 then 0 else 1) : Int32))) n (x31, x32, M33) = some r13 → ia (tb_G L xs) (dep + 1) J_HTape_takeNumber (rwI w Q) (28, L', [], M33) := by
        intro n
        induction n with
        | zero => intro x31 x32 M33 L' hM33 l34 l35 l36 l37 l38 hn; exact (lpn_0 hn).elim
        | succ n ih =>
          intro x31 x32 M33 L' hM33 l34 l35 l36 l37 l38 hn
          have h := lpn_ed3 hn
          unfold f_HTape_takeNumber_L28 at h
          refine iq_iload hS 30 J_HTape_takeNumber_d28 l38 rfl ?_
          refine iq_bipush hS 32 J_HTape_takeNumber_d30 (v := 6) (by decide +kernel) rfl ?_
          refine iq_icmp_ge hS 35 J_HTape_takeNumber_d32 (t := 68) rfl (fun q32 => ?_) rfl (fun q32 => ?_)
          · replace h := ed_pos q32 h
            exact K13 _ _ _ _ hM33 l34 l35 l36 l37 l38 (lq_r h hq13)
          · replace h := ed_neg q32 h
            refine iq_aload_n hS 36 J_HTape_takeNumber_d35 l34 rfl ?_
            obtain ⟨Q39, hQ39, h⟩ := bd1_ed h
            refine iq_cpI hS 39 J_HTape_takeNumber_d36 rfl (pr_inst (vs := []) lc_10_47 lT_17 rfl rfl (by decide) (by decide) rfl (Nat.le_of_ble_eq_true rfl) (Nat.le_of_ble_eq_true rfl) (fun _ => Or.inl (pr_b (ka_1 hM33) (by decide) rfl))) (f_HTape_next_ok (dep := dep + 0) hM33 h) rfl ?_
            intro x39 h
            replace h := hQ39 _ h
            obtain ⟨Q40, hQ40, h⟩ := bd1_ed h
            refine iq_cpI hS 42 J_HTape_takeNumber_d39 rfl (pr_stat (vs := [_]) lc_10_58 lT_35 rfl rfl (by decide) rfl (Nat.le_of_ble_eq_true rfl) (Nat.le_of_ble_eq_true rfl)) (f_HTape_isDigit_ok (dep := dep + 0) hM33 h) rfl ?_
            intro x40 h
            replace h := hQ40 _ h
            refine iq_if_eq hS 45 J_HTape_takeNumber_d42 (t := 68) rfl (fun q42 => ?_) rfl (fun q42 => ?_)
            · replace h := ed_pos q42 h
              exact K13 _ _ _ _ hM33 l34 l35 l36 l37 l38 (lq_r h hq13)
            · replace h := ed_neg q42 h
              refine iq_bipush hS 47 J_HTape_takeNumber_d45 (v := 10) (by decide +kernel) rfl ?_
              refine iq_iload_n hS 48 J_HTape_takeNumber_d47 l37 rfl ?_
              refine iq_imul hS 49 J_HTape_takeNumber_d48 rfl ?_
              refine iq_aload_n hS 50 J_HTape_takeNumber_d49 l34 rfl ?_
              obtain ⟨Q41, hQ41, h⟩ := bd1_ed h
              refine iq_cpI hS 53 J_HTape_takeNumber_d50 rfl (pr_inst (vs := []) lc_10_47 lT_17 rfl rfl (by decide) (by decide) rfl (Nat.le_of_ble_eq_true rfl) (Nat.le_of_ble_eq_true rfl) (fun _ => Or.inl (pr_b (ka_1 hM33) (by decide) rfl))) (f_HTape_next_ok (dep := dep + 0) hM33 h) rfl ?_
              intro x41 h
              replace h := hQ41 _ h
              refine iq_iadd hS 54 J_HTape_takeNumber_d53 rfl ?_
              refine iq_bipush hS 56 J_HTape_takeNumber_d54 (v := 48) (by decide +kernel) rfl ?_
              refine iq_isub hS 57 J_HTape_takeNumber_d56 rfl ?_
              refine iq_istore_n hS 58 J_HTape_takeNumber_d57 (by decide) rfl ?_
              refine iq_aload_n hS 59 J_HTape_takeNumber_d58 (lk_1r l34 (by decide)) rfl ?_
              obtain ⟨Q42, hQ42, h⟩ := bd1_ed h
              refine iq_cwV hS 62 J_HTape_takeNumber_d59 rfl (pr_inst (vs := []) lc_10_51 lT_18 rfl rfl (by decide) (by decide) rfl (Nat.le_of_ble_eq_true rfl) (Nat.le_of_ble_eq_true rfl) (fun _ => Or.inl (pr_b (ka_1 hM33) (by decide) rfl))) (f_HTape_pass_ok (dep := dep + 0) hM33 h) rfl ?_
              intro M42 hM42 h
              replace h := hQ42 _ h
              refine iq_iincv hS 65 J_HTape_takeNumber_d62 (c := 1) (by decide +kernel) (lk_1i l38 (by decide)) (by decide) rfl ?_
              refine iq_goto hS J_HTape_takeNumber_d65 (t := 28) rfl ?_
              exact ih _ _ _ _ hM42 (lk_1r (lk_1r l34 (by decide)) (by decide)) (lk_1i (lk_1i l35 (by decide)) (by decide)) (lk_1i (lk_1i l36 (by decide)) (by decide)) (lk_1i lk_1s (by decide)) lk_1s (lq_l h)
      exact I13 n13 _ _ _ _ hM9 (lk_1r (lk_1r l10 (by decide)) (by decide)) (lk_1i (lk_1i l11 (by decide)) (by decide)) (lk_1i (lk_1i l12 (by decide)) (by decide)) (lk_1i lk_1s (by decide)) lk_1s hn13
    refine iq_if_eq hS 19 J_HTape_takeNumber_d16 (t := 23) rfl (fun q16 => ?_) rfl (fun q16 => ?_)
    · replace h := ed_pos q16 h
      exact J7 _ _ hM (lk_1r l5 (by decide)) (lk_1i l6 (by decide)) lk_1s (ed_some h)
    · replace h := ed_neg q16 h
      refine iq_aload_n hS 20 J_HTape_takeNumber_d19 (lk_1r l5 (by decide)) rfl ?_
      obtain ⟨Q8, hQ8, h⟩ := bd1_ed h
      refine iq_cwV hS 23 J_HTape_takeNumber_d20 rfl (pr_inst (vs := []) lc_10_51 lT_18 rfl rfl (by decide) (by decide) rfl (Nat.le_of_ble_eq_true rfl) (Nat.le_of_ble_eq_true rfl) (fun _ => Or.inl (pr_b (ka_1 hM) (by decide) rfl))) (f_HTape_pass_ok (dep := dep + 0) hM h) rfl ?_
      intro M8 hM8 h
      replace h := hQ8 _ h
      exact J7 _ _ hM8 (lk_1r l5 (by decide)) (lk_1i l6 (by decide)) lk_1s (ed_some h)
  refine iq_icmp_ne hS 9 J_HTape_takeNumber_d6 (t := 13) rfl (fun q6 => ?_) rfl (fun q6 => ?_)
  · refine iq_iconst hS 14 J_HTape_takeNumber_d13 (v := 0) (by decide +kernel) rfl ?_
    exact J2 _ _ (by simp only [if_pos q6]) l0 l1
  · refine iq_iconst hS 10 J_HTape_takeNumber_d9 (v := 1) (by decide +kernel) rfl ?_
    refine iq_goto hS J_HTape_takeNumber_d10 (t := 14) rfl ?_
    exact J2 _ _ (by simp only [if_neg q6]) l0 l1
theorem f_HTape_takeNumber_fr {p0 : Int32} {M : im_M} {r : Int32 × im_M} (h : f_HTape_takeNumber p0 M = some r) : fr 768 [] M r.2 := by
  replace h : ed (f_HTape_takeNumber p0 M) (fun x => x = r) := ⟨r, h, rfl⟩
  unfold f_HTape_takeNumber at h
  obtain ⟨Q1, hQ1, h⟩ := bd1_ed h
  obtain ⟨x1, e1, h⟩ := h
  replace h := hQ1 _ h
  obtain ⟨Q3, hQ3, h⟩ := bd1_ed h
  have J3 : ∀ (M5 : im_M), fr 768 [] M M5 → Q3 M5 → fr 768 [] M r.2 := by
    intro M5 hM5 h
    replace h := hQ3 _ h
    obtain ⟨Q9, hQ9, h⟩ := bd3_ed h
    have K9 : ∀ (y10 : Int32) (y11 : Int32) (M12 : im_M), fr 768 [] M M12 → Q9 (y10, y11, M12) → fr 768 [] M r.2 := by
      intro y10 y11 M12 hM12 h
      replace h := hQ9 _ _ _ h
      by_cases q71 : 5 < y11
      · replace h := ed_pos q71 h
        exact fr_ret h hM12
      · replace h := ed_neg q71 h
        obtain ⟨k13, Q13, hQ13, hk13, h⟩ := jn0_ed h
        have J13 : Q13 () → fr 768 [] M r.2 := by
          intro  h
          replace h := hQ13  h
          by_cases q87 : y11 ≤ 0
          · replace h := ed_pos q87 h
            exact fr_ret h hM12
          · replace h := ed_neg q87 h
            obtain ⟨g105, h⟩ := ed_gd h
            exact fr_ret h (fr_I (by decide) hM12)
        by_cases q75 : ((if ¬ x1 = 45 then 0 else 1) : Int32) = 0
        · replace h := ed_pos q75 h
          exact J13  (hk13  h)
        · replace h := ed_neg q75 h
          by_cases q80 : ¬ y11 = 0
          · replace h := ed_pos q80 h
            exact J13  (hk13  h)
          · replace h := ed_neg q80 h
            exact fr_ret h hM12
    obtain ⟨r9, hr9, hq9⟩ := h
    obtain ⟨n9, hn9⟩ := lp_n hr9
    have I9 : ∀ (n : Nat) (x20 : Int32) (x21 : Int32) (M22 : im_M), fr 768 [] M M22 → lpn (uc3 (f_HTape_takeNumber_L28 p0 ((if ¬ x1 = 45 then 0 else 1) : Int32))) n (x20, x21, M22) = some r9 → fr 768 [] M r.2 := by
      intro n
      induction n with
      | zero => intro x20 x21 M22 hM22 hn; exact (lpn_0 hn).elim
      | succ n ih =>
        intro x20 x21 M22 hM22 hn
        have h := lpn_ed3 hn
        unfold f_HTape_takeNumber_L28 at h
        by_cases q32 : 6 ≤ x21
        · replace h := ed_pos q32 h
          exact K9 _ _ _ hM22 (lq_r h hq9)
        · replace h := ed_neg q32 h
          obtain ⟨Q23, hQ23, h⟩ := bd1_ed h
          obtain ⟨x23, e23, h⟩ := h
          replace h := hQ23 _ h
          obtain ⟨Q24, hQ24, h⟩ := bd1_ed h
          obtain ⟨x24, e24, h⟩ := h
          replace h := hQ24 _ h
          by_cases q42 : x24 = 0
          · replace h := ed_pos q42 h
            exact K9 _ _ _ hM22 (lq_r h hq9)
          · replace h := ed_neg q42 h
            obtain ⟨Q25, hQ25, h⟩ := bd1_ed h
            obtain ⟨x25, e25, h⟩ := h
            replace h := hQ25 _ h
            obtain ⟨Q26, hQ26, h⟩ := bd1_ed h
            obtain ⟨M26, e26, h⟩ := h
            replace h := hQ26 _ h
            exact ih _ _ _ (fr_tr (fr_mono (by decide) (by decide +kernel) (f_HTape_pass_fr e26)) hM22) (lq_l h)
    exact I9 n9 _ _ _ hM5 hn9
  by_cases q16 : ((if ¬ x1 = 45 then 0 else 1) : Int32) = 0
  · replace h := ed_pos q16 h
    exact J3 _ fr_refl (ed_some h)
  · replace h := ed_neg q16 h
    obtain ⟨Q4, hQ4, h⟩ := bd1_ed h
    obtain ⟨M4, e4, h⟩ := h
    replace h := hQ4 _ h
    exact J3 _ (fr_tr (fr_mono (by decide) (by decide +kernel) (f_HTape_pass_fr e4)) fr_refl) (ed_some h)
noncomputable def f_HTape_takeNumbers_L2 (v2 : Int32) (x3 : Int32) (M4 : im_M) : Option ((Int32 × im_M) ⊕ ((im_M) ⊕ (Int32 × im_M))) := if v2 ≤ x3 then some (.inr (.inl M4)) else bd2 (f_HTape_takeNumber x3 M4) fun (x5 : Int32) (M5 : im_M) => if ¬ x5 = 0 then bd1 (f_HTape_next M5) fun (x6 : Int32) => if x6 = 44 then if ¬ x3 = (v2 - 1) then bd1 (f_HTape_pass M5) fun (M7 : im_M) => some (.inl ((x3 + 1), M7)) else some (.inr (.inr (0, M5))) else some (.inr (.inr (1, M5))) else some (.inr (.inr (0, M5)))
noncomputable def f_HTape_takeNumbers (p0 : Int32) (M : im_M) : Option (Int32 × im_M) := bs1 (lp (uc2 (f_HTape_takeNumbers_L2 p0)) (0, M)) (fun (M8 : im_M) => some (1, M8)) (fun t => some t)
theorem J_HTape_takeNumbers_d0 : decode J_HTape_takeNumbers.2.1 0 = .ok (.iconst 0, 1) := by decide +kernel
theorem J_HTape_takeNumbers_d1 : decode J_HTape_takeNumbers.2.1 1 = .ok (.istore_n 2, 1) := by decide +kernel
theorem J_HTape_takeNumbers_d2 : decode J_HTape_takeNumbers.2.1 2 = .ok (.iload_n 2, 1) := by decide +kernel
theorem J_HTape_takeNumbers_d3 : decode J_HTape_takeNumbers.2.1 3 = .ok (.iload_n 1, 1) := by decide +kernel
theorem J_HTape_takeNumbers_d4 : decode J_HTape_takeNumbers.2.1 4 = .ok (.if_icmp .ge 43, 3) := by decide +kernel
theorem J_HTape_takeNumbers_d7 : decode J_HTape_takeNumbers.2.1 7 = .ok (.aload_n 0, 1) := by decide +kernel
theorem J_HTape_takeNumbers_d8 : decode J_HTape_takeNumbers.2.1 8 = .ok (.iload_n 2, 1) := by decide +kernel
theorem J_HTape_takeNumbers_d9 : decode J_HTape_takeNumbers.2.1 9 = .ok (.invokevirtual 54, 3) := by decide +kernel
theorem J_HTape_takeNumbers_d12 : decode J_HTape_takeNumbers.2.1 12 = .ok (.ifCond .ne 5, 3) := by decide +kernel
theorem J_HTape_takeNumbers_d15 : decode J_HTape_takeNumbers.2.1 15 = .ok (.iconst 0, 1) := by decide +kernel
theorem J_HTape_takeNumbers_d16 : decode J_HTape_takeNumbers.2.1 16 = .ok (.ireturn, 1) := by decide +kernel
theorem J_HTape_takeNumbers_d17 : decode J_HTape_takeNumbers.2.1 17 = .ok (.aload_n 0, 1) := by decide +kernel
theorem J_HTape_takeNumbers_d18 : decode J_HTape_takeNumbers.2.1 18 = .ok (.invokevirtual 47, 3) := by decide +kernel
theorem J_HTape_takeNumbers_d21 : decode J_HTape_takeNumbers.2.1 21 = .ok (.bipush 44, 2) := by decide +kernel
theorem J_HTape_takeNumbers_d23 : decode J_HTape_takeNumbers.2.1 23 = .ok (.if_icmp .eq 5, 3) := by decide +kernel
theorem J_HTape_takeNumbers_d26 : decode J_HTape_takeNumbers.2.1 26 = .ok (.iconst 1, 1) := by decide +kernel
theorem J_HTape_takeNumbers_d27 : decode J_HTape_takeNumbers.2.1 27 = .ok (.ireturn, 1) := by decide +kernel
theorem J_HTape_takeNumbers_d28 : decode J_HTape_takeNumbers.2.1 28 = .ok (.iload_n 2, 1) := by decide +kernel
theorem J_HTape_takeNumbers_d29 : decode J_HTape_takeNumbers.2.1 29 = .ok (.iload_n 1, 1) := by decide +kernel
theorem J_HTape_takeNumbers_d30 : decode J_HTape_takeNumbers.2.1 30 = .ok (.iconst 1, 1) := by decide +kernel
theorem J_HTape_takeNumbers_d31 : decode J_HTape_takeNumbers.2.1 31 = .ok (.isub, 1) := by decide +kernel
theorem J_HTape_takeNumbers_d32 : decode J_HTape_takeNumbers.2.1 32 = .ok (.if_icmp .ne 5, 3) := by decide +kernel
theorem J_HTape_takeNumbers_d35 : decode J_HTape_takeNumbers.2.1 35 = .ok (.iconst 0, 1) := by decide +kernel
theorem J_HTape_takeNumbers_d36 : decode J_HTape_takeNumbers.2.1 36 = .ok (.ireturn, 1) := by decide +kernel
theorem J_HTape_takeNumbers_d37 : decode J_HTape_takeNumbers.2.1 37 = .ok (.aload_n 0, 1) := by decide +kernel
theorem J_HTape_takeNumbers_d38 : decode J_HTape_takeNumbers.2.1 38 = .ok (.invokevirtual 51, 3) := by decide +kernel
theorem J_HTape_takeNumbers_d41 : decode J_HTape_takeNumbers.2.1 41 = .ok (.iinc 2 1, 3) := by decide +kernel
theorem J_HTape_takeNumbers_d44 : decode J_HTape_takeNumbers.2.1 44 = .ok (.goto (-42), 3) := by decide +kernel
theorem J_HTape_takeNumbers_d47 : decode J_HTape_takeNumbers.2.1 47 = .ok (.iconst 1, 1) := by decide +kernel
theorem J_HTape_takeNumbers_d48 : decode J_HTape_takeNumbers.2.1 48 = .ok (.ireturn, 1) := by decide +kernel
theorem f_HTape_takeNumbers_ok {L : Nat} {xs : Nat → Int32} {dep : Nat} {w : Bool} {p0 : Int32} {M : im_M} {Q : Int32 × im_M → Prop} (hM : lw_S w M) (h : ed (f_HTape_takeNumbers p0 M) Q) : ia (tb_G L xs) (dep + 2) J_HTape_takeNumbers (rwI w Q) (0, lv_args 0 [.ref 1, .int p0], [], M) := by
  have hS : im_St (tb_G L xs) (dep + 2) J_HTape_takeNumbers (ia (tb_G L xs) (dep + 2) J_HTape_takeNumbers (rwI w Q)) := ia_St
  unfold f_HTape_takeNumbers at h
  have l0 : im_lk (lv_args 0 [.ref 1, .int p0]) 0 = some (.ref 1) := rfl
  have l1 : im_lk (lv_args 0 [.ref 1, .int p0]) 1 = some (.int p0) := rfl
  refine iq_iconst hS 1 J_HTape_takeNumbers_d0 (v := 0) (by decide +kernel) rfl ?_
  refine iq_istore_n hS 2 J_HTape_takeNumbers_d1 (by decide) rfl ?_
  obtain ⟨Q1, hQ1, hR1, h⟩ := bs1_ed h
  have K1 : ∀ (M2 : im_M) (L' : List (Nat × Value)), lw_S w M2 → Q1 (.inl M2) → ia (tb_G L xs) (dep + 2) J_HTape_takeNumbers (rwI w Q) (47, L', [], M2) := by
    intro M2 L' hM2  h
    replace h := hQ1 _ h
    refine iq_iconst hS 48 J_HTape_takeNumbers_d47 (v := 1) (by decide +kernel) rfl ?_
    exact iq_iret J_HTape_takeNumbers_d48 rfl rfl ⟨_, rfl, hM2, ed_some h⟩
  obtain ⟨r1, hr1, hq1⟩ := h
  obtain ⟨n1, hn1⟩ := lp_n hr1
  have I1 : ∀ (n : Nat) (x3 : Int32) (M4 : im_M) (L' : List (Nat × Value)), lw_S w M4 → im_lk L' 0 = some (.ref 1) → im_lk L' 1 = some (.int p0) → im_lk L' 2 = some (.int x3) → lpn (uc2 (f_HTape_takeNumbers_L2 p0)) n (x3, M4) = some r1 → ia (tb_G L xs) (dep + 2) J_HTape_takeNumbers (rwI w Q) (2, L', [], M4) := by
    intro n
    induction n with
    | zero => intro x3 M4 L' hM4 l5 l6 l7 hn; exact (lpn_0 hn).elim
    | succ n ih =>
      intro x3 M4 L' hM4 l5 l6 l7 hn
      have h := lpn_ed2 hn
      unfold f_HTape_takeNumbers_L2 at h
      refine iq_iload_n hS 3 J_HTape_takeNumbers_d2 l7 rfl ?_
      refine iq_iload_n hS 4 J_HTape_takeNumbers_d3 l6 rfl ?_
      refine iq_icmp_ge hS 7 J_HTape_takeNumbers_d4 (t := 47) rfl (fun q4 => ?_) rfl (fun q4 => ?_)
      · replace h := ed_pos q4 h
        exact K1 _ _ hM4  (lq_r h hq1)
      · replace h := ed_neg q4 h
        refine iq_aload_n hS 8 J_HTape_takeNumbers_d7 l5 rfl ?_
        refine iq_iload_n hS 9 J_HTape_takeNumbers_d8 l7 rfl ?_
        obtain ⟨Q8, hQ8, h⟩ := bd2_ed h
        refine iq_cwI hS 12 J_HTape_takeNumbers_d9 rfl (pr_inst (vs := [_]) lc_10_54 lT_34 rfl rfl (by decide) (by decide) rfl (Nat.le_of_ble_eq_true rfl) (Nat.le_of_ble_eq_true rfl) (fun _ => Or.inl (pr_b (ka_1 hM4) (by decide) rfl))) (f_HTape_takeNumber_ok (dep := dep + 0) hM4 h) rfl ?_
        intro x8 M8 hM8 h
        replace h := hQ8 _ _ h
        refine iq_if_ne hS 15 J_HTape_takeNumbers_d12 (t := 17) rfl (fun q12 => ?_) rfl (fun q12 => ?_)
        · replace h := ed_pos q12 h
          refine iq_aload_n hS 18 J_HTape_takeNumbers_d17 l5 rfl ?_
          obtain ⟨Q9, hQ9, h⟩ := bd1_ed h
          refine iq_cpI hS 21 J_HTape_takeNumbers_d18 rfl (pr_inst (vs := []) lc_10_47 lT_17 rfl rfl (by decide) (by decide) rfl (Nat.le_of_ble_eq_true rfl) (Nat.le_of_ble_eq_true rfl) (fun _ => Or.inl (pr_b (ka_1 hM8) (by decide) rfl))) (f_HTape_next_ok (dep := dep + 1) hM8 h) rfl ?_
          intro x9 h
          replace h := hQ9 _ h
          refine iq_bipush hS 23 J_HTape_takeNumbers_d21 (v := 44) (by decide +kernel) rfl ?_
          refine iq_icmp_eq hS 26 J_HTape_takeNumbers_d23 (t := 28) rfl (fun q23 => ?_) rfl (fun q23 => ?_)
          · replace h := ed_pos q23 h
            refine iq_iload_n hS 29 J_HTape_takeNumbers_d28 l7 rfl ?_
            refine iq_iload_n hS 30 J_HTape_takeNumbers_d29 l6 rfl ?_
            refine iq_iconst hS 31 J_HTape_takeNumbers_d30 (v := 1) (by decide +kernel) rfl ?_
            refine iq_isub hS 32 J_HTape_takeNumbers_d31 rfl ?_
            refine iq_icmp_ne hS 35 J_HTape_takeNumbers_d32 (t := 37) rfl (fun q32 => ?_) rfl (fun q32 => ?_)
            · replace h := ed_pos q32 h
              refine iq_aload_n hS 38 J_HTape_takeNumbers_d37 l5 rfl ?_
              obtain ⟨Q10, hQ10, h⟩ := bd1_ed h
              refine iq_cwV hS 41 J_HTape_takeNumbers_d38 rfl (pr_inst (vs := []) lc_10_51 lT_18 rfl rfl (by decide) (by decide) rfl (Nat.le_of_ble_eq_true rfl) (Nat.le_of_ble_eq_true rfl) (fun _ => Or.inl (pr_b (ka_1 hM8) (by decide) rfl))) (f_HTape_pass_ok (dep := dep + 1) hM8 h) rfl ?_
              intro M10 hM10 h
              replace h := hQ10 _ h
              refine iq_iincv hS 44 J_HTape_takeNumbers_d41 (c := 1) (by decide +kernel) l7 (by decide) rfl ?_
              refine iq_goto hS J_HTape_takeNumbers_d44 (t := 2) rfl ?_
              exact ih _ _ _ hM10 (lk_1r l5 (by decide)) (lk_1i l6 (by decide)) lk_1s (lq_l h)
            · replace h := ed_neg q32 h
              refine iq_iconst hS 36 J_HTape_takeNumbers_d35 (v := 0) (by decide +kernel) rfl ?_
              exact iq_iret J_HTape_takeNumbers_d36 rfl rfl ⟨_, rfl, hM8, ed_some (hR1 _ (lq_r h hq1))⟩
          · replace h := ed_neg q23 h
            refine iq_iconst hS 27 J_HTape_takeNumbers_d26 (v := 1) (by decide +kernel) rfl ?_
            exact iq_iret J_HTape_takeNumbers_d27 rfl rfl ⟨_, rfl, hM8, ed_some (hR1 _ (lq_r h hq1))⟩
        · replace h := ed_neg q12 h
          refine iq_iconst hS 16 J_HTape_takeNumbers_d15 (v := 0) (by decide +kernel) rfl ?_
          exact iq_iret J_HTape_takeNumbers_d16 rfl rfl ⟨_, rfl, hM8, ed_some (hR1 _ (lq_r h hq1))⟩
  exact I1 n1 _ _ _ hM (lk_1r l0 (by decide)) (lk_1i l1 (by decide)) lk_1s hn1
theorem f_HTape_takeNumbers_fr {p0 : Int32} {M : im_M} {r : Int32 × im_M} (h : f_HTape_takeNumbers p0 M = some r) : fr 768 [] M r.2 := by
  replace h : ed (f_HTape_takeNumbers p0 M) (fun x => x = r) := ⟨r, h, rfl⟩
  unfold f_HTape_takeNumbers at h
  obtain ⟨Q1, hQ1, hR1, h⟩ := bs1_ed h
  have K1 : ∀ (M2 : im_M), fr 768 [] M M2 → Q1 (.inl M2) → fr 768 [] M r.2 := by
    intro M2 hM2 h
    replace h := hQ1 _ h
    exact fr_ret h hM2
  obtain ⟨r1, hr1, hq1⟩ := h
  obtain ⟨n1, hn1⟩ := lp_n hr1
  have I1 : ∀ (n : Nat) (x3 : Int32) (M4 : im_M), fr 768 [] M M4 → lpn (uc2 (f_HTape_takeNumbers_L2 p0)) n (x3, M4) = some r1 → fr 768 [] M r.2 := by
    intro n
    induction n with
    | zero => intro x3 M4 hM4 hn; exact (lpn_0 hn).elim
    | succ n ih =>
      intro x3 M4 hM4 hn
      have h := lpn_ed2 hn
      unfold f_HTape_takeNumbers_L2 at h
      by_cases q4 : p0 ≤ x3
      · replace h := ed_pos q4 h
        exact K1 _ hM4 (lq_r h hq1)
      · replace h := ed_neg q4 h
        obtain ⟨Q5, hQ5, h⟩ := bd2_ed h
        obtain ⟨⟨x5, M5⟩, e5, h⟩ := h
        replace h := hQ5 _ _ h
        by_cases q12 : ¬ x5 = 0
        · replace h := ed_pos q12 h
          obtain ⟨Q6, hQ6, h⟩ := bd1_ed h
          obtain ⟨x6, e6, h⟩ := h
          replace h := hQ6 _ h
          by_cases q23 : x6 = 44
          · replace h := ed_pos q23 h
            by_cases q32 : ¬ x3 = (p0 - 1)
            · replace h := ed_pos q32 h
              obtain ⟨Q7, hQ7, h⟩ := bd1_ed h
              obtain ⟨M7, e7, h⟩ := h
              replace h := hQ7 _ h
              exact ih _ _ (fr_tr (fr_mono (by decide) (by decide +kernel) (f_HTape_pass_fr e7)) (fr_tr (fr_mono (by decide) (by decide +kernel) (f_HTape_takeNumber_fr e5)) hM4)) (lq_l h)
            · replace h := ed_neg q32 h
              exact fr_ret (hR1 _ (lq_r h hq1)) (fr_tr (fr_mono (by decide) (by decide +kernel) (f_HTape_takeNumber_fr e5)) hM4)
          · replace h := ed_neg q23 h
            exact fr_ret (hR1 _ (lq_r h hq1)) (fr_tr (fr_mono (by decide) (by decide +kernel) (f_HTape_takeNumber_fr e5)) hM4)
        · replace h := ed_neg q12 h
          exact fr_ret (hR1 _ (lq_r h hq1)) (fr_tr (fr_mono (by decide) (by decide +kernel) (f_HTape_takeNumber_fr e5)) hM4)
  exact I1 n1 _ _ fr_refl hn1
noncomputable def f_HTape_takeNumberAndComma (M : im_M) : Option (Int32 × im_M) := bd2 (f_HTape_takeNumber 0 M) fun (x1 : Int32) (M1 : im_M) => if x1 = 0 then some (0, M1) else bd1 (f_HTape_next M1) fun (x2 : Int32) => if x2 = 44 then bd1 (f_HTape_pass M1) fun (M3 : im_M) => some (1, M3) else some (0, M1)
theorem J_HTape_takeNumberAndComma_d0 : decode J_HTape_takeNumberAndComma.2.1 0 = .ok (.aload_n 0, 1) := by decide +kernel
theorem J_HTape_takeNumberAndComma_d1 : decode J_HTape_takeNumberAndComma.2.1 1 = .ok (.iconst 0, 1) := by decide +kernel
theorem J_HTape_takeNumberAndComma_d2 : decode J_HTape_takeNumberAndComma.2.1 2 = .ok (.invokevirtual 54, 3) := by decide +kernel
theorem J_HTape_takeNumberAndComma_d5 : decode J_HTape_takeNumberAndComma.2.1 5 = .ok (.ifCond .eq 12, 3) := by decide +kernel
theorem J_HTape_takeNumberAndComma_d8 : decode J_HTape_takeNumberAndComma.2.1 8 = .ok (.aload_n 0, 1) := by decide +kernel
theorem J_HTape_takeNumberAndComma_d9 : decode J_HTape_takeNumberAndComma.2.1 9 = .ok (.invokevirtual 47, 3) := by decide +kernel
theorem J_HTape_takeNumberAndComma_d12 : decode J_HTape_takeNumberAndComma.2.1 12 = .ok (.bipush 44, 2) := by decide +kernel
theorem J_HTape_takeNumberAndComma_d14 : decode J_HTape_takeNumberAndComma.2.1 14 = .ok (.if_icmp .eq 5, 3) := by decide +kernel
theorem J_HTape_takeNumberAndComma_d17 : decode J_HTape_takeNumberAndComma.2.1 17 = .ok (.iconst 0, 1) := by decide +kernel
theorem J_HTape_takeNumberAndComma_d18 : decode J_HTape_takeNumberAndComma.2.1 18 = .ok (.ireturn, 1) := by decide +kernel
theorem J_HTape_takeNumberAndComma_d19 : decode J_HTape_takeNumberAndComma.2.1 19 = .ok (.aload_n 0, 1) := by decide +kernel
theorem J_HTape_takeNumberAndComma_d20 : decode J_HTape_takeNumberAndComma.2.1 20 = .ok (.invokevirtual 51, 3) := by decide +kernel
theorem J_HTape_takeNumberAndComma_d23 : decode J_HTape_takeNumberAndComma.2.1 23 = .ok (.iconst 1, 1) := by decide +kernel
theorem J_HTape_takeNumberAndComma_d24 : decode J_HTape_takeNumberAndComma.2.1 24 = .ok (.ireturn, 1) := by decide +kernel
theorem f_HTape_takeNumberAndComma_ok {L : Nat} {xs : Nat → Int32} {dep : Nat} {w : Bool} {M : im_M} {Q : Int32 × im_M → Prop} (hM : lw_S w M) (h : ed (f_HTape_takeNumberAndComma M) Q) : ia (tb_G L xs) (dep + 2) J_HTape_takeNumberAndComma (rwI w Q) (0, lv_args 0 [.ref 1], [], M) := by
  have hS : im_St (tb_G L xs) (dep + 2) J_HTape_takeNumberAndComma (ia (tb_G L xs) (dep + 2) J_HTape_takeNumberAndComma (rwI w Q)) := ia_St
  unfold f_HTape_takeNumberAndComma at h
  have l0 : im_lk (lv_args 0 [.ref 1]) 0 = some (.ref 1) := rfl
  refine iq_aload_n hS 1 J_HTape_takeNumberAndComma_d0 l0 rfl ?_
  refine iq_iconst hS 2 J_HTape_takeNumberAndComma_d1 (v := 0) (by decide +kernel) rfl ?_
  obtain ⟨Q1, hQ1, h⟩ := bd2_ed h
  refine iq_cwI hS 5 J_HTape_takeNumberAndComma_d2 rfl (pr_inst (vs := [_]) lc_10_54 lT_34 rfl rfl (by decide) (by decide) rfl (Nat.le_of_ble_eq_true rfl) (Nat.le_of_ble_eq_true rfl) (fun _ => Or.inl (pr_b (ka_1 hM) (by decide) rfl))) (f_HTape_takeNumber_ok (dep := dep + 0) hM h) rfl ?_
  intro x1 M1 hM1 h
  replace h := hQ1 _ _ h
  refine iq_if_eq hS 8 J_HTape_takeNumberAndComma_d5 (t := 17) rfl (fun q5 => ?_) rfl (fun q5 => ?_)
  · replace h := ed_pos q5 h
    refine iq_iconst hS 18 J_HTape_takeNumberAndComma_d17 (v := 0) (by decide +kernel) rfl ?_
    exact iq_iret J_HTape_takeNumberAndComma_d18 rfl rfl ⟨_, rfl, hM1, ed_some h⟩
  · replace h := ed_neg q5 h
    refine iq_aload_n hS 9 J_HTape_takeNumberAndComma_d8 l0 rfl ?_
    obtain ⟨Q2, hQ2, h⟩ := bd1_ed h
    refine iq_cpI hS 12 J_HTape_takeNumberAndComma_d9 rfl (pr_inst (vs := []) lc_10_47 lT_17 rfl rfl (by decide) (by decide) rfl (Nat.le_of_ble_eq_true rfl) (Nat.le_of_ble_eq_true rfl) (fun _ => Or.inl (pr_b (ka_1 hM1) (by decide) rfl))) (f_HTape_next_ok (dep := dep + 1) hM1 h) rfl ?_
    intro x2 h
    replace h := hQ2 _ h
    refine iq_bipush hS 14 J_HTape_takeNumberAndComma_d12 (v := 44) (by decide +kernel) rfl ?_
    refine iq_icmp_eq hS 17 J_HTape_takeNumberAndComma_d14 (t := 19) rfl (fun q14 => ?_) rfl (fun q14 => ?_)
    · replace h := ed_pos q14 h
      refine iq_aload_n hS 20 J_HTape_takeNumberAndComma_d19 l0 rfl ?_
      obtain ⟨Q3, hQ3, h⟩ := bd1_ed h
      refine iq_cwV hS 23 J_HTape_takeNumberAndComma_d20 rfl (pr_inst (vs := []) lc_10_51 lT_18 rfl rfl (by decide) (by decide) rfl (Nat.le_of_ble_eq_true rfl) (Nat.le_of_ble_eq_true rfl) (fun _ => Or.inl (pr_b (ka_1 hM1) (by decide) rfl))) (f_HTape_pass_ok (dep := dep + 1) hM1 h) rfl ?_
      intro M3 hM3 h
      replace h := hQ3 _ h
      refine iq_iconst hS 24 J_HTape_takeNumberAndComma_d23 (v := 1) (by decide +kernel) rfl ?_
      exact iq_iret J_HTape_takeNumberAndComma_d24 rfl rfl ⟨_, rfl, hM3, ed_some h⟩
    · replace h := ed_neg q14 h
      refine iq_iconst hS 18 J_HTape_takeNumberAndComma_d17 (v := 0) (by decide +kernel) rfl ?_
      exact iq_iret J_HTape_takeNumberAndComma_d18 rfl rfl ⟨_, rfl, hM1, ed_some h⟩
theorem f_HTape_takeNumberAndComma_fr {M : im_M} {r : Int32 × im_M} (h : f_HTape_takeNumberAndComma M = some r) : fr 768 [] M r.2 := by
  replace h : ed (f_HTape_takeNumberAndComma M) (fun x => x = r) := ⟨r, h, rfl⟩
  unfold f_HTape_takeNumberAndComma at h
  obtain ⟨Q1, hQ1, h⟩ := bd2_ed h
  obtain ⟨⟨x1, M1⟩, e1, h⟩ := h
  replace h := hQ1 _ _ h
  by_cases q5 : x1 = 0
  · replace h := ed_pos q5 h
    exact fr_ret h (fr_tr (fr_mono (by decide) (by decide +kernel) (f_HTape_takeNumber_fr e1)) fr_refl)
  · replace h := ed_neg q5 h
    obtain ⟨Q2, hQ2, h⟩ := bd1_ed h
    obtain ⟨x2, e2, h⟩ := h
    replace h := hQ2 _ h
    by_cases q14 : x2 = 44
    · replace h := ed_pos q14 h
      obtain ⟨Q3, hQ3, h⟩ := bd1_ed h
      obtain ⟨M3, e3, h⟩ := h
      replace h := hQ3 _ h
      exact fr_ret h (fr_tr (fr_mono (by decide) (by decide +kernel) (f_HTape_pass_fr e3)) (fr_tr (fr_mono (by decide) (by decide +kernel) (f_HTape_takeNumber_fr e1)) fr_refl))
    · replace h := ed_neg q14 h
      exact fr_ret h (fr_tr (fr_mono (by decide) (by decide +kernel) (f_HTape_takeNumber_fr e1)) fr_refl)
noncomputable def f_HSetter_inRanges_L2 (v2 : Int32) (M4 : im_M) (x3 : Int32) : Option ((Int32) ⊕ ((Unit) ⊕ (Int32))) := gd (inb v2 23) <| if (xa_1 v2) ≤ x3 then some (.inr (.inl ())) else gd (inb x3 4) <| gd (inb ((((12 : Int32) * v2) + ((3 : Int32) * x3)) + 1) 276) <| if (im_i M4 9 (Int32.toNatClampNeg x3)) < (xa_0 ((((12 : Int32) * v2) + ((3 : Int32) * x3)) + 1)) then some (.inr (.inr 0)) else gd (inb x3 4) <| gd (inb ((((12 : Int32) * v2) + ((3 : Int32) * x3)) + 2) 276) <| if (im_i M4 9 (Int32.toNatClampNeg x3)) ≤ (xa_0 ((((12 : Int32) * v2) + ((3 : Int32) * x3)) + 2)) then some (.inl (x3 + 1)) else some (.inr (.inr 0))
noncomputable def f_HSetter_inRanges (p0 : Int32) (M : im_M) : Option (Int32) := bs0 (lp (uc1 (f_HSetter_inRanges_L2 p0 M)) 0) (fun (_ : Unit) => some 1) (fun t => some t)
theorem J_HSetter_inRanges_d0 : decode J_HSetter_inRanges.2.1 0 = .ok (.iconst 0, 1) := by decide +kernel
theorem J_HSetter_inRanges_d1 : decode J_HSetter_inRanges.2.1 1 = .ok (.istore_n 2, 1) := by decide +kernel
theorem J_HSetter_inRanges_d2 : decode J_HSetter_inRanges.2.1 2 = .ok (.iload_n 2, 1) := by decide +kernel
theorem J_HSetter_inRanges_d3 : decode J_HSetter_inRanges.2.1 3 = .ok (.getstatic 110, 3) := by decide +kernel
theorem J_HSetter_inRanges_d6 : decode J_HSetter_inRanges.2.1 6 = .ok (.iload_n 1, 1) := by decide +kernel
theorem J_HSetter_inRanges_d7 : decode J_HSetter_inRanges.2.1 7 = .ok (.iaload, 1) := by decide +kernel
theorem J_HSetter_inRanges_d8 : decode J_HSetter_inRanges.2.1 8 = .ok (.if_icmp .ge 58, 3) := by decide +kernel
theorem J_HSetter_inRanges_d11 : decode J_HSetter_inRanges.2.1 11 = .ok (.bipush 12, 2) := by decide +kernel
theorem J_HSetter_inRanges_d13 : decode J_HSetter_inRanges.2.1 13 = .ok (.iload_n 1, 1) := by decide +kernel
theorem J_HSetter_inRanges_d14 : decode J_HSetter_inRanges.2.1 14 = .ok (.imul, 1) := by decide +kernel
theorem J_HSetter_inRanges_d15 : decode J_HSetter_inRanges.2.1 15 = .ok (.iconst 3, 1) := by decide +kernel
theorem J_HSetter_inRanges_d16 : decode J_HSetter_inRanges.2.1 16 = .ok (.iload_n 2, 1) := by decide +kernel
theorem J_HSetter_inRanges_d17 : decode J_HSetter_inRanges.2.1 17 = .ok (.imul, 1) := by decide +kernel
theorem J_HSetter_inRanges_d18 : decode J_HSetter_inRanges.2.1 18 = .ok (.iadd, 1) := by decide +kernel
theorem J_HSetter_inRanges_d19 : decode J_HSetter_inRanges.2.1 19 = .ok (.istore_n 3, 1) := by decide +kernel
theorem J_HSetter_inRanges_d20 : decode J_HSetter_inRanges.2.1 20 = .ok (.aload_n 0, 1) := by decide +kernel
theorem J_HSetter_inRanges_d21 : decode J_HSetter_inRanges.2.1 21 = .ok (.getfield 25, 3) := by decide +kernel
theorem J_HSetter_inRanges_d24 : decode J_HSetter_inRanges.2.1 24 = .ok (.getfield 131, 3) := by decide +kernel
theorem J_HSetter_inRanges_d27 : decode J_HSetter_inRanges.2.1 27 = .ok (.iload_n 2, 1) := by decide +kernel
theorem J_HSetter_inRanges_d28 : decode J_HSetter_inRanges.2.1 28 = .ok (.iaload, 1) := by decide +kernel
theorem J_HSetter_inRanges_d29 : decode J_HSetter_inRanges.2.1 29 = .ok (.getstatic 134, 3) := by decide +kernel
theorem J_HSetter_inRanges_d32 : decode J_HSetter_inRanges.2.1 32 = .ok (.iload_n 3, 1) := by decide +kernel
theorem J_HSetter_inRanges_d33 : decode J_HSetter_inRanges.2.1 33 = .ok (.iconst 1, 1) := by decide +kernel
theorem J_HSetter_inRanges_d34 : decode J_HSetter_inRanges.2.1 34 = .ok (.iadd, 1) := by decide +kernel
theorem J_HSetter_inRanges_d35 : decode J_HSetter_inRanges.2.1 35 = .ok (.iaload, 1) := by decide +kernel
theorem J_HSetter_inRanges_d36 : decode J_HSetter_inRanges.2.1 36 = .ok (.if_icmp .lt 22, 3) := by decide +kernel
theorem J_HSetter_inRanges_d39 : decode J_HSetter_inRanges.2.1 39 = .ok (.aload_n 0, 1) := by decide +kernel
theorem J_HSetter_inRanges_d40 : decode J_HSetter_inRanges.2.1 40 = .ok (.getfield 25, 3) := by decide +kernel
theorem J_HSetter_inRanges_d43 : decode J_HSetter_inRanges.2.1 43 = .ok (.getfield 131, 3) := by decide +kernel
theorem J_HSetter_inRanges_d46 : decode J_HSetter_inRanges.2.1 46 = .ok (.iload_n 2, 1) := by decide +kernel
theorem J_HSetter_inRanges_d47 : decode J_HSetter_inRanges.2.1 47 = .ok (.iaload, 1) := by decide +kernel
theorem J_HSetter_inRanges_d48 : decode J_HSetter_inRanges.2.1 48 = .ok (.getstatic 134, 3) := by decide +kernel
theorem J_HSetter_inRanges_d51 : decode J_HSetter_inRanges.2.1 51 = .ok (.iload_n 3, 1) := by decide +kernel
theorem J_HSetter_inRanges_d52 : decode J_HSetter_inRanges.2.1 52 = .ok (.iconst 2, 1) := by decide +kernel
theorem J_HSetter_inRanges_d53 : decode J_HSetter_inRanges.2.1 53 = .ok (.iadd, 1) := by decide +kernel
theorem J_HSetter_inRanges_d54 : decode J_HSetter_inRanges.2.1 54 = .ok (.iaload, 1) := by decide +kernel
theorem J_HSetter_inRanges_d55 : decode J_HSetter_inRanges.2.1 55 = .ok (.if_icmp .le 5, 3) := by decide +kernel
theorem J_HSetter_inRanges_d58 : decode J_HSetter_inRanges.2.1 58 = .ok (.iconst 0, 1) := by decide +kernel
theorem J_HSetter_inRanges_d59 : decode J_HSetter_inRanges.2.1 59 = .ok (.ireturn, 1) := by decide +kernel
theorem J_HSetter_inRanges_d60 : decode J_HSetter_inRanges.2.1 60 = .ok (.iinc 2 1, 3) := by decide +kernel
theorem J_HSetter_inRanges_d63 : decode J_HSetter_inRanges.2.1 63 = .ok (.goto (-61), 3) := by decide +kernel
theorem J_HSetter_inRanges_d66 : decode J_HSetter_inRanges.2.1 66 = .ok (.iconst 1, 1) := by decide +kernel
theorem J_HSetter_inRanges_d67 : decode J_HSetter_inRanges.2.1 67 = .ok (.ireturn, 1) := by decide +kernel
theorem f_HSetter_inRanges_ok {L : Nat} {xs : Nat → Int32} {dep : Nat} {w : Bool} {p0 : Int32} {M : im_M} {Q : Int32 → Prop} (hM : lw_S w M) (h : ed (f_HSetter_inRanges p0 M) Q) : ia (tb_G L xs) dep J_HSetter_inRanges (rpI M Q) (0, lv_args 0 [.ref 15, .int p0], [], M) := by
  have hS : im_St (tb_G L xs) dep J_HSetter_inRanges (ia (tb_G L xs) dep J_HSetter_inRanges (rpI M Q)) := ia_St
  unfold f_HSetter_inRanges at h
  have l0 : im_lk (lv_args 0 [.ref 15, .int p0]) 0 = some (.ref 15) := rfl
  have l1 : im_lk (lv_args 0 [.ref 15, .int p0]) 1 = some (.int p0) := rfl
  refine iq_iconst hS 1 J_HSetter_inRanges_d0 (v := 0) (by decide +kernel) rfl ?_
  refine iq_istore_n hS 2 J_HSetter_inRanges_d1 (by decide) rfl ?_
  obtain ⟨Q1, hQ1, hR1, h⟩ := bs0_ed h
  have K1 : ∀  (L' : List (Nat × Value)), Q1 (.inl ()) → ia (tb_G L xs) dep J_HSetter_inRanges (rpI M Q) (66, L', [], M) := by
    intro  L'  h
    replace h := hQ1  h
    refine iq_iconst hS 67 J_HSetter_inRanges_d66 (v := 1) (by decide +kernel) rfl ?_
    exact iq_iret J_HSetter_inRanges_d67 rfl rfl ⟨_, rfl, rfl, ed_some h⟩
  obtain ⟨r1, hr1, hq1⟩ := h
  obtain ⟨n1, hn1⟩ := lp_n hr1
  have I1 : ∀ (n : Nat) (x2 : Int32) (L' : List (Nat × Value)), im_lk L' 0 = some (.ref 15) → im_lk L' 1 = some (.int p0) → im_lk L' 2 = some (.int x2) → lpn (uc1 (f_HSetter_inRanges_L2 p0 M)) n x2 = some r1 → ia (tb_G L xs) dep J_HSetter_inRanges (rpI M Q) (2, L', [], M) := by
    intro n
    induction n with
    | zero => intro x2 L' l3 l4 l5 hn; exact (lpn_0 hn).elim
    | succ n ih =>
      intro x2 L' l3 l4 l5 hn
      have h := lpn_ed1 hn
      unfold f_HSetter_inRanges_L2 at h
      refine iq_iload_n hS 3 J_HSetter_inRanges_d2 l5 rfl ?_
      refine iq_getstatic hS 6 J_HSetter_inRanges_d3 gs_8_110 rfl ?_
      refine iq_iload_n hS 7 J_HSetter_inRanges_d6 l4 rfl ?_
      obtain ⟨g7, h⟩ := ed_gd h
      refine iq_xl_1 hS 8 J_HSetter_inRanges_d7 hM g7 rfl ?_
      refine iq_icmp_ge hS 11 J_HSetter_inRanges_d8 (t := 66) rfl (fun q8 => ?_) rfl (fun q8 => ?_)
      · replace h := ed_pos q8 h
        exact K1  _  (lq_r h hq1)
      · replace h := ed_neg q8 h
        refine iq_bipush hS 13 J_HSetter_inRanges_d11 (v := 12) (by decide +kernel) rfl ?_
        refine iq_iload_n hS 14 J_HSetter_inRanges_d13 l4 rfl ?_
        refine iq_imul hS 15 J_HSetter_inRanges_d14 rfl ?_
        refine iq_iconst hS 16 J_HSetter_inRanges_d15 (v := 3) (by decide +kernel) rfl ?_
        refine iq_iload_n hS 17 J_HSetter_inRanges_d16 l5 rfl ?_
        refine iq_imul hS 18 J_HSetter_inRanges_d17 rfl ?_
        refine iq_iadd hS 19 J_HSetter_inRanges_d18 rfl ?_
        refine iq_istore_n hS 20 J_HSetter_inRanges_d19 (by decide) rfl ?_
        refine iq_aload_n hS 21 J_HSetter_inRanges_d20 (lk_1r l3 (by decide)) rfl ?_
        refine iq_getR hS 24 J_HSetter_inRanges_d21 lf_8_25 (Or.inl ⟨_, rfl⟩) (ka_15 hM) (ra_15_0 hM) rfl ?_
        refine iq_getR hS 27 J_HSetter_inRanges_d24 lf_8_131 (Or.inr ⟨_, rfl⟩) (ka_1 hM) (ra_1_9 hM) rfl ?_
        refine iq_iload_n hS 28 J_HSetter_inRanges_d27 (lk_1i l5 (by decide)) rfl ?_
        obtain ⟨g28, h⟩ := ed_gd h
        refine iq_iaload hS 29 J_HSetter_inRanges_d28 ⟨(ka_9 hM).1, (ka_9 hM).2, g28.1, ix_lt (kl_9 hM) g28.2⟩ rfl ?_
        refine iq_getstatic hS 32 J_HSetter_inRanges_d29 gs_8_134 rfl ?_
        refine iq_iload_n hS 33 J_HSetter_inRanges_d32 lk_1s rfl ?_
        refine iq_iconst hS 34 J_HSetter_inRanges_d33 (v := 1) (by decide +kernel) rfl ?_
        refine iq_iadd hS 35 J_HSetter_inRanges_d34 rfl ?_
        obtain ⟨g35, h⟩ := ed_gd h
        refine iq_xl_0 hS 36 J_HSetter_inRanges_d35 hM g35 rfl ?_
        refine iq_icmp_lt hS 39 J_HSetter_inRanges_d36 (t := 58) rfl (fun q36 => ?_) rfl (fun q36 => ?_)
        · replace h := ed_pos q36 h
          refine iq_iconst hS 59 J_HSetter_inRanges_d58 (v := 0) (by decide +kernel) rfl ?_
          exact iq_iret J_HSetter_inRanges_d59 rfl rfl ⟨_, rfl, rfl, ed_some (hR1 _ (lq_r h hq1))⟩
        · replace h := ed_neg q36 h
          refine iq_aload_n hS 40 J_HSetter_inRanges_d39 (lk_1r l3 (by decide)) rfl ?_
          refine iq_getR hS 43 J_HSetter_inRanges_d40 lf_8_25 (Or.inl ⟨_, rfl⟩) (ka_15 hM) (ra_15_0 hM) rfl ?_
          refine iq_getR hS 46 J_HSetter_inRanges_d43 lf_8_131 (Or.inr ⟨_, rfl⟩) (ka_1 hM) (ra_1_9 hM) rfl ?_
          refine iq_iload_n hS 47 J_HSetter_inRanges_d46 (lk_1i l5 (by decide)) rfl ?_
          obtain ⟨g47, h⟩ := ed_gd h
          refine iq_iaload hS 48 J_HSetter_inRanges_d47 ⟨(ka_9 hM).1, (ka_9 hM).2, g47.1, ix_lt (kl_9 hM) g47.2⟩ rfl ?_
          refine iq_getstatic hS 51 J_HSetter_inRanges_d48 gs_8_134 rfl ?_
          refine iq_iload_n hS 52 J_HSetter_inRanges_d51 lk_1s rfl ?_
          refine iq_iconst hS 53 J_HSetter_inRanges_d52 (v := 2) (by decide +kernel) rfl ?_
          refine iq_iadd hS 54 J_HSetter_inRanges_d53 rfl ?_
          obtain ⟨g54, h⟩ := ed_gd h
          refine iq_xl_0 hS 55 J_HSetter_inRanges_d54 hM g54 rfl ?_
          refine iq_icmp_le hS 58 J_HSetter_inRanges_d55 (t := 60) rfl (fun q55 => ?_) rfl (fun q55 => ?_)
          · replace h := ed_pos q55 h
            refine iq_iincv hS 63 J_HSetter_inRanges_d60 (c := 1) (by decide +kernel) (lk_1i l5 (by decide)) (by decide) rfl ?_
            refine iq_goto hS J_HSetter_inRanges_d63 (t := 2) rfl ?_
            exact ih _ _ (lk_1r (lk_1r l3 (by decide)) (by decide)) (lk_1i (lk_1i l4 (by decide)) (by decide)) lk_1s (lq_l h)
          · replace h := ed_neg q55 h
            refine iq_iconst hS 59 J_HSetter_inRanges_d58 (v := 0) (by decide +kernel) rfl ?_
            exact iq_iret J_HSetter_inRanges_d59 rfl rfl ⟨_, rfl, rfl, ed_some (hR1 _ (lq_r h hq1))⟩
  exact I1 n1 _ _ (lk_1r l0 (by decide)) (lk_1i l1 (by decide)) lk_1s hn1
noncomputable def f_HTape_hexValue (p0 : Int32) (M : im_M) : Option (Int32) := jn0 (fun (_ : Unit) => jn0 (fun (_ : Unit) => if p0 < 97 then some (-1) else if 102 < p0 then some (-1) else some ((p0 - 97) + 10)) fun k3 => if p0 < 65 then k3 () else if 70 < p0 then k3 () else some ((p0 - 65) + 10)) fun k1 => if p0 < 48 then k1 () else if 57 < p0 then k1 () else some (p0 - 48)
theorem J_HTape_hexValue_d0 : decode J_HTape_hexValue.2.1 0 = .ok (.iload_n 0, 1) := by decide +kernel
theorem J_HTape_hexValue_d1 : decode J_HTape_hexValue.2.1 1 = .ok (.bipush 48, 2) := by decide +kernel
theorem J_HTape_hexValue_d3 : decode J_HTape_hexValue.2.1 3 = .ok (.if_icmp .lt 14, 3) := by decide +kernel
theorem J_HTape_hexValue_d6 : decode J_HTape_hexValue.2.1 6 = .ok (.iload_n 0, 1) := by decide +kernel
theorem J_HTape_hexValue_d7 : decode J_HTape_hexValue.2.1 7 = .ok (.bipush 57, 2) := by decide +kernel
theorem J_HTape_hexValue_d9 : decode J_HTape_hexValue.2.1 9 = .ok (.if_icmp .gt 8, 3) := by decide +kernel
theorem J_HTape_hexValue_d12 : decode J_HTape_hexValue.2.1 12 = .ok (.iload_n 0, 1) := by decide +kernel
theorem J_HTape_hexValue_d13 : decode J_HTape_hexValue.2.1 13 = .ok (.bipush 48, 2) := by decide +kernel
theorem J_HTape_hexValue_d15 : decode J_HTape_hexValue.2.1 15 = .ok (.isub, 1) := by decide +kernel
theorem J_HTape_hexValue_d16 : decode J_HTape_hexValue.2.1 16 = .ok (.ireturn, 1) := by decide +kernel
theorem J_HTape_hexValue_d17 : decode J_HTape_hexValue.2.1 17 = .ok (.iload_n 0, 1) := by decide +kernel
theorem J_HTape_hexValue_d18 : decode J_HTape_hexValue.2.1 18 = .ok (.bipush 65, 2) := by decide +kernel
theorem J_HTape_hexValue_d20 : decode J_HTape_hexValue.2.1 20 = .ok (.if_icmp .lt 17, 3) := by decide +kernel
theorem J_HTape_hexValue_d23 : decode J_HTape_hexValue.2.1 23 = .ok (.iload_n 0, 1) := by decide +kernel
theorem J_HTape_hexValue_d24 : decode J_HTape_hexValue.2.1 24 = .ok (.bipush 70, 2) := by decide +kernel
theorem J_HTape_hexValue_d26 : decode J_HTape_hexValue.2.1 26 = .ok (.if_icmp .gt 11, 3) := by decide +kernel
theorem J_HTape_hexValue_d29 : decode J_HTape_hexValue.2.1 29 = .ok (.iload_n 0, 1) := by decide +kernel
theorem J_HTape_hexValue_d30 : decode J_HTape_hexValue.2.1 30 = .ok (.bipush 65, 2) := by decide +kernel
theorem J_HTape_hexValue_d32 : decode J_HTape_hexValue.2.1 32 = .ok (.isub, 1) := by decide +kernel
theorem J_HTape_hexValue_d33 : decode J_HTape_hexValue.2.1 33 = .ok (.bipush 10, 2) := by decide +kernel
theorem J_HTape_hexValue_d35 : decode J_HTape_hexValue.2.1 35 = .ok (.iadd, 1) := by decide +kernel
theorem J_HTape_hexValue_d36 : decode J_HTape_hexValue.2.1 36 = .ok (.ireturn, 1) := by decide +kernel
theorem J_HTape_hexValue_d37 : decode J_HTape_hexValue.2.1 37 = .ok (.iload_n 0, 1) := by decide +kernel
theorem J_HTape_hexValue_d38 : decode J_HTape_hexValue.2.1 38 = .ok (.bipush 97, 2) := by decide +kernel
theorem J_HTape_hexValue_d40 : decode J_HTape_hexValue.2.1 40 = .ok (.if_icmp .lt 19, 3) := by decide +kernel
theorem J_HTape_hexValue_d43 : decode J_HTape_hexValue.2.1 43 = .ok (.iload_n 0, 1) := by decide +kernel
theorem J_HTape_hexValue_d44 : decode J_HTape_hexValue.2.1 44 = .ok (.bipush 102, 2) := by decide +kernel
theorem J_HTape_hexValue_d46 : decode J_HTape_hexValue.2.1 46 = .ok (.if_icmp .gt 13, 3) := by decide +kernel
theorem J_HTape_hexValue_d49 : decode J_HTape_hexValue.2.1 49 = .ok (.iload_n 0, 1) := by decide +kernel
theorem J_HTape_hexValue_d50 : decode J_HTape_hexValue.2.1 50 = .ok (.bipush 97, 2) := by decide +kernel
theorem J_HTape_hexValue_d52 : decode J_HTape_hexValue.2.1 52 = .ok (.isub, 1) := by decide +kernel
theorem J_HTape_hexValue_d53 : decode J_HTape_hexValue.2.1 53 = .ok (.bipush 10, 2) := by decide +kernel
theorem J_HTape_hexValue_d55 : decode J_HTape_hexValue.2.1 55 = .ok (.iadd, 1) := by decide +kernel
theorem J_HTape_hexValue_d56 : decode J_HTape_hexValue.2.1 56 = .ok (.goto 4, 3) := by decide +kernel
theorem J_HTape_hexValue_d59 : decode J_HTape_hexValue.2.1 59 = .ok (.iconst (-1), 1) := by decide +kernel
theorem J_HTape_hexValue_d60 : decode J_HTape_hexValue.2.1 60 = .ok (.ireturn, 1) := by decide +kernel
theorem f_HTape_hexValue_ok {L : Nat} {xs : Nat → Int32} {dep : Nat} {w : Bool} {p0 : Int32} {M : im_M} {Q : Int32 → Prop} (hM : lw_S w M) (h : ed (f_HTape_hexValue p0 M) Q) : ia (tb_G L xs) dep J_HTape_hexValue (rpI M Q) (0, lv_args 0 [.int p0], [], M) := by
  have hS : im_St (tb_G L xs) dep J_HTape_hexValue (ia (tb_G L xs) dep J_HTape_hexValue (rpI M Q)) := ia_St
  unfold f_HTape_hexValue at h
  have l0 : im_lk (lv_args 0 [.int p0]) 0 = some (.int p0) := rfl
  refine iq_iload_n hS 1 J_HTape_hexValue_d0 l0 rfl ?_
  refine iq_bipush hS 3 J_HTape_hexValue_d1 (v := 48) (by decide +kernel) rfl ?_
  obtain ⟨k1, Q1, hQ1, hk1, h⟩ := jn0_ed h
  have J1 : ∀  (L' : List (Nat × Value)), im_lk L' 0 = some (.int p0) → Q1 () → ia (tb_G L xs) dep J_HTape_hexValue (rpI M Q) (17, L', [], M) := by
    intro  L' l2 h
    replace h := hQ1  h
    refine iq_iload_n hS 18 J_HTape_hexValue_d17 l2 rfl ?_
    refine iq_bipush hS 20 J_HTape_hexValue_d18 (v := 65) (by decide +kernel) rfl ?_
    obtain ⟨k3, Q3, hQ3, hk3, h⟩ := jn0_ed h
    have J3 : ∀  (L' : List (Nat × Value)), im_lk L' 0 = some (.int p0) → Q3 () → ia (tb_G L xs) dep J_HTape_hexValue (rpI M Q) (37, L', [], M) := by
      intro  L' l4 h
      replace h := hQ3  h
      refine iq_iload_n hS 38 J_HTape_hexValue_d37 l4 rfl ?_
      refine iq_bipush hS 40 J_HTape_hexValue_d38 (v := 97) (by decide +kernel) rfl ?_
      refine iq_icmp_lt hS 43 J_HTape_hexValue_d40 (t := 59) rfl (fun q40 => ?_) rfl (fun q40 => ?_)
      · replace h := ed_pos q40 h
        refine iq_iconst hS 60 J_HTape_hexValue_d59 (v := (-1)) (by decide +kernel) rfl ?_
        exact iq_iret J_HTape_hexValue_d60 rfl rfl ⟨_, rfl, rfl, ed_some h⟩
      · replace h := ed_neg q40 h
        refine iq_iload_n hS 44 J_HTape_hexValue_d43 l4 rfl ?_
        refine iq_bipush hS 46 J_HTape_hexValue_d44 (v := 102) (by decide +kernel) rfl ?_
        refine iq_icmp_gt hS 49 J_HTape_hexValue_d46 (t := 59) rfl (fun q46 => ?_) rfl (fun q46 => ?_)
        · replace h := ed_pos q46 h
          refine iq_iconst hS 60 J_HTape_hexValue_d59 (v := (-1)) (by decide +kernel) rfl ?_
          exact iq_iret J_HTape_hexValue_d60 rfl rfl ⟨_, rfl, rfl, ed_some h⟩
        · replace h := ed_neg q46 h
          refine iq_iload_n hS 50 J_HTape_hexValue_d49 l4 rfl ?_
          refine iq_bipush hS 52 J_HTape_hexValue_d50 (v := 97) (by decide +kernel) rfl ?_
          refine iq_isub hS 53 J_HTape_hexValue_d52 rfl ?_
          refine iq_bipush hS 55 J_HTape_hexValue_d53 (v := 10) (by decide +kernel) rfl ?_
          refine iq_iadd hS 56 J_HTape_hexValue_d55 rfl ?_
          refine iq_goto hS J_HTape_hexValue_d56 (t := 60) rfl ?_
          exact iq_iret J_HTape_hexValue_d60 rfl rfl ⟨_, rfl, rfl, ed_some h⟩
    refine iq_icmp_lt hS 23 J_HTape_hexValue_d20 (t := 37) rfl (fun q20 => ?_) rfl (fun q20 => ?_)
    · replace h := ed_pos q20 h
      exact J3  _ l2 (hk3  h)
    · replace h := ed_neg q20 h
      refine iq_iload_n hS 24 J_HTape_hexValue_d23 l2 rfl ?_
      refine iq_bipush hS 26 J_HTape_hexValue_d24 (v := 70) (by decide +kernel) rfl ?_
      refine iq_icmp_gt hS 29 J_HTape_hexValue_d26 (t := 37) rfl (fun q26 => ?_) rfl (fun q26 => ?_)
      · replace h := ed_pos q26 h
        exact J3  _ l2 (hk3  h)
      · replace h := ed_neg q26 h
        refine iq_iload_n hS 30 J_HTape_hexValue_d29 l2 rfl ?_
        refine iq_bipush hS 32 J_HTape_hexValue_d30 (v := 65) (by decide +kernel) rfl ?_
        refine iq_isub hS 33 J_HTape_hexValue_d32 rfl ?_
        refine iq_bipush hS 35 J_HTape_hexValue_d33 (v := 10) (by decide +kernel) rfl ?_
        refine iq_iadd hS 36 J_HTape_hexValue_d35 rfl ?_
        exact iq_iret J_HTape_hexValue_d36 rfl rfl ⟨_, rfl, rfl, ed_some h⟩
  refine iq_icmp_lt hS 6 J_HTape_hexValue_d3 (t := 17) rfl (fun q3 => ?_) rfl (fun q3 => ?_)
  · replace h := ed_pos q3 h
    exact J1  _ l0 (hk1  h)
  · replace h := ed_neg q3 h
    refine iq_iload_n hS 7 J_HTape_hexValue_d6 l0 rfl ?_
    refine iq_bipush hS 9 J_HTape_hexValue_d7 (v := 57) (by decide +kernel) rfl ?_
    refine iq_icmp_gt hS 12 J_HTape_hexValue_d9 (t := 17) rfl (fun q9 => ?_) rfl (fun q9 => ?_)
    · replace h := ed_pos q9 h
      exact J1  _ l0 (hk1  h)
    · replace h := ed_neg q9 h
      refine iq_iload_n hS 13 J_HTape_hexValue_d12 l0 rfl ?_
      refine iq_bipush hS 15 J_HTape_hexValue_d13 (v := 48) (by decide +kernel) rfl ?_
      refine iq_isub hS 16 J_HTape_hexValue_d15 rfl ?_
      exact iq_iret J_HTape_hexValue_d16 rfl rfl ⟨_, rfl, rfl, ed_some h⟩
noncomputable def f_HTape_takeHexPair (M : im_M) : Option (Int32 × im_M) := bd1 (f_HTape_next M) fun (x1 : Int32) => bd1 (f_HTape_hexValue x1 M) fun (x2 : Int32) => if ¬ x2 = (-1) then bd1 (f_HTape_pass M) fun (M3 : im_M) => bd1 (f_HTape_next M3) fun (x4 : Int32) => bd1 (f_HTape_hexValue x4 M3) fun (x5 : Int32) => if ¬ x5 = (-1) then bd1 (f_HTape_pass M3) fun (M6 : im_M) => some ((((16 : Int32) * x2) + x5), M6) else some ((-1), M3) else some ((-1), M)
theorem J_HTape_takeHexPair_d0 : decode J_HTape_takeHexPair.2.1 0 = .ok (.aload_n 0, 1) := by decide +kernel
theorem J_HTape_takeHexPair_d1 : decode J_HTape_takeHexPair.2.1 1 = .ok (.invokevirtual 47, 3) := by decide +kernel
theorem J_HTape_takeHexPair_d4 : decode J_HTape_takeHexPair.2.1 4 = .ok (.invokestatic 67, 3) := by decide +kernel
theorem J_HTape_takeHexPair_d7 : decode J_HTape_takeHexPair.2.1 7 = .ok (.istore_n 1, 1) := by decide +kernel
theorem J_HTape_takeHexPair_d8 : decode J_HTape_takeHexPair.2.1 8 = .ok (.iload_n 1, 1) := by decide +kernel
theorem J_HTape_takeHexPair_d9 : decode J_HTape_takeHexPair.2.1 9 = .ok (.iconst (-1), 1) := by decide +kernel
theorem J_HTape_takeHexPair_d10 : decode J_HTape_takeHexPair.2.1 10 = .ok (.if_icmp .ne 5, 3) := by decide +kernel
theorem J_HTape_takeHexPair_d13 : decode J_HTape_takeHexPair.2.1 13 = .ok (.iconst (-1), 1) := by decide +kernel
theorem J_HTape_takeHexPair_d14 : decode J_HTape_takeHexPair.2.1 14 = .ok (.ireturn, 1) := by decide +kernel
theorem J_HTape_takeHexPair_d15 : decode J_HTape_takeHexPair.2.1 15 = .ok (.aload_n 0, 1) := by decide +kernel
theorem J_HTape_takeHexPair_d16 : decode J_HTape_takeHexPair.2.1 16 = .ok (.invokevirtual 51, 3) := by decide +kernel
theorem J_HTape_takeHexPair_d19 : decode J_HTape_takeHexPair.2.1 19 = .ok (.aload_n 0, 1) := by decide +kernel
theorem J_HTape_takeHexPair_d20 : decode J_HTape_takeHexPair.2.1 20 = .ok (.invokevirtual 47, 3) := by decide +kernel
theorem J_HTape_takeHexPair_d23 : decode J_HTape_takeHexPair.2.1 23 = .ok (.invokestatic 67, 3) := by decide +kernel
theorem J_HTape_takeHexPair_d26 : decode J_HTape_takeHexPair.2.1 26 = .ok (.istore_n 2, 1) := by decide +kernel
theorem J_HTape_takeHexPair_d27 : decode J_HTape_takeHexPair.2.1 27 = .ok (.iload_n 2, 1) := by decide +kernel
theorem J_HTape_takeHexPair_d28 : decode J_HTape_takeHexPair.2.1 28 = .ok (.iconst (-1), 1) := by decide +kernel
theorem J_HTape_takeHexPair_d29 : decode J_HTape_takeHexPair.2.1 29 = .ok (.if_icmp .ne 5, 3) := by decide +kernel
theorem J_HTape_takeHexPair_d32 : decode J_HTape_takeHexPair.2.1 32 = .ok (.iconst (-1), 1) := by decide +kernel
theorem J_HTape_takeHexPair_d33 : decode J_HTape_takeHexPair.2.1 33 = .ok (.ireturn, 1) := by decide +kernel
theorem J_HTape_takeHexPair_d34 : decode J_HTape_takeHexPair.2.1 34 = .ok (.aload_n 0, 1) := by decide +kernel
theorem J_HTape_takeHexPair_d35 : decode J_HTape_takeHexPair.2.1 35 = .ok (.invokevirtual 51, 3) := by decide +kernel
theorem J_HTape_takeHexPair_d38 : decode J_HTape_takeHexPair.2.1 38 = .ok (.bipush 16, 2) := by decide +kernel
theorem J_HTape_takeHexPair_d40 : decode J_HTape_takeHexPair.2.1 40 = .ok (.iload_n 1, 1) := by decide +kernel
theorem J_HTape_takeHexPair_d41 : decode J_HTape_takeHexPair.2.1 41 = .ok (.imul, 1) := by decide +kernel
theorem J_HTape_takeHexPair_d42 : decode J_HTape_takeHexPair.2.1 42 = .ok (.iload_n 2, 1) := by decide +kernel
theorem J_HTape_takeHexPair_d43 : decode J_HTape_takeHexPair.2.1 43 = .ok (.iadd, 1) := by decide +kernel
theorem J_HTape_takeHexPair_d44 : decode J_HTape_takeHexPair.2.1 44 = .ok (.ireturn, 1) := by decide +kernel
theorem f_HTape_takeHexPair_ok {L : Nat} {xs : Nat → Int32} {dep : Nat} {w : Bool} {M : im_M} {Q : Int32 × im_M → Prop} (hM : lw_S w M) (h : ed (f_HTape_takeHexPair M) Q) : ia (tb_G L xs) (dep + 1) J_HTape_takeHexPair (rwI w Q) (0, lv_args 0 [.ref 1], [], M) := by
  have hS : im_St (tb_G L xs) (dep + 1) J_HTape_takeHexPair (ia (tb_G L xs) (dep + 1) J_HTape_takeHexPair (rwI w Q)) := ia_St
  unfold f_HTape_takeHexPair at h
  have l0 : im_lk (lv_args 0 [.ref 1]) 0 = some (.ref 1) := rfl
  refine iq_aload_n hS 1 J_HTape_takeHexPair_d0 l0 rfl ?_
  obtain ⟨Q1, hQ1, h⟩ := bd1_ed h
  refine iq_cpI hS 4 J_HTape_takeHexPair_d1 rfl (pr_inst (vs := []) lc_10_47 lT_17 rfl rfl (by decide) (by decide) rfl (Nat.le_of_ble_eq_true rfl) (Nat.le_of_ble_eq_true rfl) (fun _ => Or.inl (pr_b (ka_1 hM) (by decide) rfl))) (f_HTape_next_ok (dep := dep + 0) hM h) rfl ?_
  intro x1 h
  replace h := hQ1 _ h
  obtain ⟨Q2, hQ2, h⟩ := bd1_ed h
  refine iq_cpI hS 7 J_HTape_takeHexPair_d4 rfl (pr_stat (vs := [_]) lc_10_67 lT_40 rfl rfl (by decide) rfl (Nat.le_of_ble_eq_true rfl) (Nat.le_of_ble_eq_true rfl)) (f_HTape_hexValue_ok (dep := dep + 0) hM h) rfl ?_
  intro x2 h
  replace h := hQ2 _ h
  refine iq_istore_n hS 8 J_HTape_takeHexPair_d7 (by decide) rfl ?_
  refine iq_iload_n hS 9 J_HTape_takeHexPair_d8 lk_1s rfl ?_
  refine iq_iconst hS 10 J_HTape_takeHexPair_d9 (v := (-1)) (by decide +kernel) rfl ?_
  refine iq_icmp_ne hS 13 J_HTape_takeHexPair_d10 (t := 15) rfl (fun q10 => ?_) rfl (fun q10 => ?_)
  · replace h := ed_pos q10 h
    refine iq_aload_n hS 16 J_HTape_takeHexPair_d15 (lk_1r l0 (by decide)) rfl ?_
    obtain ⟨Q3, hQ3, h⟩ := bd1_ed h
    refine iq_cwV hS 19 J_HTape_takeHexPair_d16 rfl (pr_inst (vs := []) lc_10_51 lT_18 rfl rfl (by decide) (by decide) rfl (Nat.le_of_ble_eq_true rfl) (Nat.le_of_ble_eq_true rfl) (fun _ => Or.inl (pr_b (ka_1 hM) (by decide) rfl))) (f_HTape_pass_ok (dep := dep + 0) hM h) rfl ?_
    intro M3 hM3 h
    replace h := hQ3 _ h
    refine iq_aload_n hS 20 J_HTape_takeHexPair_d19 (lk_1r l0 (by decide)) rfl ?_
    obtain ⟨Q4, hQ4, h⟩ := bd1_ed h
    refine iq_cpI hS 23 J_HTape_takeHexPair_d20 rfl (pr_inst (vs := []) lc_10_47 lT_17 rfl rfl (by decide) (by decide) rfl (Nat.le_of_ble_eq_true rfl) (Nat.le_of_ble_eq_true rfl) (fun _ => Or.inl (pr_b (ka_1 hM3) (by decide) rfl))) (f_HTape_next_ok (dep := dep + 0) hM3 h) rfl ?_
    intro x4 h
    replace h := hQ4 _ h
    obtain ⟨Q5, hQ5, h⟩ := bd1_ed h
    refine iq_cpI hS 26 J_HTape_takeHexPair_d23 rfl (pr_stat (vs := [_]) lc_10_67 lT_40 rfl rfl (by decide) rfl (Nat.le_of_ble_eq_true rfl) (Nat.le_of_ble_eq_true rfl)) (f_HTape_hexValue_ok (dep := dep + 0) hM3 h) rfl ?_
    intro x5 h
    replace h := hQ5 _ h
    refine iq_istore_n hS 27 J_HTape_takeHexPair_d26 (by decide) rfl ?_
    refine iq_iload_n hS 28 J_HTape_takeHexPair_d27 lk_1s rfl ?_
    refine iq_iconst hS 29 J_HTape_takeHexPair_d28 (v := (-1)) (by decide +kernel) rfl ?_
    refine iq_icmp_ne hS 32 J_HTape_takeHexPair_d29 (t := 34) rfl (fun q29 => ?_) rfl (fun q29 => ?_)
    · replace h := ed_pos q29 h
      refine iq_aload_n hS 35 J_HTape_takeHexPair_d34 (lk_1r (lk_1r l0 (by decide)) (by decide)) rfl ?_
      obtain ⟨Q6, hQ6, h⟩ := bd1_ed h
      refine iq_cwV hS 38 J_HTape_takeHexPair_d35 rfl (pr_inst (vs := []) lc_10_51 lT_18 rfl rfl (by decide) (by decide) rfl (Nat.le_of_ble_eq_true rfl) (Nat.le_of_ble_eq_true rfl) (fun _ => Or.inl (pr_b (ka_1 hM3) (by decide) rfl))) (f_HTape_pass_ok (dep := dep + 0) hM3 h) rfl ?_
      intro M6 hM6 h
      replace h := hQ6 _ h
      refine iq_bipush hS 40 J_HTape_takeHexPair_d38 (v := 16) (by decide +kernel) rfl ?_
      refine iq_iload_n hS 41 J_HTape_takeHexPair_d40 (lk_1i lk_1s (by decide)) rfl ?_
      refine iq_imul hS 42 J_HTape_takeHexPair_d41 rfl ?_
      refine iq_iload_n hS 43 J_HTape_takeHexPair_d42 lk_1s rfl ?_
      refine iq_iadd hS 44 J_HTape_takeHexPair_d43 rfl ?_
      exact iq_iret J_HTape_takeHexPair_d44 rfl rfl ⟨_, rfl, hM6, ed_some h⟩
    · replace h := ed_neg q29 h
      refine iq_iconst hS 33 J_HTape_takeHexPair_d32 (v := (-1)) (by decide +kernel) rfl ?_
      exact iq_iret J_HTape_takeHexPair_d33 rfl rfl ⟨_, rfl, hM3, ed_some h⟩
  · replace h := ed_neg q10 h
    refine iq_iconst hS 14 J_HTape_takeHexPair_d13 (v := (-1)) (by decide +kernel) rfl ?_
    exact iq_iret J_HTape_takeHexPair_d14 rfl rfl ⟨_, rfl, hM, ed_some h⟩
theorem f_HTape_takeHexPair_fr {M : im_M} {r : Int32 × im_M} (h : f_HTape_takeHexPair M = some r) : fr 256 [] M r.2 := by
  replace h : ed (f_HTape_takeHexPair M) (fun x => x = r) := ⟨r, h, rfl⟩
  unfold f_HTape_takeHexPair at h
  obtain ⟨Q1, hQ1, h⟩ := bd1_ed h
  obtain ⟨x1, e1, h⟩ := h
  replace h := hQ1 _ h
  obtain ⟨Q2, hQ2, h⟩ := bd1_ed h
  obtain ⟨x2, e2, h⟩ := h
  replace h := hQ2 _ h
  by_cases q10 : ¬ x2 = (-1)
  · replace h := ed_pos q10 h
    obtain ⟨Q3, hQ3, h⟩ := bd1_ed h
    obtain ⟨M3, e3, h⟩ := h
    replace h := hQ3 _ h
    obtain ⟨Q4, hQ4, h⟩ := bd1_ed h
    obtain ⟨x4, e4, h⟩ := h
    replace h := hQ4 _ h
    obtain ⟨Q5, hQ5, h⟩ := bd1_ed h
    obtain ⟨x5, e5, h⟩ := h
    replace h := hQ5 _ h
    by_cases q29 : ¬ x5 = (-1)
    · replace h := ed_pos q29 h
      obtain ⟨Q6, hQ6, h⟩ := bd1_ed h
      obtain ⟨M6, e6, h⟩ := h
      replace h := hQ6 _ h
      exact fr_ret h (fr_tr (fr_mono (by decide) (by decide +kernel) (f_HTape_pass_fr e6)) (fr_tr (fr_mono (by decide) (by decide +kernel) (f_HTape_pass_fr e3)) fr_refl))
    · replace h := ed_neg q29 h
      exact fr_ret h (fr_tr (fr_mono (by decide) (by decide +kernel) (f_HTape_pass_fr e3)) fr_refl)
  · replace h := ed_neg q10 h
    exact fr_ret h fr_refl
noncomputable def f_HTape_takeData_L7 (x2 : Int32) (M3 : im_M) : Option ((Int32 × im_M) ⊕ ((im_M) ⊕ (Int32 × im_M))) := if 4096 < x2 then some (.inr (.inl M3)) else bd1 (f_HTape_next M3) fun (x4 : Int32) => if x4 = (-1) then some (.inr (.inr (1, M3))) else if ¬ x4 = 94 then bd1 (f_HTape_pass M3) fun (M5 : im_M) => bd2 (if ¬ x4 = 95 then some (x4, M5) else bd2 (f_HTape_takeHexPair M5) fun (x7 : Int32) (M7 : im_M) => some (x7, M7)) fun (y8 : Int32) (M9 : im_M) => if y8 = (-1) then some (.inr (.inr (0, M9))) else if ¬ (im_i M9 1 11) = 200 then gd (inb (im_i M9 1 11) 200) <| some (.inl ((x2 + 1), (im_setI (im_setI M9 10 (Int32.toNatClampNeg (im_i M9 1 11)) (vp_nar .byte ((Int32.toInt8 y8).toInt32))) 1 11 ((im_i (im_setI M9 10 (Int32.toNatClampNeg (im_i M9 1 11)) (vp_nar .byte ((Int32.toInt8 y8).toInt32))) 1 11) + 1)))) else some (.inr (.inr (0, M9))) else some (.inr (.inr (1, M3)))
noncomputable def f_HTape_takeData (M : im_M) : Option (Int32 × im_M) := bs1 (lp (uc2 (f_HTape_takeData_L7)) (0, (im_setI M 1 11 0))) (fun (M13 : im_M) => some (1, M13)) (fun t => some t)
theorem J_HTape_takeData_d0 : decode J_HTape_takeData.2.1 0 = .ok (.aload_n 0, 1) := by decide +kernel
theorem J_HTape_takeData_d1 : decode J_HTape_takeData.2.1 1 = .ok (.iconst 0, 1) := by decide +kernel
theorem J_HTape_takeData_d2 : decode J_HTape_takeData.2.1 2 = .ok (.putfield 61, 3) := by decide +kernel
theorem J_HTape_takeData_d5 : decode J_HTape_takeData.2.1 5 = .ok (.iconst 0, 1) := by decide +kernel
theorem J_HTape_takeData_d6 : decode J_HTape_takeData.2.1 6 = .ok (.istore_n 1, 1) := by decide +kernel
theorem J_HTape_takeData_d7 : decode J_HTape_takeData.2.1 7 = .ok (.iload_n 1, 1) := by decide +kernel
theorem J_HTape_takeData_d8 : decode J_HTape_takeData.2.1 8 = .ok (.sipush 4096, 3) := by decide +kernel
theorem J_HTape_takeData_d11 : decode J_HTape_takeData.2.1 11 = .ok (.if_icmp .gt 80, 3) := by decide +kernel
theorem J_HTape_takeData_d14 : decode J_HTape_takeData.2.1 14 = .ok (.aload_n 0, 1) := by decide +kernel
theorem J_HTape_takeData_d15 : decode J_HTape_takeData.2.1 15 = .ok (.invokevirtual 47, 3) := by decide +kernel
theorem J_HTape_takeData_d18 : decode J_HTape_takeData.2.1 18 = .ok (.istore_n 2, 1) := by decide +kernel
theorem J_HTape_takeData_d19 : decode J_HTape_takeData.2.1 19 = .ok (.iload_n 2, 1) := by decide +kernel
theorem J_HTape_takeData_d20 : decode J_HTape_takeData.2.1 20 = .ok (.iconst (-1), 1) := by decide +kernel
theorem J_HTape_takeData_d21 : decode J_HTape_takeData.2.1 21 = .ok (.if_icmp .eq 9, 3) := by decide +kernel
theorem J_HTape_takeData_d24 : decode J_HTape_takeData.2.1 24 = .ok (.iload_n 2, 1) := by decide +kernel
theorem J_HTape_takeData_d25 : decode J_HTape_takeData.2.1 25 = .ok (.bipush 94, 2) := by decide +kernel
theorem J_HTape_takeData_d27 : decode J_HTape_takeData.2.1 27 = .ok (.if_icmp .ne 5, 3) := by decide +kernel
theorem J_HTape_takeData_d30 : decode J_HTape_takeData.2.1 30 = .ok (.iconst 1, 1) := by decide +kernel
theorem J_HTape_takeData_d31 : decode J_HTape_takeData.2.1 31 = .ok (.ireturn, 1) := by decide +kernel
theorem J_HTape_takeData_d32 : decode J_HTape_takeData.2.1 32 = .ok (.aload_n 0, 1) := by decide +kernel
theorem J_HTape_takeData_d33 : decode J_HTape_takeData.2.1 33 = .ok (.invokevirtual 51, 3) := by decide +kernel
theorem J_HTape_takeData_d36 : decode J_HTape_takeData.2.1 36 = .ok (.iload_n 2, 1) := by decide +kernel
theorem J_HTape_takeData_d37 : decode J_HTape_takeData.2.1 37 = .ok (.bipush 95, 2) := by decide +kernel
theorem J_HTape_takeData_d39 : decode J_HTape_takeData.2.1 39 = .ok (.if_icmp .ne 8, 3) := by decide +kernel
theorem J_HTape_takeData_d42 : decode J_HTape_takeData.2.1 42 = .ok (.aload_n 0, 1) := by decide +kernel
theorem J_HTape_takeData_d43 : decode J_HTape_takeData.2.1 43 = .ok (.invokevirtual 64, 3) := by decide +kernel
theorem J_HTape_takeData_d46 : decode J_HTape_takeData.2.1 46 = .ok (.istore_n 2, 1) := by decide +kernel
theorem J_HTape_takeData_d47 : decode J_HTape_takeData.2.1 47 = .ok (.iload_n 2, 1) := by decide +kernel
theorem J_HTape_takeData_d48 : decode J_HTape_takeData.2.1 48 = .ok (.iconst (-1), 1) := by decide +kernel
theorem J_HTape_takeData_d49 : decode J_HTape_takeData.2.1 49 = .ok (.if_icmp .eq 13, 3) := by decide +kernel
theorem J_HTape_takeData_d52 : decode J_HTape_takeData.2.1 52 = .ok (.aload_n 0, 1) := by decide +kernel
theorem J_HTape_takeData_d53 : decode J_HTape_takeData.2.1 53 = .ok (.getfield 61, 3) := by decide +kernel
theorem J_HTape_takeData_d56 : decode J_HTape_takeData.2.1 56 = .ok (.sipush 200, 3) := by decide +kernel
theorem J_HTape_takeData_d59 : decode J_HTape_takeData.2.1 59 = .ok (.if_icmp .ne 5, 3) := by decide +kernel
theorem J_HTape_takeData_d62 : decode J_HTape_takeData.2.1 62 = .ok (.iconst 0, 1) := by decide +kernel
theorem J_HTape_takeData_d63 : decode J_HTape_takeData.2.1 63 = .ok (.ireturn, 1) := by decide +kernel
theorem J_HTape_takeData_d64 : decode J_HTape_takeData.2.1 64 = .ok (.aload_n 0, 1) := by decide +kernel
theorem J_HTape_takeData_d65 : decode J_HTape_takeData.2.1 65 = .ok (.getfield 37, 3) := by decide +kernel
theorem J_HTape_takeData_d68 : decode J_HTape_takeData.2.1 68 = .ok (.aload_n 0, 1) := by decide +kernel
theorem J_HTape_takeData_d69 : decode J_HTape_takeData.2.1 69 = .ok (.getfield 61, 3) := by decide +kernel
theorem J_HTape_takeData_d72 : decode J_HTape_takeData.2.1 72 = .ok (.iload_n 2, 1) := by decide +kernel
theorem J_HTape_takeData_d73 : decode J_HTape_takeData.2.1 73 = .ok (.i2b, 1) := by decide +kernel
theorem J_HTape_takeData_d74 : decode J_HTape_takeData.2.1 74 = .ok (.bastore, 1) := by decide +kernel
theorem J_HTape_takeData_d75 : decode J_HTape_takeData.2.1 75 = .ok (.aload_n 0, 1) := by decide +kernel
theorem J_HTape_takeData_d76 : decode J_HTape_takeData.2.1 76 = .ok (.dup, 1) := by decide +kernel
theorem J_HTape_takeData_d77 : decode J_HTape_takeData.2.1 77 = .ok (.getfield 61, 3) := by decide +kernel
theorem J_HTape_takeData_d80 : decode J_HTape_takeData.2.1 80 = .ok (.iconst 1, 1) := by decide +kernel
theorem J_HTape_takeData_d81 : decode J_HTape_takeData.2.1 81 = .ok (.iadd, 1) := by decide +kernel
theorem J_HTape_takeData_d82 : decode J_HTape_takeData.2.1 82 = .ok (.putfield 61, 3) := by decide +kernel
theorem J_HTape_takeData_d85 : decode J_HTape_takeData.2.1 85 = .ok (.iinc 1 1, 3) := by decide +kernel
theorem J_HTape_takeData_d88 : decode J_HTape_takeData.2.1 88 = .ok (.goto (-81), 3) := by decide +kernel
theorem J_HTape_takeData_d91 : decode J_HTape_takeData.2.1 91 = .ok (.iconst 1, 1) := by decide +kernel
theorem J_HTape_takeData_d92 : decode J_HTape_takeData.2.1 92 = .ok (.ireturn, 1) := by decide +kernel
theorem f_HTape_takeData_ok {L : Nat} {xs : Nat → Int32} {dep : Nat} {w : Bool} {M : im_M} {Q : Int32 × im_M → Prop} (hM : lw_S w M) (h : ed (f_HTape_takeData M) Q) : ia (tb_G L xs) (dep + 2) J_HTape_takeData (rwI w Q) (0, lv_args 0 [.ref 1], [], M) := by
  have hS : im_St (tb_G L xs) (dep + 2) J_HTape_takeData (ia (tb_G L xs) (dep + 2) J_HTape_takeData (rwI w Q)) := ia_St
  unfold f_HTape_takeData at h
  have l0 : im_lk (lv_args 0 [.ref 1]) 0 = some (.ref 1) := rfl
  refine iq_aload_n hS 1 J_HTape_takeData_d0 l0 rfl ?_
  refine iq_iconst hS 2 J_HTape_takeData_d1 (v := 0) (by decide +kernel) rfl ?_
  refine iq_putI hS 5 J_HTape_takeData_d2 lf_10_61 (Or.inl rfl) rfl (ka_1 hM) rfl ?_
  refine iq_iconst hS 6 J_HTape_takeData_d5 (v := 0) (by decide +kernel) rfl ?_
  refine iq_istore_n hS 7 J_HTape_takeData_d6 (by decide) rfl ?_
  obtain ⟨Q1, hQ1, hR1, h⟩ := bs1_ed h
  have K1 : ∀ (M2 : im_M) (L' : List (Nat × Value)), lw_S w M2 → Q1 (.inl M2) → ia (tb_G L xs) (dep + 2) J_HTape_takeData (rwI w Q) (91, L', [], M2) := by
    intro M2 L' hM2  h
    replace h := hQ1 _ h
    refine iq_iconst hS 92 J_HTape_takeData_d91 (v := 1) (by decide +kernel) rfl ?_
    exact iq_iret J_HTape_takeData_d92 rfl rfl ⟨_, rfl, hM2, ed_some h⟩
  obtain ⟨r1, hr1, hq1⟩ := h
  obtain ⟨n1, hn1⟩ := lp_n hr1
  have I1 : ∀ (n : Nat) (x3 : Int32) (M4 : im_M) (L' : List (Nat × Value)), lw_S w M4 → im_lk L' 0 = some (.ref 1) → im_lk L' 1 = some (.int x3) → lpn (uc2 (f_HTape_takeData_L7)) n (x3, M4) = some r1 → ia (tb_G L xs) (dep + 2) J_HTape_takeData (rwI w Q) (7, L', [], M4) := by
    intro n
    induction n with
    | zero => intro x3 M4 L' hM4 l5 l6 hn; exact (lpn_0 hn).elim
    | succ n ih =>
      intro x3 M4 L' hM4 l5 l6 hn
      have h := lpn_ed2 hn
      unfold f_HTape_takeData_L7 at h
      refine iq_iload_n hS 8 J_HTape_takeData_d7 l6 rfl ?_
      refine iq_sipush hS 11 J_HTape_takeData_d8 (v := 4096) (by decide +kernel) rfl ?_
      refine iq_icmp_gt hS 14 J_HTape_takeData_d11 (t := 91) rfl (fun q11 => ?_) rfl (fun q11 => ?_)
      · replace h := ed_pos q11 h
        exact K1 _ _ hM4  (lq_r h hq1)
      · replace h := ed_neg q11 h
        refine iq_aload_n hS 15 J_HTape_takeData_d14 l5 rfl ?_
        obtain ⟨Q7, hQ7, h⟩ := bd1_ed h
        refine iq_cpI hS 18 J_HTape_takeData_d15 rfl (pr_inst (vs := []) lc_10_47 lT_17 rfl rfl (by decide) (by decide) rfl (Nat.le_of_ble_eq_true rfl) (Nat.le_of_ble_eq_true rfl) (fun _ => Or.inl (pr_b (ka_1 hM4) (by decide) rfl))) (f_HTape_next_ok (dep := dep + 1) hM4 h) rfl ?_
        intro x7 h
        replace h := hQ7 _ h
        refine iq_istore_n hS 19 J_HTape_takeData_d18 (by decide) rfl ?_
        refine iq_iload_n hS 20 J_HTape_takeData_d19 lk_1s rfl ?_
        refine iq_iconst hS 21 J_HTape_takeData_d20 (v := (-1)) (by decide +kernel) rfl ?_
        refine iq_icmp_eq hS 24 J_HTape_takeData_d21 (t := 30) rfl (fun q21 => ?_) rfl (fun q21 => ?_)
        · replace h := ed_pos q21 h
          refine iq_iconst hS 31 J_HTape_takeData_d30 (v := 1) (by decide +kernel) rfl ?_
          exact iq_iret J_HTape_takeData_d31 rfl rfl ⟨_, rfl, hM4, ed_some (hR1 _ (lq_r h hq1))⟩
        · replace h := ed_neg q21 h
          refine iq_iload_n hS 25 J_HTape_takeData_d24 lk_1s rfl ?_
          refine iq_bipush hS 27 J_HTape_takeData_d25 (v := 94) (by decide +kernel) rfl ?_
          refine iq_icmp_ne hS 30 J_HTape_takeData_d27 (t := 32) rfl (fun q27 => ?_) rfl (fun q27 => ?_)
          · replace h := ed_pos q27 h
            refine iq_aload_n hS 33 J_HTape_takeData_d32 (lk_1r l5 (by decide)) rfl ?_
            obtain ⟨Q8, hQ8, h⟩ := bd1_ed h
            refine iq_cwV hS 36 J_HTape_takeData_d33 rfl (pr_inst (vs := []) lc_10_51 lT_18 rfl rfl (by decide) (by decide) rfl (Nat.le_of_ble_eq_true rfl) (Nat.le_of_ble_eq_true rfl) (fun _ => Or.inl (pr_b (ka_1 hM4) (by decide) rfl))) (f_HTape_pass_ok (dep := dep + 1) hM4 h) rfl ?_
            intro M8 hM8 h
            replace h := hQ8 _ h
            refine iq_iload_n hS 37 J_HTape_takeData_d36 lk_1s rfl ?_
            refine iq_bipush hS 39 J_HTape_takeData_d37 (v := 95) (by decide +kernel) rfl ?_
            obtain ⟨Q9, hQ9, h⟩ := bd2_ed h
            have J9 : ∀ (y11 : Int32) (M12 : im_M) (L' : List (Nat × Value)), lw_S w M12 → im_lk L' 0 = some (.ref 1) → im_lk L' 1 = some (.int x3) → im_lk L' 2 = some (.int y11) → Q9 (y11, M12) → ia (tb_G L xs) (dep + 2) J_HTape_takeData (rwI w Q) (47, L', [], M12) := by
              intro y11 M12 L' hM12 l13 l14 l15 h
              replace h := hQ9 _ _ h
              refine iq_iload_n hS 48 J_HTape_takeData_d47 l15 rfl ?_
              refine iq_iconst hS 49 J_HTape_takeData_d48 (v := (-1)) (by decide +kernel) rfl ?_
              refine iq_icmp_eq hS 52 J_HTape_takeData_d49 (t := 62) rfl (fun q49 => ?_) rfl (fun q49 => ?_)
              · replace h := ed_pos q49 h
                refine iq_iconst hS 63 J_HTape_takeData_d62 (v := 0) (by decide +kernel) rfl ?_
                exact iq_iret J_HTape_takeData_d63 rfl rfl ⟨_, rfl, hM12, ed_some (hR1 _ (lq_r h hq1))⟩
              · replace h := ed_neg q49 h
                refine iq_aload_n hS 53 J_HTape_takeData_d52 l13 rfl ?_
                refine iq_getI hS 56 J_HTape_takeData_d53 lf_10_61 (Or.inl rfl) (ka_1 hM12) rfl ?_
                refine iq_sipush hS 59 J_HTape_takeData_d56 (v := 200) (by decide +kernel) rfl ?_
                refine iq_icmp_ne hS 62 J_HTape_takeData_d59 (t := 64) rfl (fun q59 => ?_) rfl (fun q59 => ?_)
                · replace h := ed_pos q59 h
                  refine iq_aload_n hS 65 J_HTape_takeData_d64 l13 rfl ?_
                  refine iq_getR hS 68 J_HTape_takeData_d65 lf_10_37 (Or.inr ⟨_, rfl⟩) (ka_1 hM12) (ra_1_10 hM12) rfl ?_
                  refine iq_aload_n hS 69 J_HTape_takeData_d68 l13 rfl ?_
                  refine iq_getI hS 72 J_HTape_takeData_d69 lf_10_61 (Or.inl rfl) (ka_1 hM12) rfl ?_
                  refine iq_iload_n hS 73 J_HTape_takeData_d72 l15 rfl ?_
                  refine iq_i2b hS 74 J_HTape_takeData_d73 rfl ?_
                  obtain ⟨g74, h⟩ := ed_gd h
                  refine iq_bastore hS 75 J_HTape_takeData_d74 ⟨(ka_10 hM12).1, (ka_10 hM12).2, g74.1, ix_lt (kl_10 hM12) g74.2⟩ rfl ?_
                  refine iq_aload_n hS 76 J_HTape_takeData_d75 l13 rfl ?_
                  refine iq_dup hS 77 J_HTape_takeData_d76 rfl rfl ?_
                  refine iq_getI hS 80 J_HTape_takeData_d77 lf_10_61 (Or.inl rfl) (ka_1 (lw_sI hM12)) rfl ?_
                  refine iq_iconst hS 81 J_HTape_takeData_d80 (v := 1) (by decide +kernel) rfl ?_
                  refine iq_iadd hS 82 J_HTape_takeData_d81 rfl ?_
                  refine iq_putI hS 85 J_HTape_takeData_d82 lf_10_61 (Or.inl rfl) rfl (ka_1 (lw_sI hM12)) rfl ?_
                  refine iq_iincv hS 88 J_HTape_takeData_d85 (c := 1) (by decide +kernel) l14 (by decide) rfl ?_
                  refine iq_goto hS J_HTape_takeData_d88 (t := 7) rfl ?_
                  exact ih _ _ _ (lw_sI (lw_sI hM12)) (lk_1r l13 (by decide)) lk_1s (lq_l h)
                · replace h := ed_neg q59 h
                  refine iq_iconst hS 63 J_HTape_takeData_d62 (v := 0) (by decide +kernel) rfl ?_
                  exact iq_iret J_HTape_takeData_d63 rfl rfl ⟨_, rfl, hM12, ed_some (hR1 _ (lq_r h hq1))⟩
            refine iq_icmp_ne hS 42 J_HTape_takeData_d39 (t := 47) rfl (fun q39 => ?_) rfl (fun q39 => ?_)
            · replace h := ed_pos q39 h
              exact J9 _ _ _ hM8 (lk_1r l5 (by decide)) (lk_1i l6 (by decide)) lk_1s (ed_some h)
            · replace h := ed_neg q39 h
              refine iq_aload_n hS 43 J_HTape_takeData_d42 (lk_1r l5 (by decide)) rfl ?_
              obtain ⟨Q10, hQ10, h⟩ := bd2_ed h
              refine iq_cwI hS 46 J_HTape_takeData_d43 rfl (pr_inst (vs := []) lc_10_64 lT_39 rfl rfl (by decide) (by decide) rfl (Nat.le_of_ble_eq_true rfl) (Nat.le_of_ble_eq_true rfl) (fun _ => Or.inl (pr_b (ka_1 hM8) (by decide) rfl))) (f_HTape_takeHexPair_ok (dep := dep + 0) hM8 h) rfl ?_
              intro x10 M10 hM10 h
              replace h := hQ10 _ _ h
              refine iq_istore_n hS 47 J_HTape_takeData_d46 (by decide) rfl ?_
              exact J9 _ _ _ hM10 (lk_1r (lk_1r l5 (by decide)) (by decide)) (lk_1i (lk_1i l6 (by decide)) (by decide)) lk_1s (ed_some h)
          · replace h := ed_neg q27 h
            refine iq_iconst hS 31 J_HTape_takeData_d30 (v := 1) (by decide +kernel) rfl ?_
            exact iq_iret J_HTape_takeData_d31 rfl rfl ⟨_, rfl, hM4, ed_some (hR1 _ (lq_r h hq1))⟩
  exact I1 n1 _ _ _ (lw_sI hM) (lk_1r l0 (by decide)) lk_1s hn1
theorem f_HTape_takeData_fr {M : im_M} {r : Int32 × im_M} (h : f_HTape_takeData M = some r) : fr 1280 [(1, 11)] M r.2 := by
  replace h : ed (f_HTape_takeData M) (fun x => x = r) := ⟨r, h, rfl⟩
  unfold f_HTape_takeData at h
  obtain ⟨Q1, hQ1, hR1, h⟩ := bs1_ed h
  have K1 : ∀ (M2 : im_M), fr 1280 [(1, 11)] M M2 → Q1 (.inl M2) → fr 1280 [(1, 11)] M r.2 := by
    intro M2 hM2 h
    replace h := hQ1 _ h
    exact fr_ret h hM2
  obtain ⟨r1, hr1, hq1⟩ := h
  obtain ⟨n1, hn1⟩ := lp_n hr1
  have I1 : ∀ (n : Nat) (x3 : Int32) (M4 : im_M), fr 1280 [(1, 11)] M M4 → lpn (uc2 (f_HTape_takeData_L7)) n (x3, M4) = some r1 → fr 1280 [(1, 11)] M r.2 := by
    intro n
    induction n with
    | zero => intro x3 M4 hM4 hn; exact (lpn_0 hn).elim
    | succ n ih =>
      intro x3 M4 hM4 hn
      have h := lpn_ed2 hn
      unfold f_HTape_takeData_L7 at h
      by_cases q11 : 4096 < x3
      · replace h := ed_pos q11 h
        exact K1 _ hM4 (lq_r h hq1)
      · replace h := ed_neg q11 h
        obtain ⟨Q5, hQ5, h⟩ := bd1_ed h
        obtain ⟨x5, e5, h⟩ := h
        replace h := hQ5 _ h
        by_cases q21 : x5 = (-1)
        · replace h := ed_pos q21 h
          exact fr_ret (hR1 _ (lq_r h hq1)) hM4
        · replace h := ed_neg q21 h
          by_cases q27 : ¬ x5 = 94
          · replace h := ed_pos q27 h
            obtain ⟨Q6, hQ6, h⟩ := bd1_ed h
            obtain ⟨M6, e6, h⟩ := h
            replace h := hQ6 _ h
            obtain ⟨Q7, hQ7, h⟩ := bd2_ed h
            have J7 : ∀ (y9 : Int32) (M10 : im_M), fr 1280 [(1, 11)] M M10 → Q7 (y9, M10) → fr 1280 [(1, 11)] M r.2 := by
              intro y9 M10 hM10 h
              replace h := hQ7 _ _ h
              by_cases q49 : y9 = (-1)
              · replace h := ed_pos q49 h
                exact fr_ret (hR1 _ (lq_r h hq1)) hM10
              · replace h := ed_neg q49 h
                by_cases q59 : ¬ (im_i M10 1 11) = 200
                · replace h := ed_pos q59 h
                  obtain ⟨g74, h⟩ := ed_gd h
                  exact ih _ _ (fr_F (by decide) (fr_I (by decide) hM10)) (lq_l h)
                · replace h := ed_neg q59 h
                  exact fr_ret (hR1 _ (lq_r h hq1)) hM10
            by_cases q39 : ¬ x5 = 95
            · replace h := ed_pos q39 h
              exact J7 _ _ (fr_tr (fr_mono (by decide) (by decide +kernel) (f_HTape_pass_fr e6)) hM4) (ed_some h)
            · replace h := ed_neg q39 h
              obtain ⟨Q8, hQ8, h⟩ := bd2_ed h
              obtain ⟨⟨x8, M8⟩, e8, h⟩ := h
              replace h := hQ8 _ _ h
              exact J7 _ _ (fr_tr (fr_mono (by decide) (by decide +kernel) (f_HTape_takeHexPair_fr e8)) (fr_tr (fr_mono (by decide) (by decide +kernel) (f_HTape_pass_fr e6)) hM4)) (ed_some h)
          · replace h := ed_neg q27 h
            exact fr_ret (hR1 _ (lq_r h hq1)) hM4
  exact I1 n1 _ _ (fr_F (by decide) fr_refl) hn1
noncomputable def f_HTape_endOfForm_L7 (M3 : im_M) (x2 : Int32) : Option ((Int32) ⊕ ((Unit) ⊕ (Int32))) := if (im_i M3 1 1) ≤ (x2 + 1) then some (.inr (.inl ())) else gd (inb x2 4096) <| jn0 (fun (_ : Unit) => some (.inl (x2 + 1))) fun k4 => if ¬ (im_i M3 2 (Int32.toNatClampNeg x2)) = 94 then k4 () else gd (inb (x2 + 1) 4096) <| if ¬ (im_i M3 2 (Int32.toNatClampNeg (x2 + 1))) = 90 then k4 () else gd (inb 0 5) <| if (x2 - (im_i M3 8 (Int32.toNatClampNeg 0))) ≤ 400 then some (.inr (.inr x2)) else some (.inr (.inr (-1)))
noncomputable def f_HTape_endOfForm (M : im_M) : Option (Int32) := gd (inb 0 5) <| bs0 (lp (uc1 (f_HTape_endOfForm_L7 M)) (im_i M 8 (Int32.toNatClampNeg 0))) (fun (_ : Unit) => some (-1)) (fun t => some t)
theorem J_HTape_endOfForm_d0 : decode J_HTape_endOfForm.2.1 0 = .ok (.aload_n 0, 1) := by decide +kernel
theorem J_HTape_endOfForm_d1 : decode J_HTape_endOfForm.2.1 1 = .ok (.getfield 31, 3) := by decide +kernel
theorem J_HTape_endOfForm_d4 : decode J_HTape_endOfForm.2.1 4 = .ok (.iconst 0, 1) := by decide +kernel
theorem J_HTape_endOfForm_d5 : decode J_HTape_endOfForm.2.1 5 = .ok (.iaload, 1) := by decide +kernel
theorem J_HTape_endOfForm_d6 : decode J_HTape_endOfForm.2.1 6 = .ok (.istore_n 1, 1) := by decide +kernel
theorem J_HTape_endOfForm_d7 : decode J_HTape_endOfForm.2.1 7 = .ok (.iload_n 1, 1) := by decide +kernel
theorem J_HTape_endOfForm_d8 : decode J_HTape_endOfForm.2.1 8 = .ok (.iconst 1, 1) := by decide +kernel
theorem J_HTape_endOfForm_d9 : decode J_HTape_endOfForm.2.1 9 = .ok (.iadd, 1) := by decide +kernel
theorem J_HTape_endOfForm_d10 : decode J_HTape_endOfForm.2.1 10 = .ok (.aload_n 0, 1) := by decide +kernel
theorem J_HTape_endOfForm_d11 : decode J_HTape_endOfForm.2.1 11 = .ok (.getfield 40, 3) := by decide +kernel
theorem J_HTape_endOfForm_d14 : decode J_HTape_endOfForm.2.1 14 = .ok (.if_icmp .ge 53, 3) := by decide +kernel
theorem J_HTape_endOfForm_d17 : decode J_HTape_endOfForm.2.1 17 = .ok (.aload_n 0, 1) := by decide +kernel
theorem J_HTape_endOfForm_d18 : decode J_HTape_endOfForm.2.1 18 = .ok (.getfield 11, 3) := by decide +kernel
theorem J_HTape_endOfForm_d21 : decode J_HTape_endOfForm.2.1 21 = .ok (.iload_n 1, 1) := by decide +kernel
theorem J_HTape_endOfForm_d22 : decode J_HTape_endOfForm.2.1 22 = .ok (.baload, 1) := by decide +kernel
theorem J_HTape_endOfForm_d23 : decode J_HTape_endOfForm.2.1 23 = .ok (.bipush 94, 2) := by decide +kernel
theorem J_HTape_endOfForm_d25 : decode J_HTape_endOfForm.2.1 25 = .ok (.if_icmp .ne 36, 3) := by decide +kernel
theorem J_HTape_endOfForm_d28 : decode J_HTape_endOfForm.2.1 28 = .ok (.aload_n 0, 1) := by decide +kernel
theorem J_HTape_endOfForm_d29 : decode J_HTape_endOfForm.2.1 29 = .ok (.getfield 11, 3) := by decide +kernel
theorem J_HTape_endOfForm_d32 : decode J_HTape_endOfForm.2.1 32 = .ok (.iload_n 1, 1) := by decide +kernel
theorem J_HTape_endOfForm_d33 : decode J_HTape_endOfForm.2.1 33 = .ok (.iconst 1, 1) := by decide +kernel
theorem J_HTape_endOfForm_d34 : decode J_HTape_endOfForm.2.1 34 = .ok (.iadd, 1) := by decide +kernel
theorem J_HTape_endOfForm_d35 : decode J_HTape_endOfForm.2.1 35 = .ok (.baload, 1) := by decide +kernel
theorem J_HTape_endOfForm_d36 : decode J_HTape_endOfForm.2.1 36 = .ok (.bipush 90, 2) := by decide +kernel
theorem J_HTape_endOfForm_d38 : decode J_HTape_endOfForm.2.1 38 = .ok (.if_icmp .ne 23, 3) := by decide +kernel
theorem J_HTape_endOfForm_d41 : decode J_HTape_endOfForm.2.1 41 = .ok (.iload_n 1, 1) := by decide +kernel
theorem J_HTape_endOfForm_d42 : decode J_HTape_endOfForm.2.1 42 = .ok (.aload_n 0, 1) := by decide +kernel
theorem J_HTape_endOfForm_d43 : decode J_HTape_endOfForm.2.1 43 = .ok (.getfield 31, 3) := by decide +kernel
theorem J_HTape_endOfForm_d46 : decode J_HTape_endOfForm.2.1 46 = .ok (.iconst 0, 1) := by decide +kernel
theorem J_HTape_endOfForm_d47 : decode J_HTape_endOfForm.2.1 47 = .ok (.iaload, 1) := by decide +kernel
theorem J_HTape_endOfForm_d48 : decode J_HTape_endOfForm.2.1 48 = .ok (.isub, 1) := by decide +kernel
theorem J_HTape_endOfForm_d49 : decode J_HTape_endOfForm.2.1 49 = .ok (.sipush 400, 3) := by decide +kernel
theorem J_HTape_endOfForm_d52 : decode J_HTape_endOfForm.2.1 52 = .ok (.if_icmp .le 7, 3) := by decide +kernel
theorem J_HTape_endOfForm_d55 : decode J_HTape_endOfForm.2.1 55 = .ok (.iconst (-1), 1) := by decide +kernel
theorem J_HTape_endOfForm_d56 : decode J_HTape_endOfForm.2.1 56 = .ok (.goto 4, 3) := by decide +kernel
theorem J_HTape_endOfForm_d59 : decode J_HTape_endOfForm.2.1 59 = .ok (.iload_n 1, 1) := by decide +kernel
theorem J_HTape_endOfForm_d60 : decode J_HTape_endOfForm.2.1 60 = .ok (.ireturn, 1) := by decide +kernel
theorem J_HTape_endOfForm_d61 : decode J_HTape_endOfForm.2.1 61 = .ok (.iinc 1 1, 3) := by decide +kernel
theorem J_HTape_endOfForm_d64 : decode J_HTape_endOfForm.2.1 64 = .ok (.goto (-57), 3) := by decide +kernel
theorem J_HTape_endOfForm_d67 : decode J_HTape_endOfForm.2.1 67 = .ok (.iconst (-1), 1) := by decide +kernel
theorem J_HTape_endOfForm_d68 : decode J_HTape_endOfForm.2.1 68 = .ok (.ireturn, 1) := by decide +kernel
theorem f_HTape_endOfForm_ok {L : Nat} {xs : Nat → Int32} {dep : Nat} {w : Bool} {M : im_M} {Q : Int32 → Prop} (hM : lw_S w M) (h : ed (f_HTape_endOfForm M) Q) : ia (tb_G L xs) dep J_HTape_endOfForm (rpI M Q) (0, lv_args 0 [.ref 1], [], M) := by
  have hS : im_St (tb_G L xs) dep J_HTape_endOfForm (ia (tb_G L xs) dep J_HTape_endOfForm (rpI M Q)) := ia_St
  unfold f_HTape_endOfForm at h
  have l0 : im_lk (lv_args 0 [.ref 1]) 0 = some (.ref 1) := rfl
  refine iq_aload_n hS 1 J_HTape_endOfForm_d0 l0 rfl ?_
  refine iq_getR hS 4 J_HTape_endOfForm_d1 lf_10_31 (Or.inr ⟨_, rfl⟩) (ka_1 hM) (ra_1_8 hM) rfl ?_
  refine iq_iconst hS 5 J_HTape_endOfForm_d4 (v := 0) (by decide +kernel) rfl ?_
  obtain ⟨g5, h⟩ := ed_gd h
  refine iq_iaload hS 6 J_HTape_endOfForm_d5 ⟨(ka_8 hM).1, (ka_8 hM).2, g5.1, ix_lt (kl_8 hM) g5.2⟩ rfl ?_
  refine iq_istore_n hS 7 J_HTape_endOfForm_d6 (by decide) rfl ?_
  obtain ⟨Q1, hQ1, hR1, h⟩ := bs0_ed h
  have K1 : ∀  (L' : List (Nat × Value)), Q1 (.inl ()) → ia (tb_G L xs) dep J_HTape_endOfForm (rpI M Q) (67, L', [], M) := by
    intro  L'  h
    replace h := hQ1  h
    refine iq_iconst hS 68 J_HTape_endOfForm_d67 (v := (-1)) (by decide +kernel) rfl ?_
    exact iq_iret J_HTape_endOfForm_d68 rfl rfl ⟨_, rfl, rfl, ed_some h⟩
  obtain ⟨r1, hr1, hq1⟩ := h
  obtain ⟨n1, hn1⟩ := lp_n hr1
  have I1 : ∀ (n : Nat) (x2 : Int32) (L' : List (Nat × Value)), im_lk L' 0 = some (.ref 1) → im_lk L' 1 = some (.int x2) → lpn (uc1 (f_HTape_endOfForm_L7 M)) n x2 = some r1 → ia (tb_G L xs) dep J_HTape_endOfForm (rpI M Q) (7, L', [], M) := by
    intro n
    induction n with
    | zero => intro x2 L' l3 l4 hn; exact (lpn_0 hn).elim
    | succ n ih =>
      intro x2 L' l3 l4 hn
      have h := lpn_ed1 hn
      unfold f_HTape_endOfForm_L7 at h
      refine iq_iload_n hS 8 J_HTape_endOfForm_d7 l4 rfl ?_
      refine iq_iconst hS 9 J_HTape_endOfForm_d8 (v := 1) (by decide +kernel) rfl ?_
      refine iq_iadd hS 10 J_HTape_endOfForm_d9 rfl ?_
      refine iq_aload_n hS 11 J_HTape_endOfForm_d10 l3 rfl ?_
      refine iq_getI hS 14 J_HTape_endOfForm_d11 lf_10_40 (Or.inl rfl) (ka_1 hM) rfl ?_
      refine iq_icmp_ge hS 17 J_HTape_endOfForm_d14 (t := 67) rfl (fun q14 => ?_) rfl (fun q14 => ?_)
      · replace h := ed_pos q14 h
        exact K1  _  (lq_r h hq1)
      · replace h := ed_neg q14 h
        refine iq_aload_n hS 18 J_HTape_endOfForm_d17 l3 rfl ?_
        refine iq_getR hS 21 J_HTape_endOfForm_d18 lf_10_11 (Or.inr ⟨_, rfl⟩) (ka_1 hM) (ra_1_0 hM) rfl ?_
        refine iq_iload_n hS 22 J_HTape_endOfForm_d21 l4 rfl ?_
        obtain ⟨g22, h⟩ := ed_gd h
        refine iq_baload hS 23 J_HTape_endOfForm_d22 ⟨(ka_2 hM).1, (ka_2 hM).2, g22.1, ix_lt (kl_2 hM) g22.2⟩ rfl ?_
        refine iq_bipush hS 25 J_HTape_endOfForm_d23 (v := 94) (by decide +kernel) rfl ?_
        obtain ⟨k5, Q5, hQ5, hk5, h⟩ := jn0_ed h
        have J5 : ∀  (L' : List (Nat × Value)), im_lk L' 0 = some (.ref 1) → im_lk L' 1 = some (.int x2) → Q5 () → ia (tb_G L xs) dep J_HTape_endOfForm (rpI M Q) (61, L', [], M) := by
          intro  L' l6 l7 h
          replace h := hQ5  h
          refine iq_iincv hS 64 J_HTape_endOfForm_d61 (c := 1) (by decide +kernel) l7 (by decide) rfl ?_
          refine iq_goto hS J_HTape_endOfForm_d64 (t := 7) rfl ?_
          exact ih _ _ (lk_1r l6 (by decide)) lk_1s (lq_l h)
        refine iq_icmp_ne hS 28 J_HTape_endOfForm_d25 (t := 61) rfl (fun q25 => ?_) rfl (fun q25 => ?_)
        · replace h := ed_pos q25 h
          exact J5  _ l3 l4 (hk5  h)
        · replace h := ed_neg q25 h
          refine iq_aload_n hS 29 J_HTape_endOfForm_d28 l3 rfl ?_
          refine iq_getR hS 32 J_HTape_endOfForm_d29 lf_10_11 (Or.inr ⟨_, rfl⟩) (ka_1 hM) (ra_1_0 hM) rfl ?_
          refine iq_iload_n hS 33 J_HTape_endOfForm_d32 l4 rfl ?_
          refine iq_iconst hS 34 J_HTape_endOfForm_d33 (v := 1) (by decide +kernel) rfl ?_
          refine iq_iadd hS 35 J_HTape_endOfForm_d34 rfl ?_
          obtain ⟨g35, h⟩ := ed_gd h
          refine iq_baload hS 36 J_HTape_endOfForm_d35 ⟨(ka_2 hM).1, (ka_2 hM).2, g35.1, ix_lt (kl_2 hM) g35.2⟩ rfl ?_
          refine iq_bipush hS 38 J_HTape_endOfForm_d36 (v := 90) (by decide +kernel) rfl ?_
          refine iq_icmp_ne hS 41 J_HTape_endOfForm_d38 (t := 61) rfl (fun q38 => ?_) rfl (fun q38 => ?_)
          · replace h := ed_pos q38 h
            exact J5  _ l3 l4 (hk5  h)
          · replace h := ed_neg q38 h
            refine iq_iload_n hS 42 J_HTape_endOfForm_d41 l4 rfl ?_
            refine iq_aload_n hS 43 J_HTape_endOfForm_d42 l3 rfl ?_
            refine iq_getR hS 46 J_HTape_endOfForm_d43 lf_10_31 (Or.inr ⟨_, rfl⟩) (ka_1 hM) (ra_1_8 hM) rfl ?_
            refine iq_iconst hS 47 J_HTape_endOfForm_d46 (v := 0) (by decide +kernel) rfl ?_
            obtain ⟨g47, h⟩ := ed_gd h
            refine iq_iaload hS 48 J_HTape_endOfForm_d47 ⟨(ka_8 hM).1, (ka_8 hM).2, g47.1, ix_lt (kl_8 hM) g47.2⟩ rfl ?_
            refine iq_isub hS 49 J_HTape_endOfForm_d48 rfl ?_
            refine iq_sipush hS 52 J_HTape_endOfForm_d49 (v := 400) (by decide +kernel) rfl ?_
            refine iq_icmp_le hS 55 J_HTape_endOfForm_d52 (t := 59) rfl (fun q52 => ?_) rfl (fun q52 => ?_)
            · replace h := ed_pos q52 h
              refine iq_iload_n hS 60 J_HTape_endOfForm_d59 l4 rfl ?_
              exact iq_iret J_HTape_endOfForm_d60 rfl rfl ⟨_, rfl, rfl, ed_some (hR1 _ (lq_r h hq1))⟩
            · replace h := ed_neg q52 h
              refine iq_iconst hS 56 J_HTape_endOfForm_d55 (v := (-1)) (by decide +kernel) rfl ?_
              refine iq_goto hS J_HTape_endOfForm_d56 (t := 60) rfl ?_
              exact iq_iret J_HTape_endOfForm_d60 rfl rfl ⟨_, rfl, rfl, ed_some (hR1 _ (lq_r h hq1))⟩
  exact I1 n1 _ _ (lk_1r l0 (by decide)) lk_1s hn1
noncomputable def f_HField_endOfPiece_L2 (M3 : im_M) (x2 : Int32) : Option ((Int32) ⊕ ((Unit) ⊕ (Int32))) := if (im_i M3 23 8) ≤ x2 then some (.inr (.inl ())) else gd (inb x2 200) <| if ¬ (im_i M3 25 (Int32.toNatClampNeg x2)) = 10 then some (.inl (x2 + 1)) else some (.inr (.inr x2))
noncomputable def f_HField_endOfPiece (p0 : Int32) (M : im_M) : Option (Int32) := bs0 (lp (uc1 (f_HField_endOfPiece_L2 M)) p0) (fun (_ : Unit) => some (im_i M 23 8)) (fun t => some t)
theorem J_HField_endOfPiece_d0 : decode J_HField_endOfPiece.2.1 0 = .ok (.iload_n 1, 1) := by decide +kernel
theorem J_HField_endOfPiece_d1 : decode J_HField_endOfPiece.2.1 1 = .ok (.istore_n 2, 1) := by decide +kernel
theorem J_HField_endOfPiece_d2 : decode J_HField_endOfPiece.2.1 2 = .ok (.iload_n 2, 1) := by decide +kernel
theorem J_HField_endOfPiece_d3 : decode J_HField_endOfPiece.2.1 3 = .ok (.aload_n 0, 1) := by decide +kernel
theorem J_HField_endOfPiece_d4 : decode J_HField_endOfPiece.2.1 4 = .ok (.getfield 47, 3) := by decide +kernel
theorem J_HField_endOfPiece_d7 : decode J_HField_endOfPiece.2.1 7 = .ok (.if_icmp .ge 22, 3) := by decide +kernel
theorem J_HField_endOfPiece_d10 : decode J_HField_endOfPiece.2.1 10 = .ok (.aload_n 0, 1) := by decide +kernel
theorem J_HField_endOfPiece_d11 : decode J_HField_endOfPiece.2.1 11 = .ok (.getfield 17, 3) := by decide +kernel
theorem J_HField_endOfPiece_d14 : decode J_HField_endOfPiece.2.1 14 = .ok (.iload_n 2, 1) := by decide +kernel
theorem J_HField_endOfPiece_d15 : decode J_HField_endOfPiece.2.1 15 = .ok (.baload, 1) := by decide +kernel
theorem J_HField_endOfPiece_d16 : decode J_HField_endOfPiece.2.1 16 = .ok (.bipush 10, 2) := by decide +kernel
theorem J_HField_endOfPiece_d18 : decode J_HField_endOfPiece.2.1 18 = .ok (.if_icmp .ne 5, 3) := by decide +kernel
theorem J_HField_endOfPiece_d21 : decode J_HField_endOfPiece.2.1 21 = .ok (.iload_n 2, 1) := by decide +kernel
theorem J_HField_endOfPiece_d22 : decode J_HField_endOfPiece.2.1 22 = .ok (.ireturn, 1) := by decide +kernel
theorem J_HField_endOfPiece_d23 : decode J_HField_endOfPiece.2.1 23 = .ok (.iinc 2 1, 3) := by decide +kernel
theorem J_HField_endOfPiece_d26 : decode J_HField_endOfPiece.2.1 26 = .ok (.goto (-24), 3) := by decide +kernel
theorem J_HField_endOfPiece_d29 : decode J_HField_endOfPiece.2.1 29 = .ok (.aload_n 0, 1) := by decide +kernel
theorem J_HField_endOfPiece_d30 : decode J_HField_endOfPiece.2.1 30 = .ok (.getfield 47, 3) := by decide +kernel
theorem J_HField_endOfPiece_d33 : decode J_HField_endOfPiece.2.1 33 = .ok (.ireturn, 1) := by decide +kernel
theorem f_HField_endOfPiece_ok {L : Nat} {xs : Nat → Int32} {dep : Nat} {w : Bool} {p0 : Int32} {M : im_M} {Q : Int32 → Prop} (hM : lw_S w M) (h : ed (f_HField_endOfPiece p0 M) Q) : ia (tb_G L xs) dep J_HField_endOfPiece (rpI M Q) (0, lv_args 0 [.ref 23, .int p0], [], M) := by
  have hS : im_St (tb_G L xs) dep J_HField_endOfPiece (ia (tb_G L xs) dep J_HField_endOfPiece (rpI M Q)) := ia_St
  unfold f_HField_endOfPiece at h
  have l0 : im_lk (lv_args 0 [.ref 23, .int p0]) 0 = some (.ref 23) := rfl
  have l1 : im_lk (lv_args 0 [.ref 23, .int p0]) 1 = some (.int p0) := rfl
  refine iq_iload_n hS 1 J_HField_endOfPiece_d0 l1 rfl ?_
  refine iq_istore_n hS 2 J_HField_endOfPiece_d1 (by decide) rfl ?_
  obtain ⟨Q1, hQ1, hR1, h⟩ := bs0_ed h
  have K1 : ∀  (L' : List (Nat × Value)), im_lk L' 0 = some (.ref 23) → Q1 (.inl ()) → ia (tb_G L xs) dep J_HField_endOfPiece (rpI M Q) (29, L', [], M) := by
    intro  L' l2 h
    replace h := hQ1  h
    refine iq_aload_n hS 30 J_HField_endOfPiece_d29 l2 rfl ?_
    refine iq_getI hS 33 J_HField_endOfPiece_d30 lf_2_47 (Or.inl rfl) (ka_23 hM) rfl ?_
    exact iq_iret J_HField_endOfPiece_d33 rfl rfl ⟨_, rfl, rfl, ed_some h⟩
  obtain ⟨r1, hr1, hq1⟩ := h
  obtain ⟨n1, hn1⟩ := lp_n hr1
  have I1 : ∀ (n : Nat) (x3 : Int32) (L' : List (Nat × Value)), im_lk L' 0 = some (.ref 23) → im_lk L' 2 = some (.int x3) → lpn (uc1 (f_HField_endOfPiece_L2 M)) n x3 = some r1 → ia (tb_G L xs) dep J_HField_endOfPiece (rpI M Q) (2, L', [], M) := by
    intro n
    induction n with
    | zero => intro x3 L' l4 l5 hn; exact (lpn_0 hn).elim
    | succ n ih =>
      intro x3 L' l4 l5 hn
      have h := lpn_ed1 hn
      unfold f_HField_endOfPiece_L2 at h
      refine iq_iload_n hS 3 J_HField_endOfPiece_d2 l5 rfl ?_
      refine iq_aload_n hS 4 J_HField_endOfPiece_d3 l4 rfl ?_
      refine iq_getI hS 7 J_HField_endOfPiece_d4 lf_2_47 (Or.inl rfl) (ka_23 hM) rfl ?_
      refine iq_icmp_ge hS 10 J_HField_endOfPiece_d7 (t := 29) rfl (fun q7 => ?_) rfl (fun q7 => ?_)
      · replace h := ed_pos q7 h
        exact K1  _ l4 (lq_r h hq1)
      · replace h := ed_neg q7 h
        refine iq_aload_n hS 11 J_HField_endOfPiece_d10 l4 rfl ?_
        refine iq_getR hS 14 J_HField_endOfPiece_d11 lf_2_17 (Or.inr ⟨_, rfl⟩) (ka_23 hM) (ra_23_7 hM) rfl ?_
        refine iq_iload_n hS 15 J_HField_endOfPiece_d14 l5 rfl ?_
        obtain ⟨g15, h⟩ := ed_gd h
        refine iq_baload hS 16 J_HField_endOfPiece_d15 ⟨(ka_25 hM).1, (ka_25 hM).2, g15.1, ix_lt (kl_25 hM) g15.2⟩ rfl ?_
        refine iq_bipush hS 18 J_HField_endOfPiece_d16 (v := 10) (by decide +kernel) rfl ?_
        refine iq_icmp_ne hS 21 J_HField_endOfPiece_d18 (t := 23) rfl (fun q18 => ?_) rfl (fun q18 => ?_)
        · replace h := ed_pos q18 h
          refine iq_iincv hS 26 J_HField_endOfPiece_d23 (c := 1) (by decide +kernel) l5 (by decide) rfl ?_
          refine iq_goto hS J_HField_endOfPiece_d26 (t := 2) rfl ?_
          exact ih _ _ (lk_1r l4 (by decide)) lk_1s (lq_l h)
        · replace h := ed_neg q18 h
          refine iq_iload_n hS 22 J_HField_endOfPiece_d21 l5 rfl ?_
          exact iq_iret J_HField_endOfPiece_d22 rfl rfl ⟨_, rfl, rfl, ed_some (hR1 _ (lq_r h hq1))⟩
  exact I1 n1 _ _ (lk_1r l0 (by decide)) lk_1s hn1
noncomputable def f_HField_lastBlank_L2 (v2 : Int32) (M4 : im_M) (x3 : Int32) : Option ((Int32) ⊕ ((Unit) ⊕ (Int32))) := if x3 < v2 then some (.inr (.inl ())) else gd (inb x3 200) <| if ¬ (im_i M4 25 (Int32.toNatClampNeg x3)) = 32 then some (.inl (x3 + (-1))) else some (.inr (.inr x3))
noncomputable def f_HField_lastBlank (p0 : Int32) (p1 : Int32) (M : im_M) : Option (Int32) := bs0 (lp (uc1 (f_HField_lastBlank_L2 p0 M)) p1) (fun (_ : Unit) => some (-1)) (fun t => some t)
theorem J_HField_lastBlank_d0 : decode J_HField_lastBlank.2.1 0 = .ok (.iload_n 2, 1) := by decide +kernel
theorem J_HField_lastBlank_d1 : decode J_HField_lastBlank.2.1 1 = .ok (.istore_n 3, 1) := by decide +kernel
theorem J_HField_lastBlank_d2 : decode J_HField_lastBlank.2.1 2 = .ok (.iload_n 3, 1) := by decide +kernel
theorem J_HField_lastBlank_d3 : decode J_HField_lastBlank.2.1 3 = .ok (.iload_n 1, 1) := by decide +kernel
theorem J_HField_lastBlank_d4 : decode J_HField_lastBlank.2.1 4 = .ok (.if_icmp .lt 22, 3) := by decide +kernel
theorem J_HField_lastBlank_d7 : decode J_HField_lastBlank.2.1 7 = .ok (.aload_n 0, 1) := by decide +kernel
theorem J_HField_lastBlank_d8 : decode J_HField_lastBlank.2.1 8 = .ok (.getfield 17, 3) := by decide +kernel
theorem J_HField_lastBlank_d11 : decode J_HField_lastBlank.2.1 11 = .ok (.iload_n 3, 1) := by decide +kernel
theorem J_HField_lastBlank_d12 : decode J_HField_lastBlank.2.1 12 = .ok (.baload, 1) := by decide +kernel
theorem J_HField_lastBlank_d13 : decode J_HField_lastBlank.2.1 13 = .ok (.bipush 32, 2) := by decide +kernel
theorem J_HField_lastBlank_d15 : decode J_HField_lastBlank.2.1 15 = .ok (.if_icmp .ne 5, 3) := by decide +kernel
theorem J_HField_lastBlank_d18 : decode J_HField_lastBlank.2.1 18 = .ok (.iload_n 3, 1) := by decide +kernel
theorem J_HField_lastBlank_d19 : decode J_HField_lastBlank.2.1 19 = .ok (.ireturn, 1) := by decide +kernel
theorem J_HField_lastBlank_d20 : decode J_HField_lastBlank.2.1 20 = .ok (.iinc 3 (-1), 3) := by decide +kernel
theorem J_HField_lastBlank_d23 : decode J_HField_lastBlank.2.1 23 = .ok (.goto (-21), 3) := by decide +kernel
theorem J_HField_lastBlank_d26 : decode J_HField_lastBlank.2.1 26 = .ok (.iconst (-1), 1) := by decide +kernel
theorem J_HField_lastBlank_d27 : decode J_HField_lastBlank.2.1 27 = .ok (.ireturn, 1) := by decide +kernel
theorem f_HField_lastBlank_ok {L : Nat} {xs : Nat → Int32} {dep : Nat} {w : Bool} {p0 : Int32} {p1 : Int32} {M : im_M} {Q : Int32 → Prop} (hM : lw_S w M) (h : ed (f_HField_lastBlank p0 p1 M) Q) : ia (tb_G L xs) dep J_HField_lastBlank (rpI M Q) (0, lv_args 0 [.ref 23, .int p0, .int p1], [], M) := by
  have hS : im_St (tb_G L xs) dep J_HField_lastBlank (ia (tb_G L xs) dep J_HField_lastBlank (rpI M Q)) := ia_St
  unfold f_HField_lastBlank at h
  have l0 : im_lk (lv_args 0 [.ref 23, .int p0, .int p1]) 0 = some (.ref 23) := rfl
  have l1 : im_lk (lv_args 0 [.ref 23, .int p0, .int p1]) 1 = some (.int p0) := rfl
  have l2 : im_lk (lv_args 0 [.ref 23, .int p0, .int p1]) 2 = some (.int p1) := rfl
  refine iq_iload_n hS 1 J_HField_lastBlank_d0 l2 rfl ?_
  refine iq_istore_n hS 2 J_HField_lastBlank_d1 (by decide) rfl ?_
  obtain ⟨Q1, hQ1, hR1, h⟩ := bs0_ed h
  have K1 : ∀  (L' : List (Nat × Value)), Q1 (.inl ()) → ia (tb_G L xs) dep J_HField_lastBlank (rpI M Q) (26, L', [], M) := by
    intro  L'  h
    replace h := hQ1  h
    refine iq_iconst hS 27 J_HField_lastBlank_d26 (v := (-1)) (by decide +kernel) rfl ?_
    exact iq_iret J_HField_lastBlank_d27 rfl rfl ⟨_, rfl, rfl, ed_some h⟩
  obtain ⟨r1, hr1, hq1⟩ := h
  obtain ⟨n1, hn1⟩ := lp_n hr1
  have I1 : ∀ (n : Nat) (x2 : Int32) (L' : List (Nat × Value)), im_lk L' 0 = some (.ref 23) → im_lk L' 1 = some (.int p0) → im_lk L' 3 = some (.int x2) → lpn (uc1 (f_HField_lastBlank_L2 p0 M)) n x2 = some r1 → ia (tb_G L xs) dep J_HField_lastBlank (rpI M Q) (2, L', [], M) := by
    intro n
    induction n with
    | zero => intro x2 L' l3 l4 l5 hn; exact (lpn_0 hn).elim
    | succ n ih =>
      intro x2 L' l3 l4 l5 hn
      have h := lpn_ed1 hn
      unfold f_HField_lastBlank_L2 at h
      refine iq_iload_n hS 3 J_HField_lastBlank_d2 l5 rfl ?_
      refine iq_iload_n hS 4 J_HField_lastBlank_d3 l4 rfl ?_
      refine iq_icmp_lt hS 7 J_HField_lastBlank_d4 (t := 26) rfl (fun q4 => ?_) rfl (fun q4 => ?_)
      · replace h := ed_pos q4 h
        exact K1  _  (lq_r h hq1)
      · replace h := ed_neg q4 h
        refine iq_aload_n hS 8 J_HField_lastBlank_d7 l3 rfl ?_
        refine iq_getR hS 11 J_HField_lastBlank_d8 lf_2_17 (Or.inr ⟨_, rfl⟩) (ka_23 hM) (ra_23_7 hM) rfl ?_
        refine iq_iload_n hS 12 J_HField_lastBlank_d11 l5 rfl ?_
        obtain ⟨g12, h⟩ := ed_gd h
        refine iq_baload hS 13 J_HField_lastBlank_d12 ⟨(ka_25 hM).1, (ka_25 hM).2, g12.1, ix_lt (kl_25 hM) g12.2⟩ rfl ?_
        refine iq_bipush hS 15 J_HField_lastBlank_d13 (v := 32) (by decide +kernel) rfl ?_
        refine iq_icmp_ne hS 18 J_HField_lastBlank_d15 (t := 20) rfl (fun q15 => ?_) rfl (fun q15 => ?_)
        · replace h := ed_pos q15 h
          refine iq_iincv hS 23 J_HField_lastBlank_d20 (c := (-1)) (by decide +kernel) l5 (by decide) rfl ?_
          refine iq_goto hS J_HField_lastBlank_d23 (t := 2) rfl ?_
          exact ih _ _ (lk_1r l3 (by decide)) (lk_1i l4 (by decide)) lk_1s (lq_l h)
        · replace h := ed_neg q15 h
          refine iq_iload_n hS 19 J_HField_lastBlank_d18 l5 rfl ?_
          exact iq_iret J_HField_lastBlank_d19 rfl rfl ⟨_, rfl, rfl, ed_some (hR1 _ (lq_r h hq1))⟩
  exact I1 n1 _ _ (lk_1r l0 (by decide)) (lk_1i l1 (by decide)) lk_1s hn1
noncomputable def f_HField_addLine (p0 : Int32) (p1 : Int32) (M : im_M) : Option (im_M) := bd1 (if 20 ≤ (im_i M 23 9) then some M else gd (inb (im_i M 23 9) 20) <| gd (inb (im_i (im_setI M 26 (Int32.toNatClampNeg (im_i M 23 9)) p0) 23 9) 20) <| some (im_setI (im_setI M 26 (Int32.toNatClampNeg (im_i M 23 9)) p0) 27 (Int32.toNatClampNeg (im_i (im_setI M 26 (Int32.toNatClampNeg (im_i M 23 9)) p0) 23 9)) p1)) fun (M2 : im_M) => some (im_setI M2 23 9 ((im_i M2 23 9) + 1))
theorem J_HField_addLine_d0 : decode J_HField_addLine.2.1 0 = .ok (.aload_n 0, 1) := by decide +kernel
theorem J_HField_addLine_d1 : decode J_HField_addLine.2.1 1 = .ok (.getfield 105, 3) := by decide +kernel
theorem J_HField_addLine_d4 : decode J_HField_addLine.2.1 4 = .ok (.bipush 20, 2) := by decide +kernel
theorem J_HField_addLine_d6 : decode J_HField_addLine.2.1 6 = .ok (.if_icmp .ge 23, 3) := by decide +kernel
theorem J_HField_addLine_d9 : decode J_HField_addLine.2.1 9 = .ok (.aload_n 0, 1) := by decide +kernel
theorem J_HField_addLine_d10 : decode J_HField_addLine.2.1 10 = .ok (.getfield 21, 3) := by decide +kernel
theorem J_HField_addLine_d13 : decode J_HField_addLine.2.1 13 = .ok (.aload_n 0, 1) := by decide +kernel
theorem J_HField_addLine_d14 : decode J_HField_addLine.2.1 14 = .ok (.getfield 105, 3) := by decide +kernel
theorem J_HField_addLine_d17 : decode J_HField_addLine.2.1 17 = .ok (.iload_n 1, 1) := by decide +kernel
theorem J_HField_addLine_d18 : decode J_HField_addLine.2.1 18 = .ok (.iastore, 1) := by decide +kernel
theorem J_HField_addLine_d19 : decode J_HField_addLine.2.1 19 = .ok (.aload_n 0, 1) := by decide +kernel
theorem J_HField_addLine_d20 : decode J_HField_addLine.2.1 20 = .ok (.getfield 24, 3) := by decide +kernel
theorem J_HField_addLine_d23 : decode J_HField_addLine.2.1 23 = .ok (.aload_n 0, 1) := by decide +kernel
theorem J_HField_addLine_d24 : decode J_HField_addLine.2.1 24 = .ok (.getfield 105, 3) := by decide +kernel
theorem J_HField_addLine_d27 : decode J_HField_addLine.2.1 27 = .ok (.iload_n 2, 1) := by decide +kernel
theorem J_HField_addLine_d28 : decode J_HField_addLine.2.1 28 = .ok (.iastore, 1) := by decide +kernel
theorem J_HField_addLine_d29 : decode J_HField_addLine.2.1 29 = .ok (.aload_n 0, 1) := by decide +kernel
theorem J_HField_addLine_d30 : decode J_HField_addLine.2.1 30 = .ok (.dup, 1) := by decide +kernel
theorem J_HField_addLine_d31 : decode J_HField_addLine.2.1 31 = .ok (.getfield 105, 3) := by decide +kernel
theorem J_HField_addLine_d34 : decode J_HField_addLine.2.1 34 = .ok (.iconst 1, 1) := by decide +kernel
theorem J_HField_addLine_d35 : decode J_HField_addLine.2.1 35 = .ok (.iadd, 1) := by decide +kernel
theorem J_HField_addLine_d36 : decode J_HField_addLine.2.1 36 = .ok (.putfield 105, 3) := by decide +kernel
theorem J_HField_addLine_d39 : decode J_HField_addLine.2.1 39 = .ok (.return_, 1) := by decide +kernel
theorem f_HField_addLine_ok {L : Nat} {xs : Nat → Int32} {dep : Nat} {w : Bool} {p0 : Int32} {p1 : Int32} {M : im_M} {Q : im_M → Prop} (hM : lw_S w M) (h : ed (f_HField_addLine p0 p1 M) Q) : ia (tb_G L xs) dep J_HField_addLine (rwV w Q) (0, lv_args 0 [.ref 23, .int p0, .int p1], [], M) := by
  have hS : im_St (tb_G L xs) dep J_HField_addLine (ia (tb_G L xs) dep J_HField_addLine (rwV w Q)) := ia_St
  unfold f_HField_addLine at h
  have l0 : im_lk (lv_args 0 [.ref 23, .int p0, .int p1]) 0 = some (.ref 23) := rfl
  have l1 : im_lk (lv_args 0 [.ref 23, .int p0, .int p1]) 1 = some (.int p0) := rfl
  have l2 : im_lk (lv_args 0 [.ref 23, .int p0, .int p1]) 2 = some (.int p1) := rfl
  refine iq_aload_n hS 1 J_HField_addLine_d0 l0 rfl ?_
  refine iq_getI hS 4 J_HField_addLine_d1 lf_2_105 (Or.inl rfl) (ka_23 hM) rfl ?_
  refine iq_bipush hS 6 J_HField_addLine_d4 (v := 20) (by decide +kernel) rfl ?_
  obtain ⟨Q1, hQ1, h⟩ := bd1_ed h
  have J1 : ∀ (M2 : im_M) (L' : List (Nat × Value)), lw_S w M2 → im_lk L' 0 = some (.ref 23) → Q1 M2 → ia (tb_G L xs) dep J_HField_addLine (rwV w Q) (29, L', [], M2) := by
    intro M2 L' hM2 l3 h
    replace h := hQ1 _ h
    refine iq_aload_n hS 30 J_HField_addLine_d29 l3 rfl ?_
    refine iq_dup hS 31 J_HField_addLine_d30 rfl rfl ?_
    refine iq_getI hS 34 J_HField_addLine_d31 lf_2_105 (Or.inl rfl) (ka_23 hM2) rfl ?_
    refine iq_iconst hS 35 J_HField_addLine_d34 (v := 1) (by decide +kernel) rfl ?_
    refine iq_iadd hS 36 J_HField_addLine_d35 rfl ?_
    refine iq_putI hS 39 J_HField_addLine_d36 lf_2_105 (Or.inl rfl) rfl (ka_23 hM2) rfl ?_
    exact iq_ret J_HField_addLine_d39 rfl ⟨rfl, (lw_sI hM2), ed_some h⟩
  refine iq_icmp_ge hS 9 J_HField_addLine_d6 (t := 29) rfl (fun q6 => ?_) rfl (fun q6 => ?_)
  · replace h := ed_pos q6 h
    exact J1 _ _ hM l0 (ed_some h)
  · replace h := ed_neg q6 h
    refine iq_aload_n hS 10 J_HField_addLine_d9 l0 rfl ?_
    refine iq_getR hS 13 J_HField_addLine_d10 lf_2_21 (Or.inr ⟨_, rfl⟩) (ka_23 hM) (ra_23_10 hM) rfl ?_
    refine iq_aload_n hS 14 J_HField_addLine_d13 l0 rfl ?_
    refine iq_getI hS 17 J_HField_addLine_d14 lf_2_105 (Or.inl rfl) (ka_23 hM) rfl ?_
    refine iq_iload_n hS 18 J_HField_addLine_d17 l1 rfl ?_
    obtain ⟨g18, h⟩ := ed_gd h
    refine iq_iastore hS 19 J_HField_addLine_d18 ⟨(ka_26 hM).1, (ka_26 hM).2, g18.1, ix_lt (kl_26 hM) g18.2⟩ rfl ?_
    refine iq_aload_n hS 20 J_HField_addLine_d19 l0 rfl ?_
    refine iq_getR hS 23 J_HField_addLine_d20 lf_2_24 (Or.inr ⟨_, rfl⟩) (ka_23 (lw_sI hM)) (ra_23_11 (lw_sI hM)) rfl ?_
    refine iq_aload_n hS 24 J_HField_addLine_d23 l0 rfl ?_
    refine iq_getI hS 27 J_HField_addLine_d24 lf_2_105 (Or.inl rfl) (ka_23 (lw_sI hM)) rfl ?_
    refine iq_iload_n hS 28 J_HField_addLine_d27 l2 rfl ?_
    obtain ⟨g28, h⟩ := ed_gd h
    refine iq_iastore hS 29 J_HField_addLine_d28 ⟨(ka_27 (lw_sI hM)).1, (ka_27 (lw_sI hM)).2, g28.1, ix_lt (kl_27 (lw_sI hM)) g28.2⟩ rfl ?_
    exact J1 _ _ (lw_sI (lw_sI hM)) l0 (ed_some h)
theorem f_HField_addLine_fr {p0 : Int32} {p1 : Int32} {M : im_M} {r : im_M} (h : f_HField_addLine p0 p1 M = some r) : fr 201326592 [(23, 9)] M r := by
  replace h : ed (f_HField_addLine p0 p1 M) (fun x => x = r) := ⟨r, h, rfl⟩
  unfold f_HField_addLine at h
  obtain ⟨Q1, hQ1, h⟩ := bd1_ed h
  have J1 : ∀ (M2 : im_M), fr 201326592 [(23, 9)] M M2 → Q1 M2 → fr 201326592 [(23, 9)] M r := by
    intro M2 hM2 h
    replace h := hQ1 _ h
    exact fr_retV h (fr_F (by decide) hM2)
  by_cases q6 : 20 ≤ (im_i M 23 9)
  · replace h := ed_pos q6 h
    exact J1 _ fr_refl (ed_some h)
  · replace h := ed_neg q6 h
    obtain ⟨g18, h⟩ := ed_gd h
    obtain ⟨g28, h⟩ := ed_gd h
    exact J1 _ (fr_I (by decide) (fr_I (by decide) fr_refl)) (ed_some h)
noncomputable def f_HField_cutLines_L9 (x2 : Int32) (x3 : Int32) (M4 : im_M) : Option ((Int32 × Int32 × im_M) ⊕ (im_M)) := if ¬ (im_i M4 23 2) = 8 then some (.inr M4) else if 200 < x3 then some (.inr M4) else if (im_i M4 23 8) < x2 then some (.inr M4) else bd1 (f_HField_endOfPiece x2 M4) fun (x5 : Int32) => gd (inb 0 4) <| bd2 (if (x5 - x2) ≤ (im_i M4 24 (Int32.toNatClampNeg 0)) then some (x5, (x5 + 1)) else gd (inb 0 4) <| bd1 (f_HField_lastBlank x2 (x2 + (im_i M4 24 (Int32.toNatClampNeg 0))) M4) fun (x7 : Int32) => bd1 (if ¬ x7 = (-1) then some x7 else gd (inb 0 4) <| some (x2 + (im_i M4 24 (Int32.toNatClampNeg 0)))) fun (y9 : Int32) => some (y9, ((if ¬ x7 = (-1) then (x7 + 1) else y9) : Int32))) fun (y15 : Int32) (y16 : Int32) => bd1 (f_HField_addLine x2 (y15 - x2) M4) fun (M22 : im_M) => some (.inl (y16, (x3 + 1), M22))
noncomputable def f_HField_cutLines (M : im_M) : Option (im_M) := bd1 (lp (uc3 (f_HField_cutLines_L9)) (0, 0, (im_setI M 23 9 0))) fun (M23 : im_M) => some M23
theorem J_HField_cutLines_d0 : decode J_HField_cutLines.2.1 0 = .ok (.aload_n 0, 1) := by decide +kernel
theorem J_HField_cutLines_d1 : decode J_HField_cutLines.2.1 1 = .ok (.iconst 0, 1) := by decide +kernel
theorem J_HField_cutLines_d2 : decode J_HField_cutLines.2.1 2 = .ok (.putfield 105, 3) := by decide +kernel
theorem J_HField_cutLines_d5 : decode J_HField_cutLines.2.1 5 = .ok (.iconst 0, 1) := by decide +kernel
theorem J_HField_cutLines_d6 : decode J_HField_cutLines.2.1 6 = .ok (.istore_n 1, 1) := by decide +kernel
theorem J_HField_cutLines_d7 : decode J_HField_cutLines.2.1 7 = .ok (.iconst 0, 1) := by decide +kernel
theorem J_HField_cutLines_d8 : decode J_HField_cutLines.2.1 8 = .ok (.istore_n 2, 1) := by decide +kernel
theorem J_HField_cutLines_d9 : decode J_HField_cutLines.2.1 9 = .ok (.aload_n 0, 1) := by decide +kernel
theorem J_HField_cutLines_d10 : decode J_HField_cutLines.2.1 10 = .ok (.getfield 34, 3) := by decide +kernel
theorem J_HField_cutLines_d13 : decode J_HField_cutLines.2.1 13 = .ok (.bipush 8, 2) := by decide +kernel
theorem J_HField_cutLines_d15 : decode J_HField_cutLines.2.1 15 = .ok (.if_icmp .ne 109, 3) := by decide +kernel
theorem J_HField_cutLines_d18 : decode J_HField_cutLines.2.1 18 = .ok (.iload_n 2, 1) := by decide +kernel
theorem J_HField_cutLines_d19 : decode J_HField_cutLines.2.1 19 = .ok (.sipush 200, 3) := by decide +kernel
theorem J_HField_cutLines_d22 : decode J_HField_cutLines.2.1 22 = .ok (.if_icmp .gt 102, 3) := by decide +kernel
theorem J_HField_cutLines_d25 : decode J_HField_cutLines.2.1 25 = .ok (.iload_n 1, 1) := by decide +kernel
theorem J_HField_cutLines_d26 : decode J_HField_cutLines.2.1 26 = .ok (.aload_n 0, 1) := by decide +kernel
theorem J_HField_cutLines_d27 : decode J_HField_cutLines.2.1 27 = .ok (.getfield 47, 3) := by decide +kernel
theorem J_HField_cutLines_d30 : decode J_HField_cutLines.2.1 30 = .ok (.if_icmp .gt 94, 3) := by decide +kernel
theorem J_HField_cutLines_d33 : decode J_HField_cutLines.2.1 33 = .ok (.aload_n 0, 1) := by decide +kernel
theorem J_HField_cutLines_d34 : decode J_HField_cutLines.2.1 34 = .ok (.iload_n 1, 1) := by decide +kernel
theorem J_HField_cutLines_d35 : decode J_HField_cutLines.2.1 35 = .ok (.invokevirtual 108, 3) := by decide +kernel
theorem J_HField_cutLines_d38 : decode J_HField_cutLines.2.1 38 = .ok (.istore_n 3, 1) := by decide +kernel
theorem J_HField_cutLines_d39 : decode J_HField_cutLines.2.1 39 = .ok (.iload_n 3, 1) := by decide +kernel
theorem J_HField_cutLines_d40 : decode J_HField_cutLines.2.1 40 = .ok (.iconst 1, 1) := by decide +kernel
theorem J_HField_cutLines_d41 : decode J_HField_cutLines.2.1 41 = .ok (.iadd, 1) := by decide +kernel
theorem J_HField_cutLines_d42 : decode J_HField_cutLines.2.1 42 = .ok (.istore 4, 2) := by decide +kernel
theorem J_HField_cutLines_d44 : decode J_HField_cutLines.2.1 44 = .ok (.iload_n 3, 1) := by decide +kernel
theorem J_HField_cutLines_d45 : decode J_HField_cutLines.2.1 45 = .ok (.iload_n 1, 1) := by decide +kernel
theorem J_HField_cutLines_d46 : decode J_HField_cutLines.2.1 46 = .ok (.isub, 1) := by decide +kernel
theorem J_HField_cutLines_d47 : decode J_HField_cutLines.2.1 47 = .ok (.aload_n 0, 1) := by decide +kernel
theorem J_HField_cutLines_d48 : decode J_HField_cutLines.2.1 48 = .ok (.getfield 9, 3) := by decide +kernel
theorem J_HField_cutLines_d51 : decode J_HField_cutLines.2.1 51 = .ok (.iconst 0, 1) := by decide +kernel
theorem J_HField_cutLines_d52 : decode J_HField_cutLines.2.1 52 = .ok (.iaload, 1) := by decide +kernel
theorem J_HField_cutLines_d53 : decode J_HField_cutLines.2.1 53 = .ok (.if_icmp .le 54, 3) := by decide +kernel
theorem J_HField_cutLines_d56 : decode J_HField_cutLines.2.1 56 = .ok (.aload_n 0, 1) := by decide +kernel
theorem J_HField_cutLines_d57 : decode J_HField_cutLines.2.1 57 = .ok (.iload_n 1, 1) := by decide +kernel
theorem J_HField_cutLines_d58 : decode J_HField_cutLines.2.1 58 = .ok (.iload_n 1, 1) := by decide +kernel
theorem J_HField_cutLines_d59 : decode J_HField_cutLines.2.1 59 = .ok (.aload_n 0, 1) := by decide +kernel
theorem J_HField_cutLines_d60 : decode J_HField_cutLines.2.1 60 = .ok (.getfield 9, 3) := by decide +kernel
theorem J_HField_cutLines_d63 : decode J_HField_cutLines.2.1 63 = .ok (.iconst 0, 1) := by decide +kernel
theorem J_HField_cutLines_d64 : decode J_HField_cutLines.2.1 64 = .ok (.iaload, 1) := by decide +kernel
theorem J_HField_cutLines_d65 : decode J_HField_cutLines.2.1 65 = .ok (.iadd, 1) := by decide +kernel
theorem J_HField_cutLines_d66 : decode J_HField_cutLines.2.1 66 = .ok (.invokevirtual 111, 3) := by decide +kernel
theorem J_HField_cutLines_d69 : decode J_HField_cutLines.2.1 69 = .ok (.istore 5, 2) := by decide +kernel
theorem J_HField_cutLines_d71 : decode J_HField_cutLines.2.1 71 = .ok (.iload 5, 2) := by decide +kernel
theorem J_HField_cutLines_d73 : decode J_HField_cutLines.2.1 73 = .ok (.iconst (-1), 1) := by decide +kernel
theorem J_HField_cutLines_d74 : decode J_HField_cutLines.2.1 74 = .ok (.if_icmp .ne 14, 3) := by decide +kernel
theorem J_HField_cutLines_d77 : decode J_HField_cutLines.2.1 77 = .ok (.iload_n 1, 1) := by decide +kernel
theorem J_HField_cutLines_d78 : decode J_HField_cutLines.2.1 78 = .ok (.aload_n 0, 1) := by decide +kernel
theorem J_HField_cutLines_d79 : decode J_HField_cutLines.2.1 79 = .ok (.getfield 9, 3) := by decide +kernel
theorem J_HField_cutLines_d82 : decode J_HField_cutLines.2.1 82 = .ok (.iconst 0, 1) := by decide +kernel
theorem J_HField_cutLines_d83 : decode J_HField_cutLines.2.1 83 = .ok (.iaload, 1) := by decide +kernel
theorem J_HField_cutLines_d84 : decode J_HField_cutLines.2.1 84 = .ok (.iadd, 1) := by decide +kernel
theorem J_HField_cutLines_d85 : decode J_HField_cutLines.2.1 85 = .ok (.goto 5, 3) := by decide +kernel
theorem J_HField_cutLines_d88 : decode J_HField_cutLines.2.1 88 = .ok (.iload 5, 2) := by decide +kernel
theorem J_HField_cutLines_d90 : decode J_HField_cutLines.2.1 90 = .ok (.istore_n 3, 1) := by decide +kernel
theorem J_HField_cutLines_d91 : decode J_HField_cutLines.2.1 91 = .ok (.iload 5, 2) := by decide +kernel
theorem J_HField_cutLines_d93 : decode J_HField_cutLines.2.1 93 = .ok (.iconst (-1), 1) := by decide +kernel
theorem J_HField_cutLines_d94 : decode J_HField_cutLines.2.1 94 = .ok (.if_icmp .ne 7, 3) := by decide +kernel
theorem J_HField_cutLines_d97 : decode J_HField_cutLines.2.1 97 = .ok (.iload_n 3, 1) := by decide +kernel
theorem J_HField_cutLines_d98 : decode J_HField_cutLines.2.1 98 = .ok (.goto 7, 3) := by decide +kernel
theorem J_HField_cutLines_d101 : decode J_HField_cutLines.2.1 101 = .ok (.iload 5, 2) := by decide +kernel
theorem J_HField_cutLines_d103 : decode J_HField_cutLines.2.1 103 = .ok (.iconst 1, 1) := by decide +kernel
theorem J_HField_cutLines_d104 : decode J_HField_cutLines.2.1 104 = .ok (.iadd, 1) := by decide +kernel
theorem J_HField_cutLines_d105 : decode J_HField_cutLines.2.1 105 = .ok (.istore 4, 2) := by decide +kernel
theorem J_HField_cutLines_d107 : decode J_HField_cutLines.2.1 107 = .ok (.aload_n 0, 1) := by decide +kernel
theorem J_HField_cutLines_d108 : decode J_HField_cutLines.2.1 108 = .ok (.iload_n 1, 1) := by decide +kernel
theorem J_HField_cutLines_d109 : decode J_HField_cutLines.2.1 109 = .ok (.iload_n 3, 1) := by decide +kernel
theorem J_HField_cutLines_d110 : decode J_HField_cutLines.2.1 110 = .ok (.iload_n 1, 1) := by decide +kernel
theorem J_HField_cutLines_d111 : decode J_HField_cutLines.2.1 111 = .ok (.isub, 1) := by decide +kernel
theorem J_HField_cutLines_d112 : decode J_HField_cutLines.2.1 112 = .ok (.invokevirtual 115, 3) := by decide +kernel
theorem J_HField_cutLines_d115 : decode J_HField_cutLines.2.1 115 = .ok (.iload 4, 2) := by decide +kernel
theorem J_HField_cutLines_d117 : decode J_HField_cutLines.2.1 117 = .ok (.istore_n 1, 1) := by decide +kernel
theorem J_HField_cutLines_d118 : decode J_HField_cutLines.2.1 118 = .ok (.iinc 2 1, 3) := by decide +kernel
theorem J_HField_cutLines_d121 : decode J_HField_cutLines.2.1 121 = .ok (.goto (-112), 3) := by decide +kernel
theorem J_HField_cutLines_d124 : decode J_HField_cutLines.2.1 124 = .ok (.return_, 1) := by decide +kernel
theorem f_HField_cutLines_ok {L : Nat} {xs : Nat → Int32} {dep : Nat} {w : Bool} {M : im_M} {Q : im_M → Prop} (hM : lw_S w M) (h : ed (f_HField_cutLines M) Q) : ia (tb_G L xs) (dep + 1) J_HField_cutLines (rwV w Q) (0, lv_args 0 [.ref 23], [], M) := by
  have hS : im_St (tb_G L xs) (dep + 1) J_HField_cutLines (ia (tb_G L xs) (dep + 1) J_HField_cutLines (rwV w Q)) := ia_St
  unfold f_HField_cutLines at h
  have l0 : im_lk (lv_args 0 [.ref 23]) 0 = some (.ref 23) := rfl
  refine iq_aload_n hS 1 J_HField_cutLines_d0 l0 rfl ?_
  refine iq_iconst hS 2 J_HField_cutLines_d1 (v := 0) (by decide +kernel) rfl ?_
  refine iq_putI hS 5 J_HField_cutLines_d2 lf_2_105 (Or.inl rfl) rfl (ka_23 hM) rfl ?_
  refine iq_iconst hS 6 J_HField_cutLines_d5 (v := 0) (by decide +kernel) rfl ?_
  refine iq_istore_n hS 7 J_HField_cutLines_d6 (by decide) rfl ?_
  refine iq_iconst hS 8 J_HField_cutLines_d7 (v := 0) (by decide +kernel) rfl ?_
  refine iq_istore_n hS 9 J_HField_cutLines_d8 (by decide) rfl ?_
  obtain ⟨Q1, hQ1, h⟩ := bd1_ed h
  have K1 : ∀ (M2 : im_M) (L' : List (Nat × Value)), lw_S w M2 → Q1 M2 → ia (tb_G L xs) (dep + 1) J_HField_cutLines (rwV w Q) (124, L', [], M2) := by
    intro M2 L' hM2  h
    replace h := hQ1 _ h
    exact iq_ret J_HField_cutLines_d124 rfl ⟨rfl, hM2, ed_some h⟩
  obtain ⟨r1, hr1, hq1⟩ := h
  obtain ⟨n1, hn1⟩ := lp_n hr1
  have I1 : ∀ (n : Nat) (x3 : Int32) (x4 : Int32) (M5 : im_M) (L' : List (Nat × Value)), lw_S w M5 → im_lk L' 0 = some (.ref 23) → im_lk L' 1 = some (.int x3) → im_lk L' 2 = some (.int x4) → lpn (uc3 (f_HField_cutLines_L9)) n (x3, x4, M5) = some r1 → ia (tb_G L xs) (dep + 1) J_HField_cutLines (rwV w Q) (9, L', [], M5) := by
    intro n
    induction n with
    | zero => intro x3 x4 M5 L' hM5 l6 l7 l8 hn; exact (lpn_0 hn).elim
    | succ n ih =>
      intro x3 x4 M5 L' hM5 l6 l7 l8 hn
      have h := lpn_ed3 hn
      unfold f_HField_cutLines_L9 at h
      refine iq_aload_n hS 10 J_HField_cutLines_d9 l6 rfl ?_
      refine iq_getI hS 13 J_HField_cutLines_d10 lf_2_34 (Or.inl rfl) (ka_23 hM5) rfl ?_
      refine iq_bipush hS 15 J_HField_cutLines_d13 (v := 8) (by decide +kernel) rfl ?_
      refine iq_icmp_ne hS 18 J_HField_cutLines_d15 (t := 124) rfl (fun q15 => ?_) rfl (fun q15 => ?_)
      · replace h := ed_pos q15 h
        exact K1 _ _ hM5  (lq_r h hq1)
      · replace h := ed_neg q15 h
        refine iq_iload_n hS 19 J_HField_cutLines_d18 l8 rfl ?_
        refine iq_sipush hS 22 J_HField_cutLines_d19 (v := 200) (by decide +kernel) rfl ?_
        refine iq_icmp_gt hS 25 J_HField_cutLines_d22 (t := 124) rfl (fun q22 => ?_) rfl (fun q22 => ?_)
        · replace h := ed_pos q22 h
          exact K1 _ _ hM5  (lq_r h hq1)
        · replace h := ed_neg q22 h
          refine iq_iload_n hS 26 J_HField_cutLines_d25 l7 rfl ?_
          refine iq_aload_n hS 27 J_HField_cutLines_d26 l6 rfl ?_
          refine iq_getI hS 30 J_HField_cutLines_d27 lf_2_47 (Or.inl rfl) (ka_23 hM5) rfl ?_
          refine iq_icmp_gt hS 33 J_HField_cutLines_d30 (t := 124) rfl (fun q30 => ?_) rfl (fun q30 => ?_)
          · replace h := ed_pos q30 h
            exact K1 _ _ hM5  (lq_r h hq1)
          · replace h := ed_neg q30 h
            refine iq_aload_n hS 34 J_HField_cutLines_d33 l6 rfl ?_
            refine iq_iload_n hS 35 J_HField_cutLines_d34 l7 rfl ?_
            obtain ⟨Q9, hQ9, h⟩ := bd1_ed h
            refine iq_cpI hS 38 J_HField_cutLines_d35 rfl (pr_inst (vs := [_]) lc_2_108 lT_44 rfl rfl (by decide) (by decide) rfl (Nat.le_of_ble_eq_true rfl) (Nat.le_of_ble_eq_true rfl) (fun _ => Or.inl (pr_b (ka_23 hM5) (by decide) rfl))) (f_HField_endOfPiece_ok (dep := dep + 0) hM5 h) rfl ?_
            intro x9 h
            replace h := hQ9 _ h
            refine iq_istore_n hS 39 J_HField_cutLines_d38 (by decide) rfl ?_
            refine iq_iload_n hS 40 J_HField_cutLines_d39 lk_1s rfl ?_
            refine iq_iconst hS 41 J_HField_cutLines_d40 (v := 1) (by decide +kernel) rfl ?_
            refine iq_iadd hS 42 J_HField_cutLines_d41 rfl ?_
            refine iq_istore hS 44 J_HField_cutLines_d42 (by decide) rfl ?_
            refine iq_iload_n hS 45 J_HField_cutLines_d44 (lk_1i lk_1s (by decide)) rfl ?_
            refine iq_iload_n hS 46 J_HField_cutLines_d45 (lk_1i (lk_1i l7 (by decide)) (by decide)) rfl ?_
            refine iq_isub hS 47 J_HField_cutLines_d46 rfl ?_
            refine iq_aload_n hS 48 J_HField_cutLines_d47 (lk_1r (lk_1r l6 (by decide)) (by decide)) rfl ?_
            refine iq_getR hS 51 J_HField_cutLines_d48 lf_2_9 (Or.inr ⟨_, rfl⟩) (ka_23 hM5) (ra_23_3 hM5) rfl ?_
            refine iq_iconst hS 52 J_HField_cutLines_d51 (v := 0) (by decide +kernel) rfl ?_
            obtain ⟨g52, h⟩ := ed_gd h
            refine iq_iaload hS 53 J_HField_cutLines_d52 ⟨(ka_24 hM5).1, (ka_24 hM5).2, g52.1, ix_lt (kl_24 hM5) g52.2⟩ rfl ?_
            obtain ⟨Q10, hQ10, h⟩ := bd2_ed h
            have J10 : ∀ (y25 : Int32) (y26 : Int32) (L' : List (Nat × Value)), im_lk L' 0 = some (.ref 23) → im_lk L' 1 = some (.int x3) → im_lk L' 2 = some (.int x4) → im_lk L' 3 = some (.int y25) → im_lk L' 4 = some (.int y26) → Q10 (y25, y26) → ia (tb_G L xs) (dep + 1) J_HField_cutLines (rwV w Q) (107, L', [], M5) := by
              intro y25 y26 L' l27 l28 l29 l30 l31 h
              replace h := hQ10 _ _ h
              refine iq_aload_n hS 108 J_HField_cutLines_d107 l27 rfl ?_
              refine iq_iload_n hS 109 J_HField_cutLines_d108 l28 rfl ?_
              refine iq_iload_n hS 110 J_HField_cutLines_d109 l30 rfl ?_
              refine iq_iload_n hS 111 J_HField_cutLines_d110 l28 rfl ?_
              refine iq_isub hS 112 J_HField_cutLines_d111 rfl ?_
              obtain ⟨Q32, hQ32, h⟩ := bd1_ed h
              refine iq_cwV hS 115 J_HField_cutLines_d112 rfl (pr_inst (vs := [_, _]) lc_2_115 lT_46 rfl rfl (by decide) (by decide) rfl (Nat.le_of_ble_eq_true rfl) (Nat.le_of_ble_eq_true rfl) (fun _ => Or.inl (pr_b (ka_23 hM5) (by decide) rfl))) (f_HField_addLine_ok (dep := dep + 0) hM5 h) rfl ?_
              intro M32 hM32 h
              replace h := hQ32 _ h
              refine iq_iload hS 117 J_HField_cutLines_d115 l31 rfl ?_
              refine iq_istore_n hS 118 J_HField_cutLines_d117 (by decide) rfl ?_
              refine iq_iincv hS 121 J_HField_cutLines_d118 (c := 1) (by decide +kernel) (lk_1i l29 (by decide)) (by decide) rfl ?_
              refine iq_goto hS J_HField_cutLines_d121 (t := 9) rfl ?_
              exact ih _ _ _ _ hM32 (lk_1r (lk_1r l27 (by decide)) (by decide)) (lk_1i lk_1s (by decide)) lk_1s (lq_l h)
            refine iq_icmp_le hS 56 J_HField_cutLines_d53 (t := 107) rfl (fun q53 => ?_) rfl (fun q53 => ?_)
            · replace h := ed_pos q53 h
              exact J10 _ _ _ (lk_1r (lk_1r l6 (by decide)) (by decide)) (lk_1i (lk_1i l7 (by decide)) (by decide)) (lk_1i (lk_1i l8 (by decide)) (by decide)) (lk_1i lk_1s (by decide)) lk_1s (ed_some h)
            · replace h := ed_neg q53 h
              refine iq_aload_n hS 57 J_HField_cutLines_d56 (lk_1r (lk_1r l6 (by decide)) (by decide)) rfl ?_
              refine iq_iload_n hS 58 J_HField_cutLines_d57 (lk_1i (lk_1i l7 (by decide)) (by decide)) rfl ?_
              refine iq_iload_n hS 59 J_HField_cutLines_d58 (lk_1i (lk_1i l7 (by decide)) (by decide)) rfl ?_
              refine iq_aload_n hS 60 J_HField_cutLines_d59 (lk_1r (lk_1r l6 (by decide)) (by decide)) rfl ?_
              refine iq_getR hS 63 J_HField_cutLines_d60 lf_2_9 (Or.inr ⟨_, rfl⟩) (ka_23 hM5) (ra_23_3 hM5) rfl ?_
              refine iq_iconst hS 64 J_HField_cutLines_d63 (v := 0) (by decide +kernel) rfl ?_
              obtain ⟨g64, h⟩ := ed_gd h
              refine iq_iaload hS 65 J_HField_cutLines_d64 ⟨(ka_24 hM5).1, (ka_24 hM5).2, g64.1, ix_lt (kl_24 hM5) g64.2⟩ rfl ?_
              refine iq_iadd hS 66 J_HField_cutLines_d65 rfl ?_
              obtain ⟨Q11, hQ11, h⟩ := bd1_ed h
              refine iq_cpI hS 69 J_HField_cutLines_d66 rfl (pr_inst (vs := [_, _]) lc_2_111 lT_45 rfl rfl (by decide) (by decide) rfl (Nat.le_of_ble_eq_true rfl) (Nat.le_of_ble_eq_true rfl) (fun _ => Or.inl (pr_b (ka_23 hM5) (by decide) rfl))) (f_HField_lastBlank_ok (dep := dep + 0) hM5 h) rfl ?_
              intro x11 h
              replace h := hQ11 _ h
              refine iq_istore hS 71 J_HField_cutLines_d69 (by decide) rfl ?_
              refine iq_iload hS 73 J_HField_cutLines_d71 lk_1s rfl ?_
              refine iq_iconst hS 74 J_HField_cutLines_d73 (v := (-1)) (by decide +kernel) rfl ?_
              obtain ⟨Q12, hQ12, h⟩ := bd1_ed h
              have J12 : ∀ (y13 : Int32) (L' : List (Nat × Value)), im_lk L' 0 = some (.ref 23) → im_lk L' 1 = some (.int x3) → im_lk L' 2 = some (.int x4) → im_lk L' 5 = some (.int x11) → Q12 y13 → ia (tb_G L xs) (dep + 1) J_HField_cutLines (rwV w Q) (90, L', [.int y13], M5) := by
                intro y13 L' l14 l15 l16 l17 h
                replace h := hQ12 _ h
                refine iq_istore_n hS 91 J_HField_cutLines_d90 (by decide) rfl ?_
                refine iq_iload hS 93 J_HField_cutLines_d91 (lk_1i l17 (by decide)) rfl ?_
                refine iq_iconst hS 94 J_HField_cutLines_d93 (v := (-1)) (by decide +kernel) rfl ?_
                have J18 : ∀ (z19 : Int32) (L' : List (Nat × Value)), z19 = ((if ¬ x11 = (-1) then (x11 + 1) else y13) : Int32) → im_lk L' 0 = some (.ref 23) → im_lk L' 1 = some (.int x3) → im_lk L' 2 = some (.int x4) → im_lk L' 3 = some (.int y13) → ia (tb_G L xs) (dep + 1) J_HField_cutLines (rwV w Q) (105, L', [.int z19], M5) := by
                  intro z19 L' e20 l21 l22 l23 l24
                  subst e20
                  refine iq_istore hS 107 J_HField_cutLines_d105 (by decide) rfl ?_
                  exact J10 _ _ _ (lk_1r l21 (by decide)) (lk_1i l22 (by decide)) (lk_1i l23 (by decide)) (lk_1i l24 (by decide)) lk_1s (ed_some h)
                refine iq_icmp_ne hS 97 J_HField_cutLines_d94 (t := 101) rfl (fun q94 => ?_) rfl (fun q94 => ?_)
                · refine iq_iload hS 103 J_HField_cutLines_d101 (lk_1i l17 (by decide)) rfl ?_
                  refine iq_iconst hS 104 J_HField_cutLines_d103 (v := 1) (by decide +kernel) rfl ?_
                  refine iq_iadd hS 105 J_HField_cutLines_d104 rfl ?_
                  exact J18 _ _ (by simp only [if_pos q94]) (lk_1r l14 (by decide)) (lk_1i l15 (by decide)) (lk_1i l16 (by decide)) lk_1s
                · refine iq_iload_n hS 98 J_HField_cutLines_d97 lk_1s rfl ?_
                  refine iq_goto hS J_HField_cutLines_d98 (t := 105) rfl ?_
                  exact J18 _ _ (by simp only [if_neg q94]) (lk_1r l14 (by decide)) (lk_1i l15 (by decide)) (lk_1i l16 (by decide)) lk_1s
              refine iq_icmp_ne hS 77 J_HField_cutLines_d74 (t := 88) rfl (fun q74 => ?_) rfl (fun q74 => ?_)
              · replace h := ed_pos q74 h
                refine iq_iload hS 90 J_HField_cutLines_d88 lk_1s rfl ?_
                exact J12 _ _ (lk_1r (lk_1r (lk_1r l6 (by decide)) (by decide)) (by decide)) (lk_1i (lk_1i (lk_1i l7 (by decide)) (by decide)) (by decide)) (lk_1i (lk_1i (lk_1i l8 (by decide)) (by decide)) (by decide)) lk_1s (ed_some h)
              · replace h := ed_neg q74 h
                refine iq_iload_n hS 78 J_HField_cutLines_d77 (lk_1i (lk_1i (lk_1i l7 (by decide)) (by decide)) (by decide)) rfl ?_
                refine iq_aload_n hS 79 J_HField_cutLines_d78 (lk_1r (lk_1r (lk_1r l6 (by decide)) (by decide)) (by decide)) rfl ?_
                refine iq_getR hS 82 J_HField_cutLines_d79 lf_2_9 (Or.inr ⟨_, rfl⟩) (ka_23 hM5) (ra_23_3 hM5) rfl ?_
                refine iq_iconst hS 83 J_HField_cutLines_d82 (v := 0) (by decide +kernel) rfl ?_
                obtain ⟨g83, h⟩ := ed_gd h
                refine iq_iaload hS 84 J_HField_cutLines_d83 ⟨(ka_24 hM5).1, (ka_24 hM5).2, g83.1, ix_lt (kl_24 hM5) g83.2⟩ rfl ?_
                refine iq_iadd hS 85 J_HField_cutLines_d84 rfl ?_
                refine iq_goto hS J_HField_cutLines_d85 (t := 90) rfl ?_
                exact J12 _ _ (lk_1r (lk_1r (lk_1r l6 (by decide)) (by decide)) (by decide)) (lk_1i (lk_1i (lk_1i l7 (by decide)) (by decide)) (by decide)) (lk_1i (lk_1i (lk_1i l8 (by decide)) (by decide)) (by decide)) lk_1s (ed_some h)
  exact I1 n1 _ _ _ _ (lw_sI hM) (lk_1r (lk_1r l0 (by decide)) (by decide)) (lk_1i lk_1s (by decide)) lk_1s hn1
theorem f_HField_cutLines_fr {M : im_M} {r : im_M} (h : f_HField_cutLines M = some r) : fr 201326592 [(23, 9)] M r := by
  replace h : ed (f_HField_cutLines M) (fun x => x = r) := ⟨r, h, rfl⟩
  unfold f_HField_cutLines at h
  obtain ⟨Q1, hQ1, h⟩ := bd1_ed h
  have K1 : ∀ (M2 : im_M), fr 201326592 [(23, 9)] M M2 → Q1 M2 → fr 201326592 [(23, 9)] M r := by
    intro M2 hM2 h
    replace h := hQ1 _ h
    exact fr_retV h hM2
  obtain ⟨r1, hr1, hq1⟩ := h
  obtain ⟨n1, hn1⟩ := lp_n hr1
  have I1 : ∀ (n : Nat) (x3 : Int32) (x4 : Int32) (M5 : im_M), fr 201326592 [(23, 9)] M M5 → lpn (uc3 (f_HField_cutLines_L9)) n (x3, x4, M5) = some r1 → fr 201326592 [(23, 9)] M r := by
    intro n
    induction n with
    | zero => intro x3 x4 M5 hM5 hn; exact (lpn_0 hn).elim
    | succ n ih =>
      intro x3 x4 M5 hM5 hn
      have h := lpn_ed3 hn
      unfold f_HField_cutLines_L9 at h
      by_cases q15 : ¬ (im_i M5 23 2) = 8
      · replace h := ed_pos q15 h
        exact K1 _ hM5 (lq_r h hq1)
      · replace h := ed_neg q15 h
        by_cases q22 : 200 < x4
        · replace h := ed_pos q22 h
          exact K1 _ hM5 (lq_r h hq1)
        · replace h := ed_neg q22 h
          by_cases q30 : (im_i M5 23 8) < x3
          · replace h := ed_pos q30 h
            exact K1 _ hM5 (lq_r h hq1)
          · replace h := ed_neg q30 h
            obtain ⟨Q6, hQ6, h⟩ := bd1_ed h
            obtain ⟨x6, e6, h⟩ := h
            replace h := hQ6 _ h
            obtain ⟨g52, h⟩ := ed_gd h
            obtain ⟨Q7, hQ7, h⟩ := bd2_ed h
            have J7 : ∀ (y16 : Int32) (y17 : Int32), Q7 (y16, y17) → fr 201326592 [(23, 9)] M r := by
              intro y16 y17 h
              replace h := hQ7 _ _ h
              obtain ⟨Q23, hQ23, h⟩ := bd1_ed h
              obtain ⟨M23, e23, h⟩ := h
              replace h := hQ23 _ h
              exact ih _ _ _ (fr_tr (fr_mono (by decide) (by decide +kernel) (f_HField_addLine_fr e23)) hM5) (lq_l h)
            by_cases q53 : (x6 - x3) ≤ (im_i M5 24 (Int32.toNatClampNeg 0))
            · replace h := ed_pos q53 h
              exact J7 _ _ (ed_some h)
            · replace h := ed_neg q53 h
              obtain ⟨g64, h⟩ := ed_gd h
              obtain ⟨Q8, hQ8, h⟩ := bd1_ed h
              obtain ⟨x8, e8, h⟩ := h
              replace h := hQ8 _ h
              obtain ⟨Q9, hQ9, h⟩ := bd1_ed h
              have J9 : ∀ (y10 : Int32), Q9 y10 → fr 201326592 [(23, 9)] M r := by
                intro y10 h
                replace h := hQ9 _ h
                exact J7 _ _ (ed_some h)
              by_cases q74 : ¬ x8 = (-1)
              · replace h := ed_pos q74 h
                exact J9 _ (ed_some h)
              · replace h := ed_neg q74 h
                obtain ⟨g83, h⟩ := ed_gd h
                exact J9 _ (ed_some h)
  exact I1 n1 _ _ _ (fr_F (by decide) fr_refl) hn1
noncomputable def f_HField_allDigits_L2 (M3 : im_M) (x2 : Int32) : Option ((Int32) ⊕ ((Unit) ⊕ (Int32))) := if (im_i M3 23 8) ≤ x2 then some (.inr (.inl ())) else gd (inb x2 200) <| bd1 (f_HTape_isDigit (im_i M3 25 (Int32.toNatClampNeg x2)) M3) fun (x4 : Int32) => if ¬ x4 = 0 then some (.inl (x2 + 1)) else some (.inr (.inr 0))
noncomputable def f_HField_allDigits (M : im_M) : Option (Int32) := bs0 (lp (uc1 (f_HField_allDigits_L2 M)) 0) (fun (_ : Unit) => some 1) (fun t => some t)
theorem J_HField_allDigits_d0 : decode J_HField_allDigits.2.1 0 = .ok (.iconst 0, 1) := by decide +kernel
theorem J_HField_allDigits_d1 : decode J_HField_allDigits.2.1 1 = .ok (.istore_n 1, 1) := by decide +kernel
theorem J_HField_allDigits_d2 : decode J_HField_allDigits.2.1 2 = .ok (.iload_n 1, 1) := by decide +kernel
theorem J_HField_allDigits_d3 : decode J_HField_allDigits.2.1 3 = .ok (.aload_n 0, 1) := by decide +kernel
theorem J_HField_allDigits_d4 : decode J_HField_allDigits.2.1 4 = .ok (.getfield 47, 3) := by decide +kernel
theorem J_HField_allDigits_d7 : decode J_HField_allDigits.2.1 7 = .ok (.if_icmp .ge 23, 3) := by decide +kernel
theorem J_HField_allDigits_d10 : decode J_HField_allDigits.2.1 10 = .ok (.aload_n 0, 1) := by decide +kernel
theorem J_HField_allDigits_d11 : decode J_HField_allDigits.2.1 11 = .ok (.getfield 17, 3) := by decide +kernel
theorem J_HField_allDigits_d14 : decode J_HField_allDigits.2.1 14 = .ok (.iload_n 1, 1) := by decide +kernel
theorem J_HField_allDigits_d15 : decode J_HField_allDigits.2.1 15 = .ok (.baload, 1) := by decide +kernel
theorem J_HField_allDigits_d16 : decode J_HField_allDigits.2.1 16 = .ok (.invokestatic 56, 3) := by decide +kernel
theorem J_HField_allDigits_d19 : decode J_HField_allDigits.2.1 19 = .ok (.ifCond .ne 5, 3) := by decide +kernel
theorem J_HField_allDigits_d22 : decode J_HField_allDigits.2.1 22 = .ok (.iconst 0, 1) := by decide +kernel
theorem J_HField_allDigits_d23 : decode J_HField_allDigits.2.1 23 = .ok (.ireturn, 1) := by decide +kernel
theorem J_HField_allDigits_d24 : decode J_HField_allDigits.2.1 24 = .ok (.iinc 1 1, 3) := by decide +kernel
theorem J_HField_allDigits_d27 : decode J_HField_allDigits.2.1 27 = .ok (.goto (-25), 3) := by decide +kernel
theorem J_HField_allDigits_d30 : decode J_HField_allDigits.2.1 30 = .ok (.iconst 1, 1) := by decide +kernel
theorem J_HField_allDigits_d31 : decode J_HField_allDigits.2.1 31 = .ok (.ireturn, 1) := by decide +kernel
theorem f_HField_allDigits_ok {L : Nat} {xs : Nat → Int32} {dep : Nat} {w : Bool} {M : im_M} {Q : Int32 → Prop} (hM : lw_S w M) (h : ed (f_HField_allDigits M) Q) : ia (tb_G L xs) (dep + 1) J_HField_allDigits (rpI M Q) (0, lv_args 0 [.ref 23], [], M) := by
  have hS : im_St (tb_G L xs) (dep + 1) J_HField_allDigits (ia (tb_G L xs) (dep + 1) J_HField_allDigits (rpI M Q)) := ia_St
  unfold f_HField_allDigits at h
  have l0 : im_lk (lv_args 0 [.ref 23]) 0 = some (.ref 23) := rfl
  refine iq_iconst hS 1 J_HField_allDigits_d0 (v := 0) (by decide +kernel) rfl ?_
  refine iq_istore_n hS 2 J_HField_allDigits_d1 (by decide) rfl ?_
  obtain ⟨Q1, hQ1, hR1, h⟩ := bs0_ed h
  have K1 : ∀  (L' : List (Nat × Value)), Q1 (.inl ()) → ia (tb_G L xs) (dep + 1) J_HField_allDigits (rpI M Q) (30, L', [], M) := by
    intro  L'  h
    replace h := hQ1  h
    refine iq_iconst hS 31 J_HField_allDigits_d30 (v := 1) (by decide +kernel) rfl ?_
    exact iq_iret J_HField_allDigits_d31 rfl rfl ⟨_, rfl, rfl, ed_some h⟩
  obtain ⟨r1, hr1, hq1⟩ := h
  obtain ⟨n1, hn1⟩ := lp_n hr1
  have I1 : ∀ (n : Nat) (x2 : Int32) (L' : List (Nat × Value)), im_lk L' 0 = some (.ref 23) → im_lk L' 1 = some (.int x2) → lpn (uc1 (f_HField_allDigits_L2 M)) n x2 = some r1 → ia (tb_G L xs) (dep + 1) J_HField_allDigits (rpI M Q) (2, L', [], M) := by
    intro n
    induction n with
    | zero => intro x2 L' l3 l4 hn; exact (lpn_0 hn).elim
    | succ n ih =>
      intro x2 L' l3 l4 hn
      have h := lpn_ed1 hn
      unfold f_HField_allDigits_L2 at h
      refine iq_iload_n hS 3 J_HField_allDigits_d2 l4 rfl ?_
      refine iq_aload_n hS 4 J_HField_allDigits_d3 l3 rfl ?_
      refine iq_getI hS 7 J_HField_allDigits_d4 lf_2_47 (Or.inl rfl) (ka_23 hM) rfl ?_
      refine iq_icmp_ge hS 10 J_HField_allDigits_d7 (t := 30) rfl (fun q7 => ?_) rfl (fun q7 => ?_)
      · replace h := ed_pos q7 h
        exact K1  _  (lq_r h hq1)
      · replace h := ed_neg q7 h
        refine iq_aload_n hS 11 J_HField_allDigits_d10 l3 rfl ?_
        refine iq_getR hS 14 J_HField_allDigits_d11 lf_2_17 (Or.inr ⟨_, rfl⟩) (ka_23 hM) (ra_23_7 hM) rfl ?_
        refine iq_iload_n hS 15 J_HField_allDigits_d14 l4 rfl ?_
        obtain ⟨g15, h⟩ := ed_gd h
        refine iq_baload hS 16 J_HField_allDigits_d15 ⟨(ka_25 hM).1, (ka_25 hM).2, g15.1, ix_lt (kl_25 hM) g15.2⟩ rfl ?_
        obtain ⟨Q5, hQ5, h⟩ := bd1_ed h
        refine iq_cpI hS 19 J_HField_allDigits_d16 rfl (pr_stat (vs := [_]) lc_2_56 lT_35 rfl rfl (by decide) rfl (Nat.le_of_ble_eq_true rfl) (Nat.le_of_ble_eq_true rfl)) (f_HTape_isDigit_ok (dep := dep + 0) hM h) rfl ?_
        intro x5 h
        replace h := hQ5 _ h
        refine iq_if_ne hS 22 J_HField_allDigits_d19 (t := 24) rfl (fun q19 => ?_) rfl (fun q19 => ?_)
        · replace h := ed_pos q19 h
          refine iq_iincv hS 27 J_HField_allDigits_d24 (c := 1) (by decide +kernel) l4 (by decide) rfl ?_
          refine iq_goto hS J_HField_allDigits_d27 (t := 2) rfl ?_
          exact ih _ _ (lk_1r l3 (by decide)) lk_1s (lq_l h)
        · replace h := ed_neg q19 h
          refine iq_iconst hS 23 J_HField_allDigits_d22 (v := 0) (by decide +kernel) rfl ?_
          exact iq_iret J_HField_allDigits_d23 rfl rfl ⟨_, rfl, rfl, ed_some (hR1 _ (lq_r h hq1))⟩
  exact I1 n1 _ _ (lk_1r l0 (by decide)) lk_1s hn1
noncomputable def f_HField_isPicture_L2 (M3 : im_M) (x2 : Int32) : Option ((Int32) ⊕ ((Unit) ⊕ (Int32))) := if (im_i M3 23 8) ≤ x2 then some (.inr (.inl ())) else gd (inb x2 200) <| bd1 (f_HTape_hexValue (im_i M3 25 (Int32.toNatClampNeg x2)) M3) fun (x4 : Int32) => if ¬ x4 = (-1) then some (.inl (x2 + 1)) else some (.inr (.inr 0))
noncomputable def f_HField_isPicture (M : im_M) : Option (Int32) := bs0 (lp (uc1 (f_HField_isPicture_L2 M)) 0) (fun (_ : Unit) => gd (inb 0 4) <| if ¬ ((im_i M 23 8) - (im_i M 23 8) / 2 * 2) = 0 then some 0 else gd (¬ (((im_i M 24 (Int32.toNatClampNeg 0)) + 7) / 8) = (0 : Int32)) <| if ¬ (((im_i M 23 8) / 2) - ((im_i M 23 8) / 2) / (((im_i M 24 (Int32.toNatClampNeg 0)) + 7) / 8) * (((im_i M 24 (Int32.toNatClampNeg 0)) + 7) / 8)) = 0 then some 0 else some 1) (fun t => some t)
theorem J_HField_isPicture_d0 : decode J_HField_isPicture.2.1 0 = .ok (.iconst 0, 1) := by decide +kernel
theorem J_HField_isPicture_d1 : decode J_HField_isPicture.2.1 1 = .ok (.istore_n 1, 1) := by decide +kernel
theorem J_HField_isPicture_d2 : decode J_HField_isPicture.2.1 2 = .ok (.iload_n 1, 1) := by decide +kernel
theorem J_HField_isPicture_d3 : decode J_HField_isPicture.2.1 3 = .ok (.aload_n 0, 1) := by decide +kernel
theorem J_HField_isPicture_d4 : decode J_HField_isPicture.2.1 4 = .ok (.getfield 47, 3) := by decide +kernel
theorem J_HField_isPicture_d7 : decode J_HField_isPicture.2.1 7 = .ok (.if_icmp .ge 24, 3) := by decide +kernel
theorem J_HField_isPicture_d10 : decode J_HField_isPicture.2.1 10 = .ok (.aload_n 0, 1) := by decide +kernel
theorem J_HField_isPicture_d11 : decode J_HField_isPicture.2.1 11 = .ok (.getfield 17, 3) := by decide +kernel
theorem J_HField_isPicture_d14 : decode J_HField_isPicture.2.1 14 = .ok (.iload_n 1, 1) := by decide +kernel
theorem J_HField_isPicture_d15 : decode J_HField_isPicture.2.1 15 = .ok (.baload, 1) := by decide +kernel
theorem J_HField_isPicture_d16 : decode J_HField_isPicture.2.1 16 = .ok (.invokestatic 67, 3) := by decide +kernel
theorem J_HField_isPicture_d19 : decode J_HField_isPicture.2.1 19 = .ok (.iconst (-1), 1) := by decide +kernel
theorem J_HField_isPicture_d20 : decode J_HField_isPicture.2.1 20 = .ok (.if_icmp .ne 5, 3) := by decide +kernel
theorem J_HField_isPicture_d23 : decode J_HField_isPicture.2.1 23 = .ok (.iconst 0, 1) := by decide +kernel
theorem J_HField_isPicture_d24 : decode J_HField_isPicture.2.1 24 = .ok (.ireturn, 1) := by decide +kernel
theorem J_HField_isPicture_d25 : decode J_HField_isPicture.2.1 25 = .ok (.iinc 1 1, 3) := by decide +kernel
theorem J_HField_isPicture_d28 : decode J_HField_isPicture.2.1 28 = .ok (.goto (-26), 3) := by decide +kernel
theorem J_HField_isPicture_d31 : decode J_HField_isPicture.2.1 31 = .ok (.aload_n 0, 1) := by decide +kernel
theorem J_HField_isPicture_d32 : decode J_HField_isPicture.2.1 32 = .ok (.getfield 9, 3) := by decide +kernel
theorem J_HField_isPicture_d35 : decode J_HField_isPicture.2.1 35 = .ok (.iconst 0, 1) := by decide +kernel
theorem J_HField_isPicture_d36 : decode J_HField_isPicture.2.1 36 = .ok (.iaload, 1) := by decide +kernel
theorem J_HField_isPicture_d37 : decode J_HField_isPicture.2.1 37 = .ok (.bipush 7, 2) := by decide +kernel
theorem J_HField_isPicture_d39 : decode J_HField_isPicture.2.1 39 = .ok (.iadd, 1) := by decide +kernel
theorem J_HField_isPicture_d40 : decode J_HField_isPicture.2.1 40 = .ok (.bipush 8, 2) := by decide +kernel
theorem J_HField_isPicture_d42 : decode J_HField_isPicture.2.1 42 = .ok (.idiv, 1) := by decide +kernel
theorem J_HField_isPicture_d43 : decode J_HField_isPicture.2.1 43 = .ok (.istore_n 1, 1) := by decide +kernel
theorem J_HField_isPicture_d44 : decode J_HField_isPicture.2.1 44 = .ok (.aload_n 0, 1) := by decide +kernel
theorem J_HField_isPicture_d45 : decode J_HField_isPicture.2.1 45 = .ok (.getfield 47, 3) := by decide +kernel
theorem J_HField_isPicture_d48 : decode J_HField_isPicture.2.1 48 = .ok (.iconst 2, 1) := by decide +kernel
theorem J_HField_isPicture_d49 : decode J_HField_isPicture.2.1 49 = .ok (.irem, 1) := by decide +kernel
theorem J_HField_isPicture_d50 : decode J_HField_isPicture.2.1 50 = .ok (.ifCond .ne 18, 3) := by decide +kernel
theorem J_HField_isPicture_d53 : decode J_HField_isPicture.2.1 53 = .ok (.aload_n 0, 1) := by decide +kernel
theorem J_HField_isPicture_d54 : decode J_HField_isPicture.2.1 54 = .ok (.getfield 47, 3) := by decide +kernel
theorem J_HField_isPicture_d57 : decode J_HField_isPicture.2.1 57 = .ok (.iconst 2, 1) := by decide +kernel
theorem J_HField_isPicture_d58 : decode J_HField_isPicture.2.1 58 = .ok (.idiv, 1) := by decide +kernel
theorem J_HField_isPicture_d59 : decode J_HField_isPicture.2.1 59 = .ok (.iload_n 1, 1) := by decide +kernel
theorem J_HField_isPicture_d60 : decode J_HField_isPicture.2.1 60 = .ok (.irem, 1) := by decide +kernel
theorem J_HField_isPicture_d61 : decode J_HField_isPicture.2.1 61 = .ok (.ifCond .ne 7, 3) := by decide +kernel
theorem J_HField_isPicture_d64 : decode J_HField_isPicture.2.1 64 = .ok (.iconst 1, 1) := by decide +kernel
theorem J_HField_isPicture_d65 : decode J_HField_isPicture.2.1 65 = .ok (.goto 4, 3) := by decide +kernel
theorem J_HField_isPicture_d68 : decode J_HField_isPicture.2.1 68 = .ok (.iconst 0, 1) := by decide +kernel
theorem J_HField_isPicture_d69 : decode J_HField_isPicture.2.1 69 = .ok (.ireturn, 1) := by decide +kernel
theorem f_HField_isPicture_ok {L : Nat} {xs : Nat → Int32} {dep : Nat} {w : Bool} {M : im_M} {Q : Int32 → Prop} (hM : lw_S w M) (h : ed (f_HField_isPicture M) Q) : ia (tb_G L xs) (dep + 1) J_HField_isPicture (rpI M Q) (0, lv_args 0 [.ref 23], [], M) := by
  have hS : im_St (tb_G L xs) (dep + 1) J_HField_isPicture (ia (tb_G L xs) (dep + 1) J_HField_isPicture (rpI M Q)) := ia_St
  unfold f_HField_isPicture at h
  have l0 : im_lk (lv_args 0 [.ref 23]) 0 = some (.ref 23) := rfl
  refine iq_iconst hS 1 J_HField_isPicture_d0 (v := 0) (by decide +kernel) rfl ?_
  refine iq_istore_n hS 2 J_HField_isPicture_d1 (by decide) rfl ?_
  obtain ⟨Q1, hQ1, hR1, h⟩ := bs0_ed h
  have K1 : ∀  (L' : List (Nat × Value)), im_lk L' 0 = some (.ref 23) → Q1 (.inl ()) → ia (tb_G L xs) (dep + 1) J_HField_isPicture (rpI M Q) (31, L', [], M) := by
    intro  L' l2 h
    replace h := hQ1  h
    refine iq_aload_n hS 32 J_HField_isPicture_d31 l2 rfl ?_
    refine iq_getR hS 35 J_HField_isPicture_d32 lf_2_9 (Or.inr ⟨_, rfl⟩) (ka_23 hM) (ra_23_3 hM) rfl ?_
    refine iq_iconst hS 36 J_HField_isPicture_d35 (v := 0) (by decide +kernel) rfl ?_
    obtain ⟨g36, h⟩ := ed_gd h
    refine iq_iaload hS 37 J_HField_isPicture_d36 ⟨(ka_24 hM).1, (ka_24 hM).2, g36.1, ix_lt (kl_24 hM) g36.2⟩ rfl ?_
    refine iq_bipush hS 39 J_HField_isPicture_d37 (v := 7) (by decide +kernel) rfl ?_
    refine iq_iadd hS 40 J_HField_isPicture_d39 rfl ?_
    refine iq_bipush hS 42 J_HField_isPicture_d40 (v := 8) (by decide +kernel) rfl ?_
    refine iq_idiv hS 43 J_HField_isPicture_d42 (by decide) rfl ?_
    refine iq_istore_n hS 44 J_HField_isPicture_d43 (by decide) rfl ?_
    refine iq_aload_n hS 45 J_HField_isPicture_d44 (lk_1r l2 (by decide)) rfl ?_
    refine iq_getI hS 48 J_HField_isPicture_d45 lf_2_47 (Or.inl rfl) (ka_23 hM) rfl ?_
    refine iq_iconst hS 49 J_HField_isPicture_d48 (v := 2) (by decide +kernel) rfl ?_
    refine iq_irem hS 50 J_HField_isPicture_d49 (by decide) rfl ?_
    refine iq_if_ne hS 53 J_HField_isPicture_d50 (t := 68) rfl (fun q50 => ?_) rfl (fun q50 => ?_)
    · replace h := ed_pos q50 h
      refine iq_iconst hS 69 J_HField_isPicture_d68 (v := 0) (by decide +kernel) rfl ?_
      exact iq_iret J_HField_isPicture_d69 rfl rfl ⟨_, rfl, rfl, ed_some h⟩
    · replace h := ed_neg q50 h
      refine iq_aload_n hS 54 J_HField_isPicture_d53 (lk_1r l2 (by decide)) rfl ?_
      refine iq_getI hS 57 J_HField_isPicture_d54 lf_2_47 (Or.inl rfl) (ka_23 hM) rfl ?_
      refine iq_iconst hS 58 J_HField_isPicture_d57 (v := 2) (by decide +kernel) rfl ?_
      refine iq_idiv hS 59 J_HField_isPicture_d58 (by decide) rfl ?_
      refine iq_iload_n hS 60 J_HField_isPicture_d59 lk_1s rfl ?_
      obtain ⟨g60, h⟩ := ed_gd h
      refine iq_irem hS 61 J_HField_isPicture_d60 g60 rfl ?_
      refine iq_if_ne hS 64 J_HField_isPicture_d61 (t := 68) rfl (fun q61 => ?_) rfl (fun q61 => ?_)
      · replace h := ed_pos q61 h
        refine iq_iconst hS 69 J_HField_isPicture_d68 (v := 0) (by decide +kernel) rfl ?_
        exact iq_iret J_HField_isPicture_d69 rfl rfl ⟨_, rfl, rfl, ed_some h⟩
      · replace h := ed_neg q61 h
        refine iq_iconst hS 65 J_HField_isPicture_d64 (v := 1) (by decide +kernel) rfl ?_
        refine iq_goto hS J_HField_isPicture_d65 (t := 69) rfl ?_
        exact iq_iret J_HField_isPicture_d69 rfl rfl ⟨_, rfl, rfl, ed_some h⟩
  obtain ⟨r1, hr1, hq1⟩ := h
  obtain ⟨n1, hn1⟩ := lp_n hr1
  have I1 : ∀ (n : Nat) (x3 : Int32) (L' : List (Nat × Value)), im_lk L' 0 = some (.ref 23) → im_lk L' 1 = some (.int x3) → lpn (uc1 (f_HField_isPicture_L2 M)) n x3 = some r1 → ia (tb_G L xs) (dep + 1) J_HField_isPicture (rpI M Q) (2, L', [], M) := by
    intro n
    induction n with
    | zero => intro x3 L' l4 l5 hn; exact (lpn_0 hn).elim
    | succ n ih =>
      intro x3 L' l4 l5 hn
      have h := lpn_ed1 hn
      unfold f_HField_isPicture_L2 at h
      refine iq_iload_n hS 3 J_HField_isPicture_d2 l5 rfl ?_
      refine iq_aload_n hS 4 J_HField_isPicture_d3 l4 rfl ?_
      refine iq_getI hS 7 J_HField_isPicture_d4 lf_2_47 (Or.inl rfl) (ka_23 hM) rfl ?_
      refine iq_icmp_ge hS 10 J_HField_isPicture_d7 (t := 31) rfl (fun q7 => ?_) rfl (fun q7 => ?_)
      · replace h := ed_pos q7 h
        exact K1  _ l4 (lq_r h hq1)
      · replace h := ed_neg q7 h
        refine iq_aload_n hS 11 J_HField_isPicture_d10 l4 rfl ?_
        refine iq_getR hS 14 J_HField_isPicture_d11 lf_2_17 (Or.inr ⟨_, rfl⟩) (ka_23 hM) (ra_23_7 hM) rfl ?_
        refine iq_iload_n hS 15 J_HField_isPicture_d14 l5 rfl ?_
        obtain ⟨g15, h⟩ := ed_gd h
        refine iq_baload hS 16 J_HField_isPicture_d15 ⟨(ka_25 hM).1, (ka_25 hM).2, g15.1, ix_lt (kl_25 hM) g15.2⟩ rfl ?_
        obtain ⟨Q6, hQ6, h⟩ := bd1_ed h
        refine iq_cpI hS 19 J_HField_isPicture_d16 rfl (pr_stat (vs := [_]) lc_2_67 lT_40 rfl rfl (by decide) rfl (Nat.le_of_ble_eq_true rfl) (Nat.le_of_ble_eq_true rfl)) (f_HTape_hexValue_ok (dep := dep + 0) hM h) rfl ?_
        intro x6 h
        replace h := hQ6 _ h
        refine iq_iconst hS 20 J_HField_isPicture_d19 (v := (-1)) (by decide +kernel) rfl ?_
        refine iq_icmp_ne hS 23 J_HField_isPicture_d20 (t := 25) rfl (fun q20 => ?_) rfl (fun q20 => ?_)
        · replace h := ed_pos q20 h
          refine iq_iincv hS 28 J_HField_isPicture_d25 (c := 1) (by decide +kernel) l5 (by decide) rfl ?_
          refine iq_goto hS J_HField_isPicture_d28 (t := 2) rfl ?_
          exact ih _ _ (lk_1r l4 (by decide)) lk_1s (lq_l h)
        · replace h := ed_neg q20 h
          refine iq_iconst hS 24 J_HField_isPicture_d23 (v := 0) (by decide +kernel) rfl ?_
          exact iq_iret J_HField_isPicture_d24 rfl rfl ⟨_, rfl, rfl, ed_some (hR1 _ (lq_r h hq1))⟩
  exact I1 n1 _ _ (lk_1r l0 (by decide)) lk_1s hn1
noncomputable def f_HField_hasItsData (M : im_M) : Option (Int32) := jn0 (fun (_ : Unit) => jn0 (fun (_ : Unit) => if (im_i M 23 8) = 0 then some 0 else jn0 (fun (_ : Unit) => jn0 (fun (_ : Unit) => some 1) fun k9 => if ¬ (im_i M 23 2) = 7 then k9 () else bd1 (f_HField_isPicture M) fun (x10 : Int32) => if x10 = 0 then some 0 else k9 ()) fun k6 => if ¬ (im_i M 23 2) = 2 then k6 () else if ¬ (im_i M 23 8) = 12 then some 0 else bd1 (f_HField_allDigits M) fun (x7 : Int32) => if ¬ x7 = 0 then k6 () else some 0) fun k4 => if (im_i M 23 2) ≤ 3 then k4 () else if 7 ≤ (im_i M 23 2) then k4 () else some 1) fun k1 => if (im_i M 23 5) = 0 then k1 () else if (im_i M 23 8) = 0 then some 0 else gd (inb ((im_i M 23 8) - 1) 200) <| bd1 (f_HTape_isDigit (im_i M 25 (Int32.toNatClampNeg ((im_i M 23 8) - 1))) M) fun (x2 : Int32) => if ¬ x2 = 0 then k1 () else some 0
theorem J_HField_hasItsData_d0 : decode J_HField_hasItsData.2.1 0 = .ok (.aload_n 0, 1) := by decide +kernel
theorem J_HField_hasItsData_d1 : decode J_HField_hasItsData.2.1 1 = .ok (.getfield 41, 3) := by decide +kernel
theorem J_HField_hasItsData_d4 : decode J_HField_hasItsData.2.1 4 = .ok (.ifCond .eq 29, 3) := by decide +kernel
theorem J_HField_hasItsData_d7 : decode J_HField_hasItsData.2.1 7 = .ok (.aload_n 0, 1) := by decide +kernel
theorem J_HField_hasItsData_d8 : decode J_HField_hasItsData.2.1 8 = .ok (.getfield 47, 3) := by decide +kernel
theorem J_HField_hasItsData_d11 : decode J_HField_hasItsData.2.1 11 = .ok (.ifCond .eq 20, 3) := by decide +kernel
theorem J_HField_hasItsData_d14 : decode J_HField_hasItsData.2.1 14 = .ok (.aload_n 0, 1) := by decide +kernel
theorem J_HField_hasItsData_d15 : decode J_HField_hasItsData.2.1 15 = .ok (.getfield 17, 3) := by decide +kernel
theorem J_HField_hasItsData_d18 : decode J_HField_hasItsData.2.1 18 = .ok (.aload_n 0, 1) := by decide +kernel
theorem J_HField_hasItsData_d19 : decode J_HField_hasItsData.2.1 19 = .ok (.getfield 47, 3) := by decide +kernel
theorem J_HField_hasItsData_d22 : decode J_HField_hasItsData.2.1 22 = .ok (.iconst 1, 1) := by decide +kernel
theorem J_HField_hasItsData_d23 : decode J_HField_hasItsData.2.1 23 = .ok (.isub, 1) := by decide +kernel
theorem J_HField_hasItsData_d24 : decode J_HField_hasItsData.2.1 24 = .ok (.baload, 1) := by decide +kernel
theorem J_HField_hasItsData_d25 : decode J_HField_hasItsData.2.1 25 = .ok (.invokestatic 56, 3) := by decide +kernel
theorem J_HField_hasItsData_d28 : decode J_HField_hasItsData.2.1 28 = .ok (.ifCond .ne 5, 3) := by decide +kernel
theorem J_HField_hasItsData_d31 : decode J_HField_hasItsData.2.1 31 = .ok (.iconst 0, 1) := by decide +kernel
theorem J_HField_hasItsData_d32 : decode J_HField_hasItsData.2.1 32 = .ok (.ireturn, 1) := by decide +kernel
theorem J_HField_hasItsData_d33 : decode J_HField_hasItsData.2.1 33 = .ok (.aload_n 0, 1) := by decide +kernel
theorem J_HField_hasItsData_d34 : decode J_HField_hasItsData.2.1 34 = .ok (.getfield 34, 3) := by decide +kernel
theorem J_HField_hasItsData_d37 : decode J_HField_hasItsData.2.1 37 = .ok (.iconst 3, 1) := by decide +kernel
theorem J_HField_hasItsData_d38 : decode J_HField_hasItsData.2.1 38 = .ok (.if_icmp .le 14, 3) := by decide +kernel
theorem J_HField_hasItsData_d41 : decode J_HField_hasItsData.2.1 41 = .ok (.aload_n 0, 1) := by decide +kernel
theorem J_HField_hasItsData_d42 : decode J_HField_hasItsData.2.1 42 = .ok (.getfield 34, 3) := by decide +kernel
theorem J_HField_hasItsData_d45 : decode J_HField_hasItsData.2.1 45 = .ok (.bipush 7, 2) := by decide +kernel
theorem J_HField_hasItsData_d47 : decode J_HField_hasItsData.2.1 47 = .ok (.if_icmp .ge 5, 3) := by decide +kernel
theorem J_HField_hasItsData_d50 : decode J_HField_hasItsData.2.1 50 = .ok (.iconst 1, 1) := by decide +kernel
theorem J_HField_hasItsData_d51 : decode J_HField_hasItsData.2.1 51 = .ok (.ireturn, 1) := by decide +kernel
theorem J_HField_hasItsData_d52 : decode J_HField_hasItsData.2.1 52 = .ok (.aload_n 0, 1) := by decide +kernel
theorem J_HField_hasItsData_d53 : decode J_HField_hasItsData.2.1 53 = .ok (.getfield 47, 3) := by decide +kernel
theorem J_HField_hasItsData_d56 : decode J_HField_hasItsData.2.1 56 = .ok (.ifCond .eq 27, 3) := by decide +kernel
theorem J_HField_hasItsData_d59 : decode J_HField_hasItsData.2.1 59 = .ok (.aload_n 0, 1) := by decide +kernel
theorem J_HField_hasItsData_d60 : decode J_HField_hasItsData.2.1 60 = .ok (.getfield 34, 3) := by decide +kernel
theorem J_HField_hasItsData_d63 : decode J_HField_hasItsData.2.1 63 = .ok (.iconst 2, 1) := by decide +kernel
theorem J_HField_hasItsData_d64 : decode J_HField_hasItsData.2.1 64 = .ok (.if_icmp .ne 21, 3) := by decide +kernel
theorem J_HField_hasItsData_d67 : decode J_HField_hasItsData.2.1 67 = .ok (.aload_n 0, 1) := by decide +kernel
theorem J_HField_hasItsData_d68 : decode J_HField_hasItsData.2.1 68 = .ok (.getfield 47, 3) := by decide +kernel
theorem J_HField_hasItsData_d71 : decode J_HField_hasItsData.2.1 71 = .ok (.bipush 12, 2) := by decide +kernel
theorem J_HField_hasItsData_d73 : decode J_HField_hasItsData.2.1 73 = .ok (.if_icmp .ne 10, 3) := by decide +kernel
theorem J_HField_hasItsData_d76 : decode J_HField_hasItsData.2.1 76 = .ok (.aload_n 0, 1) := by decide +kernel
theorem J_HField_hasItsData_d77 : decode J_HField_hasItsData.2.1 77 = .ok (.invokevirtual 60, 3) := by decide +kernel
theorem J_HField_hasItsData_d80 : decode J_HField_hasItsData.2.1 80 = .ok (.ifCond .ne 5, 3) := by decide +kernel
theorem J_HField_hasItsData_d83 : decode J_HField_hasItsData.2.1 83 = .ok (.iconst 0, 1) := by decide +kernel
theorem J_HField_hasItsData_d84 : decode J_HField_hasItsData.2.1 84 = .ok (.ireturn, 1) := by decide +kernel
theorem J_HField_hasItsData_d85 : decode J_HField_hasItsData.2.1 85 = .ok (.aload_n 0, 1) := by decide +kernel
theorem J_HField_hasItsData_d86 : decode J_HField_hasItsData.2.1 86 = .ok (.getfield 34, 3) := by decide +kernel
theorem J_HField_hasItsData_d89 : decode J_HField_hasItsData.2.1 89 = .ok (.bipush 7, 2) := by decide +kernel
theorem J_HField_hasItsData_d91 : decode J_HField_hasItsData.2.1 91 = .ok (.if_icmp .ne 10, 3) := by decide +kernel
theorem J_HField_hasItsData_d94 : decode J_HField_hasItsData.2.1 94 = .ok (.aload_n 0, 1) := by decide +kernel
theorem J_HField_hasItsData_d95 : decode J_HField_hasItsData.2.1 95 = .ok (.invokevirtual 64, 3) := by decide +kernel
theorem J_HField_hasItsData_d98 : decode J_HField_hasItsData.2.1 98 = .ok (.ifCond .eq 7, 3) := by decide +kernel
theorem J_HField_hasItsData_d101 : decode J_HField_hasItsData.2.1 101 = .ok (.iconst 1, 1) := by decide +kernel
theorem J_HField_hasItsData_d102 : decode J_HField_hasItsData.2.1 102 = .ok (.goto 4, 3) := by decide +kernel
theorem J_HField_hasItsData_d105 : decode J_HField_hasItsData.2.1 105 = .ok (.iconst 0, 1) := by decide +kernel
theorem J_HField_hasItsData_d106 : decode J_HField_hasItsData.2.1 106 = .ok (.ireturn, 1) := by decide +kernel
theorem f_HField_hasItsData_ok {L : Nat} {xs : Nat → Int32} {dep : Nat} {w : Bool} {M : im_M} {Q : Int32 → Prop} (hM : lw_S w M) (h : ed (f_HField_hasItsData M) Q) : ia (tb_G L xs) (dep + 2) J_HField_hasItsData (rpI M Q) (0, lv_args 0 [.ref 23], [], M) := by
  have hS : im_St (tb_G L xs) (dep + 2) J_HField_hasItsData (ia (tb_G L xs) (dep + 2) J_HField_hasItsData (rpI M Q)) := ia_St
  unfold f_HField_hasItsData at h
  have l0 : im_lk (lv_args 0 [.ref 23]) 0 = some (.ref 23) := rfl
  refine iq_aload_n hS 1 J_HField_hasItsData_d0 l0 rfl ?_
  refine iq_getI hS 4 J_HField_hasItsData_d1 lf_2_41 (Or.inr rfl) (ka_23 hM) rfl ?_
  obtain ⟨k1, Q1, hQ1, hk1, h⟩ := jn0_ed h
  have J1 : ∀  (L' : List (Nat × Value)), im_lk L' 0 = some (.ref 23) → Q1 () → ia (tb_G L xs) (dep + 2) J_HField_hasItsData (rpI M Q) (33, L', [], M) := by
    intro  L' l3 h
    replace h := hQ1  h
    refine iq_aload_n hS 34 J_HField_hasItsData_d33 l3 rfl ?_
    refine iq_getI hS 37 J_HField_hasItsData_d34 lf_2_34 (Or.inl rfl) (ka_23 hM) rfl ?_
    refine iq_iconst hS 38 J_HField_hasItsData_d37 (v := 3) (by decide +kernel) rfl ?_
    obtain ⟨k4, Q4, hQ4, hk4, h⟩ := jn0_ed h
    have J4 : ∀  (L' : List (Nat × Value)), im_lk L' 0 = some (.ref 23) → Q4 () → ia (tb_G L xs) (dep + 2) J_HField_hasItsData (rpI M Q) (52, L', [], M) := by
      intro  L' l5 h
      replace h := hQ4  h
      refine iq_aload_n hS 53 J_HField_hasItsData_d52 l5 rfl ?_
      refine iq_getI hS 56 J_HField_hasItsData_d53 lf_2_47 (Or.inl rfl) (ka_23 hM) rfl ?_
      refine iq_if_eq hS 59 J_HField_hasItsData_d56 (t := 83) rfl (fun q56 => ?_) rfl (fun q56 => ?_)
      · replace h := ed_pos q56 h
        refine iq_iconst hS 84 J_HField_hasItsData_d83 (v := 0) (by decide +kernel) rfl ?_
        exact iq_iret J_HField_hasItsData_d84 rfl rfl ⟨_, rfl, rfl, ed_some h⟩
      · replace h := ed_neg q56 h
        refine iq_aload_n hS 60 J_HField_hasItsData_d59 l5 rfl ?_
        refine iq_getI hS 63 J_HField_hasItsData_d60 lf_2_34 (Or.inl rfl) (ka_23 hM) rfl ?_
        refine iq_iconst hS 64 J_HField_hasItsData_d63 (v := 2) (by decide +kernel) rfl ?_
        obtain ⟨k6, Q6, hQ6, hk6, h⟩ := jn0_ed h
        have J6 : ∀  (L' : List (Nat × Value)), im_lk L' 0 = some (.ref 23) → Q6 () → ia (tb_G L xs) (dep + 2) J_HField_hasItsData (rpI M Q) (85, L', [], M) := by
          intro  L' l8 h
          replace h := hQ6  h
          refine iq_aload_n hS 86 J_HField_hasItsData_d85 l8 rfl ?_
          refine iq_getI hS 89 J_HField_hasItsData_d86 lf_2_34 (Or.inl rfl) (ka_23 hM) rfl ?_
          refine iq_bipush hS 91 J_HField_hasItsData_d89 (v := 7) (by decide +kernel) rfl ?_
          obtain ⟨k9, Q9, hQ9, hk9, h⟩ := jn0_ed h
          have J9 : ∀  (L' : List (Nat × Value)), Q9 () → ia (tb_G L xs) (dep + 2) J_HField_hasItsData (rpI M Q) (101, L', [], M) := by
            intro  L'  h
            replace h := hQ9  h
            refine iq_iconst hS 102 J_HField_hasItsData_d101 (v := 1) (by decide +kernel) rfl ?_
            refine iq_goto hS J_HField_hasItsData_d102 (t := 106) rfl ?_
            exact iq_iret J_HField_hasItsData_d106 rfl rfl ⟨_, rfl, rfl, ed_some h⟩
          refine iq_icmp_ne hS 94 J_HField_hasItsData_d91 (t := 101) rfl (fun q91 => ?_) rfl (fun q91 => ?_)
          · replace h := ed_pos q91 h
            exact J9  _  (hk9  h)
          · replace h := ed_neg q91 h
            refine iq_aload_n hS 95 J_HField_hasItsData_d94 l8 rfl ?_
            obtain ⟨Q10, hQ10, h⟩ := bd1_ed h
            refine iq_cpI hS 98 J_HField_hasItsData_d95 rfl (pr_inst (vs := []) lc_2_64 lT_49 rfl rfl (by decide) (by decide) rfl (Nat.le_of_ble_eq_true rfl) (Nat.le_of_ble_eq_true rfl) (fun _ => Or.inl (pr_b (ka_23 hM) (by decide) rfl))) (f_HField_isPicture_ok (dep := dep + 0) hM h) rfl ?_
            intro x10 h
            replace h := hQ10 _ h
            refine iq_if_eq hS 101 J_HField_hasItsData_d98 (t := 105) rfl (fun q98 => ?_) rfl (fun q98 => ?_)
            · replace h := ed_pos q98 h
              refine iq_iconst hS 106 J_HField_hasItsData_d105 (v := 0) (by decide +kernel) rfl ?_
              exact iq_iret J_HField_hasItsData_d106 rfl rfl ⟨_, rfl, rfl, ed_some h⟩
            · replace h := ed_neg q98 h
              exact J9  _  (hk9  h)
        refine iq_icmp_ne hS 67 J_HField_hasItsData_d64 (t := 85) rfl (fun q64 => ?_) rfl (fun q64 => ?_)
        · replace h := ed_pos q64 h
          exact J6  _ l5 (hk6  h)
        · replace h := ed_neg q64 h
          refine iq_aload_n hS 68 J_HField_hasItsData_d67 l5 rfl ?_
          refine iq_getI hS 71 J_HField_hasItsData_d68 lf_2_47 (Or.inl rfl) (ka_23 hM) rfl ?_
          refine iq_bipush hS 73 J_HField_hasItsData_d71 (v := 12) (by decide +kernel) rfl ?_
          refine iq_icmp_ne hS 76 J_HField_hasItsData_d73 (t := 83) rfl (fun q73 => ?_) rfl (fun q73 => ?_)
          · replace h := ed_pos q73 h
            refine iq_iconst hS 84 J_HField_hasItsData_d83 (v := 0) (by decide +kernel) rfl ?_
            exact iq_iret J_HField_hasItsData_d84 rfl rfl ⟨_, rfl, rfl, ed_some h⟩
          · replace h := ed_neg q73 h
            refine iq_aload_n hS 77 J_HField_hasItsData_d76 l5 rfl ?_
            obtain ⟨Q7, hQ7, h⟩ := bd1_ed h
            refine iq_cpI hS 80 J_HField_hasItsData_d77 rfl (pr_inst (vs := []) lc_2_60 lT_48 rfl rfl (by decide) (by decide) rfl (Nat.le_of_ble_eq_true rfl) (Nat.le_of_ble_eq_true rfl) (fun _ => Or.inl (pr_b (ka_23 hM) (by decide) rfl))) (f_HField_allDigits_ok (dep := dep + 0) hM h) rfl ?_
            intro x7 h
            replace h := hQ7 _ h
            refine iq_if_ne hS 83 J_HField_hasItsData_d80 (t := 85) rfl (fun q80 => ?_) rfl (fun q80 => ?_)
            · replace h := ed_pos q80 h
              exact J6  _ l5 (hk6  h)
            · replace h := ed_neg q80 h
              refine iq_iconst hS 84 J_HField_hasItsData_d83 (v := 0) (by decide +kernel) rfl ?_
              exact iq_iret J_HField_hasItsData_d84 rfl rfl ⟨_, rfl, rfl, ed_some h⟩
    refine iq_icmp_le hS 41 J_HField_hasItsData_d38 (t := 52) rfl (fun q38 => ?_) rfl (fun q38 => ?_)
    · replace h := ed_pos q38 h
      exact J4  _ l3 (hk4  h)
    · replace h := ed_neg q38 h
      refine iq_aload_n hS 42 J_HField_hasItsData_d41 l3 rfl ?_
      refine iq_getI hS 45 J_HField_hasItsData_d42 lf_2_34 (Or.inl rfl) (ka_23 hM) rfl ?_
      refine iq_bipush hS 47 J_HField_hasItsData_d45 (v := 7) (by decide +kernel) rfl ?_
      refine iq_icmp_ge hS 50 J_HField_hasItsData_d47 (t := 52) rfl (fun q47 => ?_) rfl (fun q47 => ?_)
      · replace h := ed_pos q47 h
        exact J4  _ l3 (hk4  h)
      · replace h := ed_neg q47 h
        refine iq_iconst hS 51 J_HField_hasItsData_d50 (v := 1) (by decide +kernel) rfl ?_
        exact iq_iret J_HField_hasItsData_d51 rfl rfl ⟨_, rfl, rfl, ed_some h⟩
  refine iq_if_eq hS 7 J_HField_hasItsData_d4 (t := 33) rfl (fun q4 => ?_) rfl (fun q4 => ?_)
  · replace h := ed_pos q4 h
    exact J1  _ l0 (hk1  h)
  · replace h := ed_neg q4 h
    refine iq_aload_n hS 8 J_HField_hasItsData_d7 l0 rfl ?_
    refine iq_getI hS 11 J_HField_hasItsData_d8 lf_2_47 (Or.inl rfl) (ka_23 hM) rfl ?_
    refine iq_if_eq hS 14 J_HField_hasItsData_d11 (t := 31) rfl (fun q11 => ?_) rfl (fun q11 => ?_)
    · replace h := ed_pos q11 h
      refine iq_iconst hS 32 J_HField_hasItsData_d31 (v := 0) (by decide +kernel) rfl ?_
      exact iq_iret J_HField_hasItsData_d32 rfl rfl ⟨_, rfl, rfl, ed_some h⟩
    · replace h := ed_neg q11 h
      refine iq_aload_n hS 15 J_HField_hasItsData_d14 l0 rfl ?_
      refine iq_getR hS 18 J_HField_hasItsData_d15 lf_2_17 (Or.inr ⟨_, rfl⟩) (ka_23 hM) (ra_23_7 hM) rfl ?_
      refine iq_aload_n hS 19 J_HField_hasItsData_d18 l0 rfl ?_
      refine iq_getI hS 22 J_HField_hasItsData_d19 lf_2_47 (Or.inl rfl) (ka_23 hM) rfl ?_
      refine iq_iconst hS 23 J_HField_hasItsData_d22 (v := 1) (by decide +kernel) rfl ?_
      refine iq_isub hS 24 J_HField_hasItsData_d23 rfl ?_
      obtain ⟨g24, h⟩ := ed_gd h
      refine iq_baload hS 25 J_HField_hasItsData_d24 ⟨(ka_25 hM).1, (ka_25 hM).2, g24.1, ix_lt (kl_25 hM) g24.2⟩ rfl ?_
      obtain ⟨Q2, hQ2, h⟩ := bd1_ed h
      refine iq_cpI hS 28 J_HField_hasItsData_d25 rfl (pr_stat (vs := [_]) lc_2_56 lT_35 rfl rfl (by decide) rfl (Nat.le_of_ble_eq_true rfl) (Nat.le_of_ble_eq_true rfl)) (f_HTape_isDigit_ok (dep := dep + 1) hM h) rfl ?_
      intro x2 h
      replace h := hQ2 _ h
      refine iq_if_ne hS 31 J_HField_hasItsData_d28 (t := 33) rfl (fun q28 => ?_) rfl (fun q28 => ?_)
      · replace h := ed_pos q28 h
        exact J1  _ l0 (hk1  h)
      · replace h := ed_neg q28 h
        refine iq_iconst hS 32 J_HField_hasItsData_d31 (v := 0) (by decide +kernel) rfl ?_
        exact iq_iret J_HField_hasItsData_d32 rfl rfl ⟨_, rfl, rfl, ed_some h⟩
noncomputable def f_Arrays_rangeCheck (p0 : Int32) (p1 : Int32) (p2 : Int32) (M : im_M) : Option (Unit) := if p1 ≤ p2 then if 0 ≤ p1 then if p2 ≤ p0 then some () else none else none else none
theorem f_Arrays_rangeCheck_ok {L : Nat} {xs : Nat → Int32} {dep : Nat} {w : Bool} {p0 : Int32} {p1 : Int32} {p2 : Int32} {M : im_M} {Q : Unit → Prop} (hM : lw_S w M) (h : ed (f_Arrays_rangeCheck p0 p1 p2 M) Q) : ia (tb_G L xs) dep J_Arrays_rangeCheck (rpV M Q) (0, lv_args 0 [.int p0, .int p1, .int p2], [], M) := by
  have hS : im_St (tb_G L xs) dep J_Arrays_rangeCheck (ia (tb_G L xs) dep J_Arrays_rangeCheck (rpV M Q)) := ia_St
  unfold f_Arrays_rangeCheck at h
  have l0 : im_lk (lv_args 0 [.int p0, .int p1, .int p2]) 0 = some (.int p0) := rfl
  have l1 : im_lk (lv_args 0 [.int p0, .int p1, .int p2]) 1 = some (.int p1) := rfl
  have l2 : im_lk (lv_args 0 [.int p0, .int p1, .int p2]) 2 = some (.int p2) := rfl
  refine iq_iload_n hS 1 J_Arrays_rangeCheck_d0 l1 rfl ?_
  refine iq_iload_n hS 2 J_Arrays_rangeCheck_d1 l2 rfl ?_
  refine iq_icmp_le hS 5 J_Arrays_rangeCheck_d2 (t := 46) rfl (fun q2 => ?_) rfl (fun q2 => ?_)
  · replace h := ed_pos q2 h
    refine iq_iload_n hS 47 J_Arrays_rangeCheck_d46 l1 rfl ?_
    refine iq_if_ge hS 50 J_Arrays_rangeCheck_d47 (t := 59) rfl (fun q47 => ?_) rfl (fun q47 => ?_)
    · replace h := ed_pos q47 h
      refine iq_iload_n hS 60 J_Arrays_rangeCheck_d59 l2 rfl ?_
      refine iq_iload_n hS 61 J_Arrays_rangeCheck_d60 l0 rfl ?_
      refine iq_icmp_le hS 64 J_Arrays_rangeCheck_d61 (t := 73) rfl (fun q61 => ?_) rfl (fun q61 => ?_)
      · replace h := ed_pos q61 h
        exact iq_ret J_Arrays_rangeCheck_d73 rfl ⟨rfl, rfl, ed_some h⟩
      · replace h := ed_neg q61 h
        exact (ed_none h).elim
    · replace h := ed_neg q47 h
      exact (ed_none h).elim
  · replace h := ed_neg q2 h
    exact (ed_none h).elim
noncomputable def f_Arrays_fill_L10 (v3 : Int32) (v4 : Int32) (x5 : Int32) (M6 : im_M) : Option ((Int32 × im_M) ⊕ (im_M)) := if v3 ≤ x5 then some (.inr M6) else gd (inb x5 1960) <| some (.inl ((x5 + 1), (im_setI M6 21 (Int32.toNatClampNeg x5) v4)))
noncomputable def f_Arrays_fill (p1 : Int32) (p2 : Int32) (p3 : Int32) (M : im_M) : Option (im_M) := bd0 (f_Arrays_rangeCheck 1960 p1 p2 M) fun (_ : Unit) => bd1 (lp (uc2 (f_Arrays_fill_L10 p2 p3)) (p1, M)) fun (M7 : im_M) => some M7
theorem f_Arrays_fill_ok {L : Nat} {xs : Nat → Int32} {dep : Nat} {w : Bool} {p1 : Int32} {p2 : Int32} {p3 : Int32} {M : im_M} {Q : im_M → Prop} (hM : lw_S w M) (h : ed (f_Arrays_fill p1 p2 p3 M) Q) : ia (tb_G L xs) (dep + 1) J_Arrays_fill (rwV w Q) (0, lv_args 0 [.ref 21, .int p1, .int p2, .int p3], [], M) := by
  have hS : im_St (tb_G L xs) (dep + 1) J_Arrays_fill (ia (tb_G L xs) (dep + 1) J_Arrays_fill (rwV w Q)) := ia_St
  unfold f_Arrays_fill at h
  have l0 : im_lk (lv_args 0 [.ref 21, .int p1, .int p2, .int p3]) 0 = some (.ref 21) := rfl
  have l1 : im_lk (lv_args 0 [.ref 21, .int p1, .int p2, .int p3]) 1 = some (.int p1) := rfl
  have l2 : im_lk (lv_args 0 [.ref 21, .int p1, .int p2, .int p3]) 2 = some (.int p2) := rfl
  have l3 : im_lk (lv_args 0 [.ref 21, .int p1, .int p2, .int p3]) 3 = some (.int p3) := rfl
  refine iq_aload_n hS 1 J_Arrays_fill_d0 l0 rfl ?_
  refine iq_alenv hS 2 J_Arrays_fill_d1 (v := 1960) (ka_21 hM) (by decide) (by decide) (kl_21 hM) (by decide +kernel) rfl ?_
  refine iq_iload_n hS 3 J_Arrays_fill_d2 l1 rfl ?_
  refine iq_iload_n hS 4 J_Arrays_fill_d3 l2 rfl ?_
  obtain ⟨Q1, hQ1, h⟩ := bd0_ed h
  refine iq_cpV hS 7 J_Arrays_fill_d4 rfl (pr_stat (vs := [_, _, _]) lc_22_13 lT_54 rfl rfl (by decide) rfl (Nat.le_of_ble_eq_true rfl) (Nat.le_of_ble_eq_true rfl)) (f_Arrays_rangeCheck_ok (dep := dep + 0) hM h) rfl ?_
  intro h
  replace h := hQ1  h
  refine iq_iload_n hS 8 J_Arrays_fill_d7 l1 rfl ?_
  refine iq_istore hS 10 J_Arrays_fill_d8 (by decide) rfl ?_
  obtain ⟨Q2, hQ2, h⟩ := bd1_ed h
  have K2 : ∀ (M3 : im_M) (L' : List (Nat × Value)), lw_S w M3 → Q2 M3 → ia (tb_G L xs) (dep + 1) J_Arrays_fill (rwV w Q) (27, L', [], M3) := by
    intro M3 L' hM3  h
    replace h := hQ2 _ h
    exact iq_ret J_Arrays_fill_d27 rfl ⟨rfl, hM3, ed_some h⟩
  obtain ⟨r2, hr2, hq2⟩ := h
  obtain ⟨n2, hn2⟩ := lp_n hr2
  have I2 : ∀ (n : Nat) (x4 : Int32) (M5 : im_M) (L' : List (Nat × Value)), lw_S w M5 → im_lk L' 0 = some (.ref 21) → im_lk L' 2 = some (.int p2) → im_lk L' 3 = some (.int p3) → im_lk L' 4 = some (.int x4) → lpn (uc2 (f_Arrays_fill_L10 p2 p3)) n (x4, M5) = some r2 → ia (tb_G L xs) (dep + 1) J_Arrays_fill (rwV w Q) (10, L', [], M5) := by
    intro n
    induction n with
    | zero => intro x4 M5 L' hM5 l6 l7 l8 l9 hn; exact (lpn_0 hn).elim
    | succ n ih =>
      intro x4 M5 L' hM5 l6 l7 l8 l9 hn
      have h := lpn_ed2 hn
      unfold f_Arrays_fill_L10 at h
      refine iq_iload hS 12 J_Arrays_fill_d10 l9 rfl ?_
      refine iq_iload_n hS 13 J_Arrays_fill_d12 l7 rfl ?_
      refine iq_icmp_ge hS 16 J_Arrays_fill_d13 (t := 27) rfl (fun q13 => ?_) rfl (fun q13 => ?_)
      · replace h := ed_pos q13 h
        exact K2 _ _ hM5  (lq_r h hq2)
      · replace h := ed_neg q13 h
        refine iq_aload_n hS 17 J_Arrays_fill_d16 l6 rfl ?_
        refine iq_iload hS 19 J_Arrays_fill_d17 l9 rfl ?_
        refine iq_iload_n hS 20 J_Arrays_fill_d19 l8 rfl ?_
        obtain ⟨g20, h⟩ := ed_gd h
        refine iq_iastore hS 21 J_Arrays_fill_d20 ⟨(ka_21 hM5).1, (ka_21 hM5).2, g20.1, ix_lt (kl_21 hM5) g20.2⟩ rfl ?_
        refine iq_iincv hS 24 J_Arrays_fill_d21 (c := 1) (by decide +kernel) l9 (by decide) rfl ?_
        refine iq_goto hS J_Arrays_fill_d24 (t := 10) rfl ?_
        exact ih _ _ _ (lw_sI hM5) (lk_1r l6 (by decide)) (lk_1i l7 (by decide)) (lk_1i l8 (by decide)) lk_1s (lq_l h)
  exact I2 n2 _ _ _ hM (lk_1r l0 (by decide)) (lk_1i l2 (by decide)) (lk_1i l3 (by decide)) lk_1s hn2
theorem f_Arrays_fill_fr {p1 : Int32} {p2 : Int32} {p3 : Int32} {M : im_M} {r : im_M} (h : f_Arrays_fill p1 p2 p3 M = some r) : fr 2097152 [] M r := by
  replace h : ed (f_Arrays_fill p1 p2 p3 M) (fun x => x = r) := ⟨r, h, rfl⟩
  unfold f_Arrays_fill at h
  obtain ⟨Q1, hQ1, h⟩ := bd0_ed h
  obtain ⟨_, e1, h⟩ := h
  replace h := hQ1  h
  obtain ⟨Q2, hQ2, h⟩ := bd1_ed h
  have K2 : ∀ (M3 : im_M), fr 2097152 [] M M3 → Q2 M3 → fr 2097152 [] M r := by
    intro M3 hM3 h
    replace h := hQ2 _ h
    exact fr_retV h hM3
  obtain ⟨r2, hr2, hq2⟩ := h
  obtain ⟨n2, hn2⟩ := lp_n hr2
  have I2 : ∀ (n : Nat) (x4 : Int32) (M5 : im_M), fr 2097152 [] M M5 → lpn (uc2 (f_Arrays_fill_L10 p2 p3)) n (x4, M5) = some r2 → fr 2097152 [] M r := by
    intro n
    induction n with
    | zero => intro x4 M5 hM5 hn; exact (lpn_0 hn).elim
    | succ n ih =>
      intro x4 M5 hM5 hn
      have h := lpn_ed2 hn
      unfold f_Arrays_fill_L10 at h
      by_cases q13 : p2 ≤ x4
      · replace h := ed_pos q13 h
        exact K2 _ hM5 (lq_r h hq2)
      · replace h := ed_neg q13 h
        obtain ⟨g20, h⟩ := ed_gd h
        exact ih _ _ (fr_I (by decide) hM5) (lq_l h)
  exact I2 n2 _ _ fr_refl hn2
noncomputable def f_HOrders_lay (p0 : Int32) (p1 : Int32) (p2 : Int32) (p3 : Int32) (p4 : Int32) (M : im_M) : Option (im_M) := bd1 (f_Arrays_fill (p0 * 14) ((p0 * 14) + 14) 0 M) fun (M1 : im_M) => gd (inb ((p0 * 14) + 0) 1960) <| gd (inb ((p0 * 14) + 1) 1960) <| gd (inb ((p0 * 14) + 2) 1960) <| gd (inb ((p0 * 14) + 3) 1960) <| some (im_setI (im_setI (im_setI (im_setI M1 21 (Int32.toNatClampNeg ((p0 * 14) + 0)) p1) 21 (Int32.toNatClampNeg ((p0 * 14) + 1)) p2) 21 (Int32.toNatClampNeg ((p0 * 14) + 2)) p3) 21 (Int32.toNatClampNeg ((p0 * 14) + 3)) p4)
theorem J_HOrders_lay_d0 : decode J_HOrders_lay.2.1 0 = .ok (.iload_n 1, 1) := by decide +kernel
theorem J_HOrders_lay_d1 : decode J_HOrders_lay.2.1 1 = .ok (.bipush 14, 2) := by decide +kernel
theorem J_HOrders_lay_d3 : decode J_HOrders_lay.2.1 3 = .ok (.imul, 1) := by decide +kernel
theorem J_HOrders_lay_d4 : decode J_HOrders_lay.2.1 4 = .ok (.istore 6, 2) := by decide +kernel
theorem J_HOrders_lay_d6 : decode J_HOrders_lay.2.1 6 = .ok (.aload_n 0, 1) := by decide +kernel
theorem J_HOrders_lay_d7 : decode J_HOrders_lay.2.1 7 = .ok (.getfield 13, 3) := by decide +kernel
theorem J_HOrders_lay_d10 : decode J_HOrders_lay.2.1 10 = .ok (.iload 6, 2) := by decide +kernel
theorem J_HOrders_lay_d12 : decode J_HOrders_lay.2.1 12 = .ok (.iload 6, 2) := by decide +kernel
theorem J_HOrders_lay_d14 : decode J_HOrders_lay.2.1 14 = .ok (.bipush 14, 2) := by decide +kernel
theorem J_HOrders_lay_d16 : decode J_HOrders_lay.2.1 16 = .ok (.iadd, 1) := by decide +kernel
theorem J_HOrders_lay_d17 : decode J_HOrders_lay.2.1 17 = .ok (.iconst 0, 1) := by decide +kernel
theorem J_HOrders_lay_d18 : decode J_HOrders_lay.2.1 18 = .ok (.invokestatic 20, 3) := by decide +kernel
theorem J_HOrders_lay_d21 : decode J_HOrders_lay.2.1 21 = .ok (.aload_n 0, 1) := by decide +kernel
theorem J_HOrders_lay_d22 : decode J_HOrders_lay.2.1 22 = .ok (.getfield 13, 3) := by decide +kernel
theorem J_HOrders_lay_d25 : decode J_HOrders_lay.2.1 25 = .ok (.iload 6, 2) := by decide +kernel
theorem J_HOrders_lay_d27 : decode J_HOrders_lay.2.1 27 = .ok (.iconst 0, 1) := by decide +kernel
theorem J_HOrders_lay_d28 : decode J_HOrders_lay.2.1 28 = .ok (.iadd, 1) := by decide +kernel
theorem J_HOrders_lay_d29 : decode J_HOrders_lay.2.1 29 = .ok (.iload_n 2, 1) := by decide +kernel
theorem J_HOrders_lay_d30 : decode J_HOrders_lay.2.1 30 = .ok (.iastore, 1) := by decide +kernel
theorem J_HOrders_lay_d31 : decode J_HOrders_lay.2.1 31 = .ok (.aload_n 0, 1) := by decide +kernel
theorem J_HOrders_lay_d32 : decode J_HOrders_lay.2.1 32 = .ok (.getfield 13, 3) := by decide +kernel
theorem J_HOrders_lay_d35 : decode J_HOrders_lay.2.1 35 = .ok (.iload 6, 2) := by decide +kernel
theorem J_HOrders_lay_d37 : decode J_HOrders_lay.2.1 37 = .ok (.iconst 1, 1) := by decide +kernel
theorem J_HOrders_lay_d38 : decode J_HOrders_lay.2.1 38 = .ok (.iadd, 1) := by decide +kernel
theorem J_HOrders_lay_d39 : decode J_HOrders_lay.2.1 39 = .ok (.iload_n 3, 1) := by decide +kernel
theorem J_HOrders_lay_d40 : decode J_HOrders_lay.2.1 40 = .ok (.iastore, 1) := by decide +kernel
theorem J_HOrders_lay_d41 : decode J_HOrders_lay.2.1 41 = .ok (.aload_n 0, 1) := by decide +kernel
theorem J_HOrders_lay_d42 : decode J_HOrders_lay.2.1 42 = .ok (.getfield 13, 3) := by decide +kernel
theorem J_HOrders_lay_d45 : decode J_HOrders_lay.2.1 45 = .ok (.iload 6, 2) := by decide +kernel
theorem J_HOrders_lay_d47 : decode J_HOrders_lay.2.1 47 = .ok (.iconst 2, 1) := by decide +kernel
theorem J_HOrders_lay_d48 : decode J_HOrders_lay.2.1 48 = .ok (.iadd, 1) := by decide +kernel
theorem J_HOrders_lay_d49 : decode J_HOrders_lay.2.1 49 = .ok (.iload 4, 2) := by decide +kernel
theorem J_HOrders_lay_d51 : decode J_HOrders_lay.2.1 51 = .ok (.iastore, 1) := by decide +kernel
theorem J_HOrders_lay_d52 : decode J_HOrders_lay.2.1 52 = .ok (.aload_n 0, 1) := by decide +kernel
theorem J_HOrders_lay_d53 : decode J_HOrders_lay.2.1 53 = .ok (.getfield 13, 3) := by decide +kernel
theorem J_HOrders_lay_d56 : decode J_HOrders_lay.2.1 56 = .ok (.iload 6, 2) := by decide +kernel
theorem J_HOrders_lay_d58 : decode J_HOrders_lay.2.1 58 = .ok (.iconst 3, 1) := by decide +kernel
theorem J_HOrders_lay_d59 : decode J_HOrders_lay.2.1 59 = .ok (.iadd, 1) := by decide +kernel
theorem J_HOrders_lay_d60 : decode J_HOrders_lay.2.1 60 = .ok (.iload 5, 2) := by decide +kernel
theorem J_HOrders_lay_d62 : decode J_HOrders_lay.2.1 62 = .ok (.iastore, 1) := by decide +kernel
theorem J_HOrders_lay_d63 : decode J_HOrders_lay.2.1 63 = .ok (.return_, 1) := by decide +kernel
theorem f_HOrders_lay_ok {L : Nat} {xs : Nat → Int32} {dep : Nat} {w : Bool} {p0 : Int32} {p1 : Int32} {p2 : Int32} {p3 : Int32} {p4 : Int32} {M : im_M} {Q : im_M → Prop} (hM : lw_S w M) (h : ed (f_HOrders_lay p0 p1 p2 p3 p4 M) Q) : ia (tb_G L xs) (dep + 2) J_HOrders_lay (rwV w Q) (0, lv_args 0 [.ref 19, .int p0, .int p1, .int p2, .int p3, .int p4], [], M) := by
  have hS : im_St (tb_G L xs) (dep + 2) J_HOrders_lay (ia (tb_G L xs) (dep + 2) J_HOrders_lay (rwV w Q)) := ia_St
  unfold f_HOrders_lay at h
  have l0 : im_lk (lv_args 0 [.ref 19, .int p0, .int p1, .int p2, .int p3, .int p4]) 0 = some (.ref 19) := rfl
  have l1 : im_lk (lv_args 0 [.ref 19, .int p0, .int p1, .int p2, .int p3, .int p4]) 1 = some (.int p0) := rfl
  have l2 : im_lk (lv_args 0 [.ref 19, .int p0, .int p1, .int p2, .int p3, .int p4]) 2 = some (.int p1) := rfl
  have l3 : im_lk (lv_args 0 [.ref 19, .int p0, .int p1, .int p2, .int p3, .int p4]) 3 = some (.int p2) := rfl
  have l4 : im_lk (lv_args 0 [.ref 19, .int p0, .int p1, .int p2, .int p3, .int p4]) 4 = some (.int p3) := rfl
  have l5 : im_lk (lv_args 0 [.ref 19, .int p0, .int p1, .int p2, .int p3, .int p4]) 5 = some (.int p4) := rfl
  refine iq_iload_n hS 1 J_HOrders_lay_d0 l1 rfl ?_
  refine iq_bipush hS 3 J_HOrders_lay_d1 (v := 14) (by decide +kernel) rfl ?_
  refine iq_imul hS 4 J_HOrders_lay_d3 rfl ?_
  refine iq_istore hS 6 J_HOrders_lay_d4 (by decide) rfl ?_
  refine iq_aload_n hS 7 J_HOrders_lay_d6 (lk_1r l0 (by decide)) rfl ?_
  refine iq_getR hS 10 J_HOrders_lay_d7 lf_5_13 (Or.inr ⟨_, rfl⟩) (ka_19 hM) (ra_19_0 hM) rfl ?_
  refine iq_iload hS 12 J_HOrders_lay_d10 lk_1s rfl ?_
  refine iq_iload hS 14 J_HOrders_lay_d12 lk_1s rfl ?_
  refine iq_bipush hS 16 J_HOrders_lay_d14 (v := 14) (by decide +kernel) rfl ?_
  refine iq_iadd hS 17 J_HOrders_lay_d16 rfl ?_
  refine iq_iconst hS 18 J_HOrders_lay_d17 (v := 0) (by decide +kernel) rfl ?_
  obtain ⟨Q1, hQ1, h⟩ := bd1_ed h
  refine iq_cwV hS 21 J_HOrders_lay_d18 rfl (pr_stat (vs := [_, _, _, _]) lc_5_20 lT_53 rfl rfl (by decide) rfl (Nat.le_of_ble_eq_true rfl) (Nat.le_of_ble_eq_true rfl)) (f_Arrays_fill_ok (dep := dep + 0) hM h) rfl ?_
  intro M1 hM1 h
  replace h := hQ1 _ h
  refine iq_aload_n hS 22 J_HOrders_lay_d21 (lk_1r l0 (by decide)) rfl ?_
  refine iq_getR hS 25 J_HOrders_lay_d22 lf_5_13 (Or.inr ⟨_, rfl⟩) (ka_19 hM1) (ra_19_0 hM1) rfl ?_
  refine iq_iload hS 27 J_HOrders_lay_d25 lk_1s rfl ?_
  refine iq_iconst hS 28 J_HOrders_lay_d27 (v := 0) (by decide +kernel) rfl ?_
  refine iq_iadd hS 29 J_HOrders_lay_d28 rfl ?_
  refine iq_iload_n hS 30 J_HOrders_lay_d29 (lk_1i l2 (by decide)) rfl ?_
  obtain ⟨g30, h⟩ := ed_gd h
  refine iq_iastore hS 31 J_HOrders_lay_d30 ⟨(ka_21 hM1).1, (ka_21 hM1).2, g30.1, ix_lt (kl_21 hM1) g30.2⟩ rfl ?_
  refine iq_aload_n hS 32 J_HOrders_lay_d31 (lk_1r l0 (by decide)) rfl ?_
  refine iq_getR hS 35 J_HOrders_lay_d32 lf_5_13 (Or.inr ⟨_, rfl⟩) (ka_19 (lw_sI hM1)) (ra_19_0 (lw_sI hM1)) rfl ?_
  refine iq_iload hS 37 J_HOrders_lay_d35 lk_1s rfl ?_
  refine iq_iconst hS 38 J_HOrders_lay_d37 (v := 1) (by decide +kernel) rfl ?_
  refine iq_iadd hS 39 J_HOrders_lay_d38 rfl ?_
  refine iq_iload_n hS 40 J_HOrders_lay_d39 (lk_1i l3 (by decide)) rfl ?_
  obtain ⟨g40, h⟩ := ed_gd h
  refine iq_iastore hS 41 J_HOrders_lay_d40 ⟨(ka_21 (lw_sI hM1)).1, (ka_21 (lw_sI hM1)).2, g40.1, ix_lt (kl_21 (lw_sI hM1)) g40.2⟩ rfl ?_
  refine iq_aload_n hS 42 J_HOrders_lay_d41 (lk_1r l0 (by decide)) rfl ?_
  refine iq_getR hS 45 J_HOrders_lay_d42 lf_5_13 (Or.inr ⟨_, rfl⟩) (ka_19 (lw_sI (lw_sI hM1))) (ra_19_0 (lw_sI (lw_sI hM1))) rfl ?_
  refine iq_iload hS 47 J_HOrders_lay_d45 lk_1s rfl ?_
  refine iq_iconst hS 48 J_HOrders_lay_d47 (v := 2) (by decide +kernel) rfl ?_
  refine iq_iadd hS 49 J_HOrders_lay_d48 rfl ?_
  refine iq_iload hS 51 J_HOrders_lay_d49 (lk_1i l4 (by decide)) rfl ?_
  obtain ⟨g51, h⟩ := ed_gd h
  refine iq_iastore hS 52 J_HOrders_lay_d51 ⟨(ka_21 (lw_sI (lw_sI hM1))).1, (ka_21 (lw_sI (lw_sI hM1))).2, g51.1, ix_lt (kl_21 (lw_sI (lw_sI hM1))) g51.2⟩ rfl ?_
  refine iq_aload_n hS 53 J_HOrders_lay_d52 (lk_1r l0 (by decide)) rfl ?_
  refine iq_getR hS 56 J_HOrders_lay_d53 lf_5_13 (Or.inr ⟨_, rfl⟩) (ka_19 (lw_sI (lw_sI (lw_sI hM1)))) (ra_19_0 (lw_sI (lw_sI (lw_sI hM1)))) rfl ?_
  refine iq_iload hS 58 J_HOrders_lay_d56 lk_1s rfl ?_
  refine iq_iconst hS 59 J_HOrders_lay_d58 (v := 3) (by decide +kernel) rfl ?_
  refine iq_iadd hS 60 J_HOrders_lay_d59 rfl ?_
  refine iq_iload hS 62 J_HOrders_lay_d60 (lk_1i l5 (by decide)) rfl ?_
  obtain ⟨g62, h⟩ := ed_gd h
  refine iq_iastore hS 63 J_HOrders_lay_d62 ⟨(ka_21 (lw_sI (lw_sI (lw_sI hM1)))).1, (ka_21 (lw_sI (lw_sI (lw_sI hM1)))).2, g62.1, ix_lt (kl_21 (lw_sI (lw_sI (lw_sI hM1)))) g62.2⟩ rfl ?_
  exact iq_ret J_HOrders_lay_d63 rfl ⟨rfl, (lw_sI (lw_sI (lw_sI (lw_sI hM1)))), ed_some h⟩
theorem f_HOrders_lay_fr {p0 : Int32} {p1 : Int32} {p2 : Int32} {p3 : Int32} {p4 : Int32} {M : im_M} {r : im_M} (h : f_HOrders_lay p0 p1 p2 p3 p4 M = some r) : fr 2097152 [] M r := by
  replace h : ed (f_HOrders_lay p0 p1 p2 p3 p4 M) (fun x => x = r) := ⟨r, h, rfl⟩
  unfold f_HOrders_lay at h
  obtain ⟨Q1, hQ1, h⟩ := bd1_ed h
  obtain ⟨M1, e1, h⟩ := h
  replace h := hQ1 _ h
  obtain ⟨g30, h⟩ := ed_gd h
  obtain ⟨g40, h⟩ := ed_gd h
  obtain ⟨g51, h⟩ := ed_gd h
  obtain ⟨g62, h⟩ := ed_gd h
  exact fr_retV h (fr_I (by decide) (fr_I (by decide) (fr_I (by decide) (fr_I (by decide) (fr_tr (fr_mono (by decide) (by decide +kernel) (f_Arrays_fill_fr e1)) fr_refl)))))
noncomputable def f_HOrders_number (p0 : Int32) (p1 : Int32) (p2 : Int32) (p3 : Int32) (M : im_M) : Option (im_M) := gd (inb ((p0 * 14) + 5) 1960) <| gd (inb ((p0 * 14) + 6) 1960) <| gd (inb ((p0 * 14) + 7) 1960) <| some (im_setI (im_setI (im_setI M 21 (Int32.toNatClampNeg ((p0 * 14) + 5)) p1) 21 (Int32.toNatClampNeg ((p0 * 14) + 6)) p2) 21 (Int32.toNatClampNeg ((p0 * 14) + 7)) p3)
theorem J_HOrders_number_d0 : decode J_HOrders_number.2.1 0 = .ok (.aload_n 0, 1) := by decide +kernel
theorem J_HOrders_number_d1 : decode J_HOrders_number.2.1 1 = .ok (.getfield 13, 3) := by decide +kernel
theorem J_HOrders_number_d4 : decode J_HOrders_number.2.1 4 = .ok (.iload_n 1, 1) := by decide +kernel
theorem J_HOrders_number_d5 : decode J_HOrders_number.2.1 5 = .ok (.bipush 14, 2) := by decide +kernel
theorem J_HOrders_number_d7 : decode J_HOrders_number.2.1 7 = .ok (.imul, 1) := by decide +kernel
theorem J_HOrders_number_d8 : decode J_HOrders_number.2.1 8 = .ok (.iconst 5, 1) := by decide +kernel
theorem J_HOrders_number_d9 : decode J_HOrders_number.2.1 9 = .ok (.iadd, 1) := by decide +kernel
theorem J_HOrders_number_d10 : decode J_HOrders_number.2.1 10 = .ok (.iload_n 2, 1) := by decide +kernel
theorem J_HOrders_number_d11 : decode J_HOrders_number.2.1 11 = .ok (.iastore, 1) := by decide +kernel
theorem J_HOrders_number_d12 : decode J_HOrders_number.2.1 12 = .ok (.aload_n 0, 1) := by decide +kernel
theorem J_HOrders_number_d13 : decode J_HOrders_number.2.1 13 = .ok (.getfield 13, 3) := by decide +kernel
theorem J_HOrders_number_d16 : decode J_HOrders_number.2.1 16 = .ok (.iload_n 1, 1) := by decide +kernel
theorem J_HOrders_number_d17 : decode J_HOrders_number.2.1 17 = .ok (.bipush 14, 2) := by decide +kernel
theorem J_HOrders_number_d19 : decode J_HOrders_number.2.1 19 = .ok (.imul, 1) := by decide +kernel
theorem J_HOrders_number_d20 : decode J_HOrders_number.2.1 20 = .ok (.bipush 6, 2) := by decide +kernel
theorem J_HOrders_number_d22 : decode J_HOrders_number.2.1 22 = .ok (.iadd, 1) := by decide +kernel
theorem J_HOrders_number_d23 : decode J_HOrders_number.2.1 23 = .ok (.iload_n 3, 1) := by decide +kernel
theorem J_HOrders_number_d24 : decode J_HOrders_number.2.1 24 = .ok (.iastore, 1) := by decide +kernel
theorem J_HOrders_number_d25 : decode J_HOrders_number.2.1 25 = .ok (.aload_n 0, 1) := by decide +kernel
theorem J_HOrders_number_d26 : decode J_HOrders_number.2.1 26 = .ok (.getfield 13, 3) := by decide +kernel
theorem J_HOrders_number_d29 : decode J_HOrders_number.2.1 29 = .ok (.iload_n 1, 1) := by decide +kernel
theorem J_HOrders_number_d30 : decode J_HOrders_number.2.1 30 = .ok (.bipush 14, 2) := by decide +kernel
theorem J_HOrders_number_d32 : decode J_HOrders_number.2.1 32 = .ok (.imul, 1) := by decide +kernel
theorem J_HOrders_number_d33 : decode J_HOrders_number.2.1 33 = .ok (.bipush 7, 2) := by decide +kernel
theorem J_HOrders_number_d35 : decode J_HOrders_number.2.1 35 = .ok (.iadd, 1) := by decide +kernel
theorem J_HOrders_number_d36 : decode J_HOrders_number.2.1 36 = .ok (.iload 4, 2) := by decide +kernel
theorem J_HOrders_number_d38 : decode J_HOrders_number.2.1 38 = .ok (.iastore, 1) := by decide +kernel
theorem J_HOrders_number_d39 : decode J_HOrders_number.2.1 39 = .ok (.return_, 1) := by decide +kernel
theorem f_HOrders_number_ok {L : Nat} {xs : Nat → Int32} {dep : Nat} {w : Bool} {p0 : Int32} {p1 : Int32} {p2 : Int32} {p3 : Int32} {M : im_M} {Q : im_M → Prop} (hM : lw_S w M) (h : ed (f_HOrders_number p0 p1 p2 p3 M) Q) : ia (tb_G L xs) dep J_HOrders_number (rwV w Q) (0, lv_args 0 [.ref 19, .int p0, .int p1, .int p2, .int p3], [], M) := by
  have hS : im_St (tb_G L xs) dep J_HOrders_number (ia (tb_G L xs) dep J_HOrders_number (rwV w Q)) := ia_St
  unfold f_HOrders_number at h
  have l0 : im_lk (lv_args 0 [.ref 19, .int p0, .int p1, .int p2, .int p3]) 0 = some (.ref 19) := rfl
  have l1 : im_lk (lv_args 0 [.ref 19, .int p0, .int p1, .int p2, .int p3]) 1 = some (.int p0) := rfl
  have l2 : im_lk (lv_args 0 [.ref 19, .int p0, .int p1, .int p2, .int p3]) 2 = some (.int p1) := rfl
  have l3 : im_lk (lv_args 0 [.ref 19, .int p0, .int p1, .int p2, .int p3]) 3 = some (.int p2) := rfl
  have l4 : im_lk (lv_args 0 [.ref 19, .int p0, .int p1, .int p2, .int p3]) 4 = some (.int p3) := rfl
  refine iq_aload_n hS 1 J_HOrders_number_d0 l0 rfl ?_
  refine iq_getR hS 4 J_HOrders_number_d1 lf_5_13 (Or.inr ⟨_, rfl⟩) (ka_19 hM) (ra_19_0 hM) rfl ?_
  refine iq_iload_n hS 5 J_HOrders_number_d4 l1 rfl ?_
  refine iq_bipush hS 7 J_HOrders_number_d5 (v := 14) (by decide +kernel) rfl ?_
  refine iq_imul hS 8 J_HOrders_number_d7 rfl ?_
  refine iq_iconst hS 9 J_HOrders_number_d8 (v := 5) (by decide +kernel) rfl ?_
  refine iq_iadd hS 10 J_HOrders_number_d9 rfl ?_
  refine iq_iload_n hS 11 J_HOrders_number_d10 l2 rfl ?_
  obtain ⟨g11, h⟩ := ed_gd h
  refine iq_iastore hS 12 J_HOrders_number_d11 ⟨(ka_21 hM).1, (ka_21 hM).2, g11.1, ix_lt (kl_21 hM) g11.2⟩ rfl ?_
  refine iq_aload_n hS 13 J_HOrders_number_d12 l0 rfl ?_
  refine iq_getR hS 16 J_HOrders_number_d13 lf_5_13 (Or.inr ⟨_, rfl⟩) (ka_19 (lw_sI hM)) (ra_19_0 (lw_sI hM)) rfl ?_
  refine iq_iload_n hS 17 J_HOrders_number_d16 l1 rfl ?_
  refine iq_bipush hS 19 J_HOrders_number_d17 (v := 14) (by decide +kernel) rfl ?_
  refine iq_imul hS 20 J_HOrders_number_d19 rfl ?_
  refine iq_bipush hS 22 J_HOrders_number_d20 (v := 6) (by decide +kernel) rfl ?_
  refine iq_iadd hS 23 J_HOrders_number_d22 rfl ?_
  refine iq_iload_n hS 24 J_HOrders_number_d23 l3 rfl ?_
  obtain ⟨g24, h⟩ := ed_gd h
  refine iq_iastore hS 25 J_HOrders_number_d24 ⟨(ka_21 (lw_sI hM)).1, (ka_21 (lw_sI hM)).2, g24.1, ix_lt (kl_21 (lw_sI hM)) g24.2⟩ rfl ?_
  refine iq_aload_n hS 26 J_HOrders_number_d25 l0 rfl ?_
  refine iq_getR hS 29 J_HOrders_number_d26 lf_5_13 (Or.inr ⟨_, rfl⟩) (ka_19 (lw_sI (lw_sI hM))) (ra_19_0 (lw_sI (lw_sI hM))) rfl ?_
  refine iq_iload_n hS 30 J_HOrders_number_d29 l1 rfl ?_
  refine iq_bipush hS 32 J_HOrders_number_d30 (v := 14) (by decide +kernel) rfl ?_
  refine iq_imul hS 33 J_HOrders_number_d32 rfl ?_
  refine iq_bipush hS 35 J_HOrders_number_d33 (v := 7) (by decide +kernel) rfl ?_
  refine iq_iadd hS 36 J_HOrders_number_d35 rfl ?_
  refine iq_iload hS 38 J_HOrders_number_d36 l4 rfl ?_
  obtain ⟨g38, h⟩ := ed_gd h
  refine iq_iastore hS 39 J_HOrders_number_d38 ⟨(ka_21 (lw_sI (lw_sI hM))).1, (ka_21 (lw_sI (lw_sI hM))).2, g38.1, ix_lt (kl_21 (lw_sI (lw_sI hM))) g38.2⟩ rfl ?_
  exact iq_ret J_HOrders_number_d39 rfl ⟨rfl, (lw_sI (lw_sI (lw_sI hM))), ed_some h⟩
theorem f_HOrders_number_fr {p0 : Int32} {p1 : Int32} {p2 : Int32} {p3 : Int32} {M : im_M} {r : im_M} (h : f_HOrders_number p0 p1 p2 p3 M = some r) : fr 2097152 [] M r := by
  replace h : ed (f_HOrders_number p0 p1 p2 p3 M) (fun x => x = r) := ⟨r, h, rfl⟩
  unfold f_HOrders_number at h
  obtain ⟨g11, h⟩ := ed_gd h
  obtain ⟨g24, h⟩ := ed_gd h
  obtain ⟨g38, h⟩ := ed_gd h
  exact fr_retV h (fr_I (by decide) (fr_I (by decide) (fr_I (by decide) fr_refl)))
noncomputable def f_HOrders_slice (p0 : Int32) (p1 : Int32) (p2 : Int32) (p3 : Int32) (M : im_M) : Option (im_M) := gd (inb ((p0 * 14) + 10) 1960) <| gd (inb ((p0 * 14) + 9) 1960) <| gd (inb ((p0 * 14) + 8) 1960) <| some (im_setI (im_setI (im_setI M 21 (Int32.toNatClampNeg ((p0 * 14) + 10)) p1) 21 (Int32.toNatClampNeg ((p0 * 14) + 9)) p2) 21 (Int32.toNatClampNeg ((p0 * 14) + 8)) p3)
theorem J_HOrders_slice_d0 : decode J_HOrders_slice.2.1 0 = .ok (.aload_n 0, 1) := by decide +kernel
theorem J_HOrders_slice_d1 : decode J_HOrders_slice.2.1 1 = .ok (.getfield 13, 3) := by decide +kernel
theorem J_HOrders_slice_d4 : decode J_HOrders_slice.2.1 4 = .ok (.iload_n 1, 1) := by decide +kernel
theorem J_HOrders_slice_d5 : decode J_HOrders_slice.2.1 5 = .ok (.bipush 14, 2) := by decide +kernel
theorem J_HOrders_slice_d7 : decode J_HOrders_slice.2.1 7 = .ok (.imul, 1) := by decide +kernel
theorem J_HOrders_slice_d8 : decode J_HOrders_slice.2.1 8 = .ok (.bipush 10, 2) := by decide +kernel
theorem J_HOrders_slice_d10 : decode J_HOrders_slice.2.1 10 = .ok (.iadd, 1) := by decide +kernel
theorem J_HOrders_slice_d11 : decode J_HOrders_slice.2.1 11 = .ok (.iload_n 2, 1) := by decide +kernel
theorem J_HOrders_slice_d12 : decode J_HOrders_slice.2.1 12 = .ok (.iastore, 1) := by decide +kernel
theorem J_HOrders_slice_d13 : decode J_HOrders_slice.2.1 13 = .ok (.aload_n 0, 1) := by decide +kernel
theorem J_HOrders_slice_d14 : decode J_HOrders_slice.2.1 14 = .ok (.getfield 13, 3) := by decide +kernel
theorem J_HOrders_slice_d17 : decode J_HOrders_slice.2.1 17 = .ok (.iload_n 1, 1) := by decide +kernel
theorem J_HOrders_slice_d18 : decode J_HOrders_slice.2.1 18 = .ok (.bipush 14, 2) := by decide +kernel
theorem J_HOrders_slice_d20 : decode J_HOrders_slice.2.1 20 = .ok (.imul, 1) := by decide +kernel
theorem J_HOrders_slice_d21 : decode J_HOrders_slice.2.1 21 = .ok (.bipush 9, 2) := by decide +kernel
theorem J_HOrders_slice_d23 : decode J_HOrders_slice.2.1 23 = .ok (.iadd, 1) := by decide +kernel
theorem J_HOrders_slice_d24 : decode J_HOrders_slice.2.1 24 = .ok (.iload_n 3, 1) := by decide +kernel
theorem J_HOrders_slice_d25 : decode J_HOrders_slice.2.1 25 = .ok (.iastore, 1) := by decide +kernel
theorem J_HOrders_slice_d26 : decode J_HOrders_slice.2.1 26 = .ok (.aload_n 0, 1) := by decide +kernel
theorem J_HOrders_slice_d27 : decode J_HOrders_slice.2.1 27 = .ok (.getfield 13, 3) := by decide +kernel
theorem J_HOrders_slice_d30 : decode J_HOrders_slice.2.1 30 = .ok (.iload_n 1, 1) := by decide +kernel
theorem J_HOrders_slice_d31 : decode J_HOrders_slice.2.1 31 = .ok (.bipush 14, 2) := by decide +kernel
theorem J_HOrders_slice_d33 : decode J_HOrders_slice.2.1 33 = .ok (.imul, 1) := by decide +kernel
theorem J_HOrders_slice_d34 : decode J_HOrders_slice.2.1 34 = .ok (.bipush 8, 2) := by decide +kernel
theorem J_HOrders_slice_d36 : decode J_HOrders_slice.2.1 36 = .ok (.iadd, 1) := by decide +kernel
theorem J_HOrders_slice_d37 : decode J_HOrders_slice.2.1 37 = .ok (.iload 4, 2) := by decide +kernel
theorem J_HOrders_slice_d39 : decode J_HOrders_slice.2.1 39 = .ok (.iastore, 1) := by decide +kernel
theorem J_HOrders_slice_d40 : decode J_HOrders_slice.2.1 40 = .ok (.return_, 1) := by decide +kernel
theorem f_HOrders_slice_ok {L : Nat} {xs : Nat → Int32} {dep : Nat} {w : Bool} {p0 : Int32} {p1 : Int32} {p2 : Int32} {p3 : Int32} {M : im_M} {Q : im_M → Prop} (hM : lw_S w M) (h : ed (f_HOrders_slice p0 p1 p2 p3 M) Q) : ia (tb_G L xs) dep J_HOrders_slice (rwV w Q) (0, lv_args 0 [.ref 19, .int p0, .int p1, .int p2, .int p3], [], M) := by
  have hS : im_St (tb_G L xs) dep J_HOrders_slice (ia (tb_G L xs) dep J_HOrders_slice (rwV w Q)) := ia_St
  unfold f_HOrders_slice at h
  have l0 : im_lk (lv_args 0 [.ref 19, .int p0, .int p1, .int p2, .int p3]) 0 = some (.ref 19) := rfl
  have l1 : im_lk (lv_args 0 [.ref 19, .int p0, .int p1, .int p2, .int p3]) 1 = some (.int p0) := rfl
  have l2 : im_lk (lv_args 0 [.ref 19, .int p0, .int p1, .int p2, .int p3]) 2 = some (.int p1) := rfl
  have l3 : im_lk (lv_args 0 [.ref 19, .int p0, .int p1, .int p2, .int p3]) 3 = some (.int p2) := rfl
  have l4 : im_lk (lv_args 0 [.ref 19, .int p0, .int p1, .int p2, .int p3]) 4 = some (.int p3) := rfl
  refine iq_aload_n hS 1 J_HOrders_slice_d0 l0 rfl ?_
  refine iq_getR hS 4 J_HOrders_slice_d1 lf_5_13 (Or.inr ⟨_, rfl⟩) (ka_19 hM) (ra_19_0 hM) rfl ?_
  refine iq_iload_n hS 5 J_HOrders_slice_d4 l1 rfl ?_
  refine iq_bipush hS 7 J_HOrders_slice_d5 (v := 14) (by decide +kernel) rfl ?_
  refine iq_imul hS 8 J_HOrders_slice_d7 rfl ?_
  refine iq_bipush hS 10 J_HOrders_slice_d8 (v := 10) (by decide +kernel) rfl ?_
  refine iq_iadd hS 11 J_HOrders_slice_d10 rfl ?_
  refine iq_iload_n hS 12 J_HOrders_slice_d11 l2 rfl ?_
  obtain ⟨g12, h⟩ := ed_gd h
  refine iq_iastore hS 13 J_HOrders_slice_d12 ⟨(ka_21 hM).1, (ka_21 hM).2, g12.1, ix_lt (kl_21 hM) g12.2⟩ rfl ?_
  refine iq_aload_n hS 14 J_HOrders_slice_d13 l0 rfl ?_
  refine iq_getR hS 17 J_HOrders_slice_d14 lf_5_13 (Or.inr ⟨_, rfl⟩) (ka_19 (lw_sI hM)) (ra_19_0 (lw_sI hM)) rfl ?_
  refine iq_iload_n hS 18 J_HOrders_slice_d17 l1 rfl ?_
  refine iq_bipush hS 20 J_HOrders_slice_d18 (v := 14) (by decide +kernel) rfl ?_
  refine iq_imul hS 21 J_HOrders_slice_d20 rfl ?_
  refine iq_bipush hS 23 J_HOrders_slice_d21 (v := 9) (by decide +kernel) rfl ?_
  refine iq_iadd hS 24 J_HOrders_slice_d23 rfl ?_
  refine iq_iload_n hS 25 J_HOrders_slice_d24 l3 rfl ?_
  obtain ⟨g25, h⟩ := ed_gd h
  refine iq_iastore hS 26 J_HOrders_slice_d25 ⟨(ka_21 (lw_sI hM)).1, (ka_21 (lw_sI hM)).2, g25.1, ix_lt (kl_21 (lw_sI hM)) g25.2⟩ rfl ?_
  refine iq_aload_n hS 27 J_HOrders_slice_d26 l0 rfl ?_
  refine iq_getR hS 30 J_HOrders_slice_d27 lf_5_13 (Or.inr ⟨_, rfl⟩) (ka_19 (lw_sI (lw_sI hM))) (ra_19_0 (lw_sI (lw_sI hM))) rfl ?_
  refine iq_iload_n hS 31 J_HOrders_slice_d30 l1 rfl ?_
  refine iq_bipush hS 33 J_HOrders_slice_d31 (v := 14) (by decide +kernel) rfl ?_
  refine iq_imul hS 34 J_HOrders_slice_d33 rfl ?_
  refine iq_bipush hS 36 J_HOrders_slice_d34 (v := 8) (by decide +kernel) rfl ?_
  refine iq_iadd hS 37 J_HOrders_slice_d36 rfl ?_
  refine iq_iload hS 39 J_HOrders_slice_d37 l4 rfl ?_
  obtain ⟨g39, h⟩ := ed_gd h
  refine iq_iastore hS 40 J_HOrders_slice_d39 ⟨(ka_21 (lw_sI (lw_sI hM))).1, (ka_21 (lw_sI (lw_sI hM))).2, g39.1, ix_lt (kl_21 (lw_sI (lw_sI hM))) g39.2⟩ rfl ?_
  exact iq_ret J_HOrders_slice_d40 rfl ⟨rfl, (lw_sI (lw_sI (lw_sI hM))), ed_some h⟩
theorem f_HOrders_slice_fr {p0 : Int32} {p1 : Int32} {p2 : Int32} {p3 : Int32} {M : im_M} {r : im_M} (h : f_HOrders_slice p0 p1 p2 p3 M = some r) : fr 2097152 [] M r := by
  replace h : ed (f_HOrders_slice p0 p1 p2 p3 M) (fun x => x = r) := ⟨r, h, rfl⟩
  unfold f_HOrders_slice at h
  obtain ⟨g12, h⟩ := ed_gd h
  obtain ⟨g25, h⟩ := ed_gd h
  obtain ⟨g39, h⟩ := ed_gd h
  exact fr_retV h (fr_I (by decide) (fr_I (by decide) (fr_I (by decide) fr_refl)))
noncomputable def f_HOrders_move (p0 : Int32) (p1 : Int32) (p2 : Int32) (M : im_M) : Option (im_M) := gd (inb ((p0 * 14) + 3) 1960) <| gd (inb ((p0 * 14) + 1) 1960) <| gd (inb ((p0 * 14) + 1) 1960) <| gd (inb ((p0 * 14) + 2) 1960) <| gd (inb ((p0 * 14) + 2) 1960) <| some (im_setI (im_setI M 21 (Int32.toNatClampNeg ((p0 * 14) + 1)) ((im_i M 21 (Int32.toNatClampNeg ((p0 * 14) + 1))) + ((if ¬ (im_i M 21 (Int32.toNatClampNeg ((p0 * 14) + 3))) = 0 then (if ¬ (im_i M 21 (Int32.toNatClampNeg ((p0 * 14) + 3))) = 1 then (if ¬ (im_i M 21 (Int32.toNatClampNeg ((p0 * 14) + 3))) = 2 then p2 else (-p1)) else (-p2)) else p1) : Int32))) 21 (Int32.toNatClampNeg ((p0 * 14) + 2)) ((im_i (im_setI M 21 (Int32.toNatClampNeg ((p0 * 14) + 1)) ((im_i M 21 (Int32.toNatClampNeg ((p0 * 14) + 1))) + ((if ¬ (im_i M 21 (Int32.toNatClampNeg ((p0 * 14) + 3))) = 0 then (if ¬ (im_i M 21 (Int32.toNatClampNeg ((p0 * 14) + 3))) = 1 then (if ¬ (im_i M 21 (Int32.toNatClampNeg ((p0 * 14) + 3))) = 2 then p2 else (-p1)) else (-p2)) else p1) : Int32))) 21 (Int32.toNatClampNeg ((p0 * 14) + 2))) + ((if ¬ (im_i M 21 (Int32.toNatClampNeg ((p0 * 14) + 3))) = 0 then (if ¬ (im_i M 21 (Int32.toNatClampNeg ((p0 * 14) + 3))) = 1 then (if ¬ (im_i M 21 (Int32.toNatClampNeg ((p0 * 14) + 3))) = 2 then (-p1) else (-p2)) else p1) else p2) : Int32)))
theorem J_HOrders_move_d0 : decode J_HOrders_move.2.1 0 = .ok (.iload_n 1, 1) := by decide +kernel
theorem J_HOrders_move_d1 : decode J_HOrders_move.2.1 1 = .ok (.bipush 14, 2) := by decide +kernel
theorem J_HOrders_move_d3 : decode J_HOrders_move.2.1 3 = .ok (.imul, 1) := by decide +kernel
theorem J_HOrders_move_d4 : decode J_HOrders_move.2.1 4 = .ok (.istore 4, 2) := by decide +kernel
theorem J_HOrders_move_d6 : decode J_HOrders_move.2.1 6 = .ok (.aload_n 0, 1) := by decide +kernel
theorem J_HOrders_move_d7 : decode J_HOrders_move.2.1 7 = .ok (.getfield 13, 3) := by decide +kernel
theorem J_HOrders_move_d10 : decode J_HOrders_move.2.1 10 = .ok (.iload 4, 2) := by decide +kernel
theorem J_HOrders_move_d12 : decode J_HOrders_move.2.1 12 = .ok (.iconst 3, 1) := by decide +kernel
theorem J_HOrders_move_d13 : decode J_HOrders_move.2.1 13 = .ok (.iadd, 1) := by decide +kernel
theorem J_HOrders_move_d14 : decode J_HOrders_move.2.1 14 = .ok (.iaload, 1) := by decide +kernel
theorem J_HOrders_move_d15 : decode J_HOrders_move.2.1 15 = .ok (.istore 5, 2) := by decide +kernel
theorem J_HOrders_move_d17 : decode J_HOrders_move.2.1 17 = .ok (.aload_n 0, 1) := by decide +kernel
theorem J_HOrders_move_d18 : decode J_HOrders_move.2.1 18 = .ok (.getfield 13, 3) := by decide +kernel
theorem J_HOrders_move_d21 : decode J_HOrders_move.2.1 21 = .ok (.iload 4, 2) := by decide +kernel
theorem J_HOrders_move_d23 : decode J_HOrders_move.2.1 23 = .ok (.iconst 1, 1) := by decide +kernel
theorem J_HOrders_move_d24 : decode J_HOrders_move.2.1 24 = .ok (.iadd, 1) := by decide +kernel
theorem J_HOrders_move_d25 : decode J_HOrders_move.2.1 25 = .ok (.dup2, 1) := by decide +kernel
theorem J_HOrders_move_d26 : decode J_HOrders_move.2.1 26 = .ok (.iaload, 1) := by decide +kernel
theorem J_HOrders_move_d27 : decode J_HOrders_move.2.1 27 = .ok (.iload 5, 2) := by decide +kernel
theorem J_HOrders_move_d29 : decode J_HOrders_move.2.1 29 = .ok (.ifCond .ne 7, 3) := by decide +kernel
theorem J_HOrders_move_d32 : decode J_HOrders_move.2.1 32 = .ok (.iload_n 2, 1) := by decide +kernel
theorem J_HOrders_move_d33 : decode J_HOrders_move.2.1 33 = .ok (.goto 26, 3) := by decide +kernel
theorem J_HOrders_move_d36 : decode J_HOrders_move.2.1 36 = .ok (.iload 5, 2) := by decide +kernel
theorem J_HOrders_move_d38 : decode J_HOrders_move.2.1 38 = .ok (.iconst 1, 1) := by decide +kernel
theorem J_HOrders_move_d39 : decode J_HOrders_move.2.1 39 = .ok (.if_icmp .ne 8, 3) := by decide +kernel
theorem J_HOrders_move_d42 : decode J_HOrders_move.2.1 42 = .ok (.iload_n 3, 1) := by decide +kernel
theorem J_HOrders_move_d43 : decode J_HOrders_move.2.1 43 = .ok (.ineg, 1) := by decide +kernel
theorem J_HOrders_move_d44 : decode J_HOrders_move.2.1 44 = .ok (.goto 15, 3) := by decide +kernel
theorem J_HOrders_move_d47 : decode J_HOrders_move.2.1 47 = .ok (.iload 5, 2) := by decide +kernel
theorem J_HOrders_move_d49 : decode J_HOrders_move.2.1 49 = .ok (.iconst 2, 1) := by decide +kernel
theorem J_HOrders_move_d50 : decode J_HOrders_move.2.1 50 = .ok (.if_icmp .ne 8, 3) := by decide +kernel
theorem J_HOrders_move_d53 : decode J_HOrders_move.2.1 53 = .ok (.iload_n 2, 1) := by decide +kernel
theorem J_HOrders_move_d54 : decode J_HOrders_move.2.1 54 = .ok (.ineg, 1) := by decide +kernel
theorem J_HOrders_move_d55 : decode J_HOrders_move.2.1 55 = .ok (.goto 4, 3) := by decide +kernel
theorem J_HOrders_move_d58 : decode J_HOrders_move.2.1 58 = .ok (.iload_n 3, 1) := by decide +kernel
theorem J_HOrders_move_d59 : decode J_HOrders_move.2.1 59 = .ok (.iadd, 1) := by decide +kernel
theorem J_HOrders_move_d60 : decode J_HOrders_move.2.1 60 = .ok (.iastore, 1) := by decide +kernel
theorem J_HOrders_move_d61 : decode J_HOrders_move.2.1 61 = .ok (.aload_n 0, 1) := by decide +kernel
theorem J_HOrders_move_d62 : decode J_HOrders_move.2.1 62 = .ok (.getfield 13, 3) := by decide +kernel
theorem J_HOrders_move_d65 : decode J_HOrders_move.2.1 65 = .ok (.iload 4, 2) := by decide +kernel
theorem J_HOrders_move_d67 : decode J_HOrders_move.2.1 67 = .ok (.iconst 2, 1) := by decide +kernel
theorem J_HOrders_move_d68 : decode J_HOrders_move.2.1 68 = .ok (.iadd, 1) := by decide +kernel
theorem J_HOrders_move_d69 : decode J_HOrders_move.2.1 69 = .ok (.dup2, 1) := by decide +kernel
theorem J_HOrders_move_d70 : decode J_HOrders_move.2.1 70 = .ok (.iaload, 1) := by decide +kernel
theorem J_HOrders_move_d71 : decode J_HOrders_move.2.1 71 = .ok (.iload 5, 2) := by decide +kernel
theorem J_HOrders_move_d73 : decode J_HOrders_move.2.1 73 = .ok (.ifCond .ne 7, 3) := by decide +kernel
theorem J_HOrders_move_d76 : decode J_HOrders_move.2.1 76 = .ok (.iload_n 3, 1) := by decide +kernel
theorem J_HOrders_move_d77 : decode J_HOrders_move.2.1 77 = .ok (.goto 26, 3) := by decide +kernel
theorem J_HOrders_move_d80 : decode J_HOrders_move.2.1 80 = .ok (.iload 5, 2) := by decide +kernel
theorem J_HOrders_move_d82 : decode J_HOrders_move.2.1 82 = .ok (.iconst 1, 1) := by decide +kernel
theorem J_HOrders_move_d83 : decode J_HOrders_move.2.1 83 = .ok (.if_icmp .ne 7, 3) := by decide +kernel
theorem J_HOrders_move_d86 : decode J_HOrders_move.2.1 86 = .ok (.iload_n 2, 1) := by decide +kernel
theorem J_HOrders_move_d87 : decode J_HOrders_move.2.1 87 = .ok (.goto 16, 3) := by decide +kernel
theorem J_HOrders_move_d90 : decode J_HOrders_move.2.1 90 = .ok (.iload 5, 2) := by decide +kernel
theorem J_HOrders_move_d92 : decode J_HOrders_move.2.1 92 = .ok (.iconst 2, 1) := by decide +kernel
theorem J_HOrders_move_d93 : decode J_HOrders_move.2.1 93 = .ok (.if_icmp .ne 8, 3) := by decide +kernel
theorem J_HOrders_move_d96 : decode J_HOrders_move.2.1 96 = .ok (.iload_n 3, 1) := by decide +kernel
theorem J_HOrders_move_d97 : decode J_HOrders_move.2.1 97 = .ok (.ineg, 1) := by decide +kernel
theorem J_HOrders_move_d98 : decode J_HOrders_move.2.1 98 = .ok (.goto 5, 3) := by decide +kernel
theorem J_HOrders_move_d101 : decode J_HOrders_move.2.1 101 = .ok (.iload_n 2, 1) := by decide +kernel
theorem J_HOrders_move_d102 : decode J_HOrders_move.2.1 102 = .ok (.ineg, 1) := by decide +kernel
theorem J_HOrders_move_d103 : decode J_HOrders_move.2.1 103 = .ok (.iadd, 1) := by decide +kernel
theorem J_HOrders_move_d104 : decode J_HOrders_move.2.1 104 = .ok (.iastore, 1) := by decide +kernel
theorem J_HOrders_move_d105 : decode J_HOrders_move.2.1 105 = .ok (.return_, 1) := by decide +kernel
theorem f_HOrders_move_ok {L : Nat} {xs : Nat → Int32} {dep : Nat} {w : Bool} {p0 : Int32} {p1 : Int32} {p2 : Int32} {M : im_M} {Q : im_M → Prop} (hM : lw_S w M) (h : ed (f_HOrders_move p0 p1 p2 M) Q) : ia (tb_G L xs) dep J_HOrders_move (rwV w Q) (0, lv_args 0 [.ref 19, .int p0, .int p1, .int p2], [], M) := by
  have hS : im_St (tb_G L xs) dep J_HOrders_move (ia (tb_G L xs) dep J_HOrders_move (rwV w Q)) := ia_St
  unfold f_HOrders_move at h
  have l0 : im_lk (lv_args 0 [.ref 19, .int p0, .int p1, .int p2]) 0 = some (.ref 19) := rfl
  have l1 : im_lk (lv_args 0 [.ref 19, .int p0, .int p1, .int p2]) 1 = some (.int p0) := rfl
  have l2 : im_lk (lv_args 0 [.ref 19, .int p0, .int p1, .int p2]) 2 = some (.int p1) := rfl
  have l3 : im_lk (lv_args 0 [.ref 19, .int p0, .int p1, .int p2]) 3 = some (.int p2) := rfl
  refine iq_iload_n hS 1 J_HOrders_move_d0 l1 rfl ?_
  refine iq_bipush hS 3 J_HOrders_move_d1 (v := 14) (by decide +kernel) rfl ?_
  refine iq_imul hS 4 J_HOrders_move_d3 rfl ?_
  refine iq_istore hS 6 J_HOrders_move_d4 (by decide) rfl ?_
  refine iq_aload_n hS 7 J_HOrders_move_d6 (lk_1r l0 (by decide)) rfl ?_
  refine iq_getR hS 10 J_HOrders_move_d7 lf_5_13 (Or.inr ⟨_, rfl⟩) (ka_19 hM) (ra_19_0 hM) rfl ?_
  refine iq_iload hS 12 J_HOrders_move_d10 lk_1s rfl ?_
  refine iq_iconst hS 13 J_HOrders_move_d12 (v := 3) (by decide +kernel) rfl ?_
  refine iq_iadd hS 14 J_HOrders_move_d13 rfl ?_
  obtain ⟨g14, h⟩ := ed_gd h
  refine iq_iaload hS 15 J_HOrders_move_d14 ⟨(ka_21 hM).1, (ka_21 hM).2, g14.1, ix_lt (kl_21 hM) g14.2⟩ rfl ?_
  refine iq_istore hS 17 J_HOrders_move_d15 (by decide) rfl ?_
  refine iq_aload_n hS 18 J_HOrders_move_d17 (lk_1r (lk_1r l0 (by decide)) (by decide)) rfl ?_
  refine iq_getR hS 21 J_HOrders_move_d18 lf_5_13 (Or.inr ⟨_, rfl⟩) (ka_19 hM) (ra_19_0 hM) rfl ?_
  refine iq_iload hS 23 J_HOrders_move_d21 (lk_1i lk_1s (by decide)) rfl ?_
  refine iq_iconst hS 24 J_HOrders_move_d23 (v := 1) (by decide +kernel) rfl ?_
  refine iq_iadd hS 25 J_HOrders_move_d24 rfl ?_
  refine iq_dup2 hS 26 J_HOrders_move_d25 rfl rfl rfl ?_
  obtain ⟨g26, h⟩ := ed_gd h
  refine iq_iaload hS 27 J_HOrders_move_d26 ⟨(ka_21 hM).1, (ka_21 hM).2, g26.1, ix_lt (kl_21 hM) g26.2⟩ rfl ?_
  refine iq_iload hS 29 J_HOrders_move_d27 lk_1s rfl ?_
  have J1 : ∀ (z2 : Int32) (L' : List (Nat × Value)), z2 = ((if ¬ (im_i M 21 (Int32.toNatClampNeg ((p0 * 14) + 3))) = 0 then (if ¬ (im_i M 21 (Int32.toNatClampNeg ((p0 * 14) + 3))) = 1 then (if ¬ (im_i M 21 (Int32.toNatClampNeg ((p0 * 14) + 3))) = 2 then p2 else (-p1)) else (-p2)) else p1) : Int32) → im_lk L' 0 = some (.ref 19) → im_lk L' 2 = some (.int p1) → im_lk L' 3 = some (.int p2) → im_lk L' 4 = some (.int (p0 * 14)) → im_lk L' 5 = some (.int (im_i M 21 (Int32.toNatClampNeg ((p0 * 14) + 3)))) → ia (tb_G L xs) dep J_HOrders_move (rwV w Q) (59, L', [.int z2, .int (im_i M 21 (Int32.toNatClampNeg ((p0 * 14) + 1))), .int ((p0 * 14) + 1), .ref 21], M) := by
    intro z2 L' e3 l4 l5 l6 l7 l8
    subst e3
    refine iq_iadd hS 60 J_HOrders_move_d59 rfl ?_
    obtain ⟨g60, h⟩ := ed_gd h
    refine iq_iastore hS 61 J_HOrders_move_d60 ⟨(ka_21 hM).1, (ka_21 hM).2, g60.1, ix_lt (kl_21 hM) g60.2⟩ rfl ?_
    refine iq_aload_n hS 62 J_HOrders_move_d61 l4 rfl ?_
    refine iq_getR hS 65 J_HOrders_move_d62 lf_5_13 (Or.inr ⟨_, rfl⟩) (ka_19 (lw_sI hM)) (ra_19_0 (lw_sI hM)) rfl ?_
    refine iq_iload hS 67 J_HOrders_move_d65 l7 rfl ?_
    refine iq_iconst hS 68 J_HOrders_move_d67 (v := 2) (by decide +kernel) rfl ?_
    refine iq_iadd hS 69 J_HOrders_move_d68 rfl ?_
    refine iq_dup2 hS 70 J_HOrders_move_d69 rfl rfl rfl ?_
    obtain ⟨g70, h⟩ := ed_gd h
    refine iq_iaload hS 71 J_HOrders_move_d70 ⟨(ka_21 (lw_sI hM)).1, (ka_21 (lw_sI hM)).2, g70.1, ix_lt (kl_21 (lw_sI hM)) g70.2⟩ rfl ?_
    refine iq_iload hS 73 J_HOrders_move_d71 l8 rfl ?_
    have J9 : ∀ (z10 : Int32) (L' : List (Nat × Value)), z10 = ((if ¬ (im_i M 21 (Int32.toNatClampNeg ((p0 * 14) + 3))) = 0 then (if ¬ (im_i M 21 (Int32.toNatClampNeg ((p0 * 14) + 3))) = 1 then (if ¬ (im_i M 21 (Int32.toNatClampNeg ((p0 * 14) + 3))) = 2 then (-p1) else (-p2)) else p1) else p2) : Int32) → ia (tb_G L xs) dep J_HOrders_move (rwV w Q) (103, L', [.int z10, .int (im_i (im_setI M 21 (Int32.toNatClampNeg ((p0 * 14) + 1)) ((im_i M 21 (Int32.toNatClampNeg ((p0 * 14) + 1))) + ((if ¬ (im_i M 21 (Int32.toNatClampNeg ((p0 * 14) + 3))) = 0 then (if ¬ (im_i M 21 (Int32.toNatClampNeg ((p0 * 14) + 3))) = 1 then (if ¬ (im_i M 21 (Int32.toNatClampNeg ((p0 * 14) + 3))) = 2 then p2 else (-p1)) else (-p2)) else p1) : Int32))) 21 (Int32.toNatClampNeg ((p0 * 14) + 2))), .int ((p0 * 14) + 2), .ref 21], (im_setI M 21 (Int32.toNatClampNeg ((p0 * 14) + 1)) ((im_i M 21 (Int32.toNatClampNeg ((p0 * 14) + 1))) + ((if ¬ (im_i M 21 (Int32.toNatClampNeg ((p0 * 14) + 3))) = 0 then (if ¬ (im_i M 21 (Int32.toNatClampNeg ((p0 * 14) + 3))) = 1 then (if ¬ (im_i M 21 (Int32.toNatClampNeg ((p0 * 14) + 3))) = 2 then p2 else (-p1)) else (-p2)) else p1) : Int32)))) := by
      intro z10 L' e11 
      subst e11
      refine iq_iadd hS 104 J_HOrders_move_d103 rfl ?_
      obtain ⟨g104, h⟩ := ed_gd h
      refine iq_iastore hS 105 J_HOrders_move_d104 ⟨(ka_21 (lw_sI hM)).1, (ka_21 (lw_sI hM)).2, g104.1, ix_lt (kl_21 (lw_sI hM)) g104.2⟩ rfl ?_
      exact iq_ret J_HOrders_move_d105 rfl ⟨rfl, (lw_sI (lw_sI hM)), ed_some h⟩
    refine iq_if_ne hS 76 J_HOrders_move_d73 (t := 80) rfl (fun q73 => ?_) rfl (fun q73 => ?_)
    · refine iq_iload hS 82 J_HOrders_move_d80 l8 rfl ?_
      refine iq_iconst hS 83 J_HOrders_move_d82 (v := 1) (by decide +kernel) rfl ?_
      refine iq_icmp_ne hS 86 J_HOrders_move_d83 (t := 90) rfl (fun q83 => ?_) rfl (fun q83 => ?_)
      · refine iq_iload hS 92 J_HOrders_move_d90 l8 rfl ?_
        refine iq_iconst hS 93 J_HOrders_move_d92 (v := 2) (by decide +kernel) rfl ?_
        refine iq_icmp_ne hS 96 J_HOrders_move_d93 (t := 101) rfl (fun q93 => ?_) rfl (fun q93 => ?_)
        · refine iq_iload_n hS 102 J_HOrders_move_d101 l5 rfl ?_
          refine iq_ineg hS 103 J_HOrders_move_d102 rfl ?_
          exact J9 _ _ (by simp only [if_pos q73, if_pos q83, if_pos q93]) 
        · refine iq_iload_n hS 97 J_HOrders_move_d96 l6 rfl ?_
          refine iq_ineg hS 98 J_HOrders_move_d97 rfl ?_
          refine iq_goto hS J_HOrders_move_d98 (t := 103) rfl ?_
          exact J9 _ _ (by simp only [if_pos q73, if_pos q83, if_neg q93]) 
      · refine iq_iload_n hS 87 J_HOrders_move_d86 l5 rfl ?_
        refine iq_goto hS J_HOrders_move_d87 (t := 103) rfl ?_
        exact J9 _ _ (by simp only [if_pos q73, if_neg q83]) 
    · refine iq_iload_n hS 77 J_HOrders_move_d76 l6 rfl ?_
      refine iq_goto hS J_HOrders_move_d77 (t := 103) rfl ?_
      exact J9 _ _ (by simp only [if_neg q73]) 
  refine iq_if_ne hS 32 J_HOrders_move_d29 (t := 36) rfl (fun q29 => ?_) rfl (fun q29 => ?_)
  · refine iq_iload hS 38 J_HOrders_move_d36 lk_1s rfl ?_
    refine iq_iconst hS 39 J_HOrders_move_d38 (v := 1) (by decide +kernel) rfl ?_
    refine iq_icmp_ne hS 42 J_HOrders_move_d39 (t := 47) rfl (fun q39 => ?_) rfl (fun q39 => ?_)
    · refine iq_iload hS 49 J_HOrders_move_d47 lk_1s rfl ?_
      refine iq_iconst hS 50 J_HOrders_move_d49 (v := 2) (by decide +kernel) rfl ?_
      refine iq_icmp_ne hS 53 J_HOrders_move_d50 (t := 58) rfl (fun q50 => ?_) rfl (fun q50 => ?_)
      · refine iq_iload_n hS 59 J_HOrders_move_d58 (lk_1i (lk_1i l3 (by decide)) (by decide)) rfl ?_
        exact J1 _ _ (by simp only [if_pos q29, if_pos q39, if_pos q50]) (lk_1r (lk_1r l0 (by decide)) (by decide)) (lk_1i (lk_1i l2 (by decide)) (by decide)) (lk_1i (lk_1i l3 (by decide)) (by decide)) (lk_1i lk_1s (by decide)) lk_1s
      · refine iq_iload_n hS 54 J_HOrders_move_d53 (lk_1i (lk_1i l2 (by decide)) (by decide)) rfl ?_
        refine iq_ineg hS 55 J_HOrders_move_d54 rfl ?_
        refine iq_goto hS J_HOrders_move_d55 (t := 59) rfl ?_
        exact J1 _ _ (by simp only [if_pos q29, if_pos q39, if_neg q50]) (lk_1r (lk_1r l0 (by decide)) (by decide)) (lk_1i (lk_1i l2 (by decide)) (by decide)) (lk_1i (lk_1i l3 (by decide)) (by decide)) (lk_1i lk_1s (by decide)) lk_1s
    · refine iq_iload_n hS 43 J_HOrders_move_d42 (lk_1i (lk_1i l3 (by decide)) (by decide)) rfl ?_
      refine iq_ineg hS 44 J_HOrders_move_d43 rfl ?_
      refine iq_goto hS J_HOrders_move_d44 (t := 59) rfl ?_
      exact J1 _ _ (by simp only [if_pos q29, if_neg q39]) (lk_1r (lk_1r l0 (by decide)) (by decide)) (lk_1i (lk_1i l2 (by decide)) (by decide)) (lk_1i (lk_1i l3 (by decide)) (by decide)) (lk_1i lk_1s (by decide)) lk_1s
  · refine iq_iload_n hS 33 J_HOrders_move_d32 (lk_1i (lk_1i l2 (by decide)) (by decide)) rfl ?_
    refine iq_goto hS J_HOrders_move_d33 (t := 59) rfl ?_
    exact J1 _ _ (by simp only [if_neg q29]) (lk_1r (lk_1r l0 (by decide)) (by decide)) (lk_1i (lk_1i l2 (by decide)) (by decide)) (lk_1i (lk_1i l3 (by decide)) (by decide)) (lk_1i lk_1s (by decide)) lk_1s
theorem f_HOrders_move_fr {p0 : Int32} {p1 : Int32} {p2 : Int32} {M : im_M} {r : im_M} (h : f_HOrders_move p0 p1 p2 M = some r) : fr 2097152 [] M r := by
  replace h : ed (f_HOrders_move p0 p1 p2 M) (fun x => x = r) := ⟨r, h, rfl⟩
  unfold f_HOrders_move at h
  obtain ⟨g14, h⟩ := ed_gd h
  obtain ⟨g26, h⟩ := ed_gd h
  obtain ⟨g60, h⟩ := ed_gd h
  obtain ⟨g70, h⟩ := ed_gd h
  obtain ⟨g104, h⟩ := ed_gd h
  exact fr_retV h (fr_I (by decide) (fr_I (by decide) fr_refl))
noncomputable def f_HField_layOthers (p1 : Int32) (p2 : Int32) (M : im_M) : Option (Int32 × im_M) := bd1 (if ((if (im_i M 23 2) = 1 then 1 else (if ¬ (im_i M 23 2) = 2 then 0 else 1)) : Int32) = 0 then jn0 (fun (_ : Unit) => gd (inb 3 4) <| some (im_i M 24 (Int32.toNatClampNeg 3))) fun k3 => if (im_i M 23 2) = 0 then k3 () else if ¬ (im_i M 23 2) = 3 then some 0 else k3 () else gd (inb 2 4) <| some (im_i M 24 (Int32.toNatClampNeg 2))) fun (y11 : Int32) => bd1 (f_HOrders_lay (im_i M 19 3) (im_i M 23 2) p1 p2 y11 M) fun (M19 : im_M) => gd (inb 0 4) <| bd1 (if ¬ (im_i M19 23 2) = 7 then gd (inb 1 4) <| some (im_i M19 24 (Int32.toNatClampNeg 1)) else some 0) fun (y21 : Int32) => bd1 (jn0 (fun (_ : Unit) => some 0) fun k31 => if ¬ ((if (im_i M 23 2) = 1 then 1 else (if ¬ (im_i M 23 2) = 2 then 0 else 1)) : Int32) = 0 then k31 () else if ¬ (im_i M19 23 2) = 7 then gd (inb 2 4) <| some (im_i M19 24 (Int32.toNatClampNeg 2)) else k31 ()) fun (y39 : Int32) => bd1 (f_HOrders_number (im_i M 19 3) (im_i M19 24 (Int32.toNatClampNeg 0)) y21 y39 M19) fun (M47 : im_M) => bd1 (if 3 < (im_i M47 23 2) then if ¬ (im_i M47 23 2) = 7 then some 0 else some ((im_i M47 23 8) / 2) else some (im_i M47 23 8)) fun (y49 : Int32) => bd1 (f_HOrders_slice (im_i M 19 3) (im_i M 19 3) 0 y49 M47) fun (M57 : im_M) => if ¬ (im_i M57 23 2) = 1 then some (1, M57) else gd (inb 3 4) <| if ¬ (im_i M57 24 (Int32.toNatClampNeg 3)) = 0 then bd1 (f_HOrders_lay ((im_i M 19 3) + 1) 0 p1 p2 y11 M57) fun (M58 : im_M) => gd (inb 1 4) <| bd1 (f_HOrders_move ((im_i M 19 3) + 1) 0 ((im_i M58 24 (Int32.toNatClampNeg 1)) + 3) M58) fun (M59 : im_M) => gd (inb 0 4) <| gd (inb 1 4) <| gd (inb 2 4) <| bd1 (f_HOrders_number ((im_i M 19 3) + 1) (im_i M59 18 (Int32.toNatClampNeg 0)) (im_i M59 18 (Int32.toNatClampNeg 1)) (im_i M59 18 (Int32.toNatClampNeg 2)) M59) fun (M60 : im_M) => bd1 (f_HOrders_slice ((im_i M 19 3) + 1) (im_i M 19 3) 0 (im_i M60 23 8) M60) fun (M61 : im_M) => some (2, M61) else some (1, M57)
theorem J_HField_layOthers_d0 : decode J_HField_layOthers.2.1 0 = .ok (.aload_n 1, 1) := by decide +kernel
theorem J_HField_layOthers_d1 : decode J_HField_layOthers.2.1 1 = .ok (.getfield 81, 3) := by decide +kernel
theorem J_HField_layOthers_d4 : decode J_HField_layOthers.2.1 4 = .ok (.istore 5, 2) := by decide +kernel
theorem J_HField_layOthers_d6 : decode J_HField_layOthers.2.1 6 = .ok (.aload_n 0, 1) := by decide +kernel
theorem J_HField_layOthers_d7 : decode J_HField_layOthers.2.1 7 = .ok (.getfield 34, 3) := by decide +kernel
theorem J_HField_layOthers_d10 : decode J_HField_layOthers.2.1 10 = .ok (.iconst 1, 1) := by decide +kernel
theorem J_HField_layOthers_d11 : decode J_HField_layOthers.2.1 11 = .ok (.if_icmp .eq 11, 3) := by decide +kernel
theorem J_HField_layOthers_d14 : decode J_HField_layOthers.2.1 14 = .ok (.aload_n 0, 1) := by decide +kernel
theorem J_HField_layOthers_d15 : decode J_HField_layOthers.2.1 15 = .ok (.getfield 34, 3) := by decide +kernel
theorem J_HField_layOthers_d18 : decode J_HField_layOthers.2.1 18 = .ok (.iconst 2, 1) := by decide +kernel
theorem J_HField_layOthers_d19 : decode J_HField_layOthers.2.1 19 = .ok (.if_icmp .ne 7, 3) := by decide +kernel
theorem J_HField_layOthers_d22 : decode J_HField_layOthers.2.1 22 = .ok (.iconst 1, 1) := by decide +kernel
theorem J_HField_layOthers_d23 : decode J_HField_layOthers.2.1 23 = .ok (.goto 4, 3) := by decide +kernel
theorem J_HField_layOthers_d26 : decode J_HField_layOthers.2.1 26 = .ok (.iconst 0, 1) := by decide +kernel
theorem J_HField_layOthers_d27 : decode J_HField_layOthers.2.1 27 = .ok (.istore 6, 2) := by decide +kernel
theorem J_HField_layOthers_d29 : decode J_HField_layOthers.2.1 29 = .ok (.iload 6, 2) := by decide +kernel
theorem J_HField_layOthers_d31 : decode J_HField_layOthers.2.1 31 = .ok (.ifCond .eq 12, 3) := by decide +kernel
theorem J_HField_layOthers_d34 : decode J_HField_layOthers.2.1 34 = .ok (.aload_n 0, 1) := by decide +kernel
theorem J_HField_layOthers_d35 : decode J_HField_layOthers.2.1 35 = .ok (.getfield 9, 3) := by decide +kernel
theorem J_HField_layOthers_d38 : decode J_HField_layOthers.2.1 38 = .ok (.iconst 2, 1) := by decide +kernel
theorem J_HField_layOthers_d39 : decode J_HField_layOthers.2.1 39 = .ok (.iaload, 1) := by decide +kernel
theorem J_HField_layOthers_d40 : decode J_HField_layOthers.2.1 40 = .ok (.goto 28, 3) := by decide +kernel
theorem J_HField_layOthers_d43 : decode J_HField_layOthers.2.1 43 = .ok (.aload_n 0, 1) := by decide +kernel
theorem J_HField_layOthers_d44 : decode J_HField_layOthers.2.1 44 = .ok (.getfield 34, 3) := by decide +kernel
theorem J_HField_layOthers_d47 : decode J_HField_layOthers.2.1 47 = .ok (.ifCond .eq 11, 3) := by decide +kernel
theorem J_HField_layOthers_d50 : decode J_HField_layOthers.2.1 50 = .ok (.aload_n 0, 1) := by decide +kernel
theorem J_HField_layOthers_d51 : decode J_HField_layOthers.2.1 51 = .ok (.getfield 34, 3) := by decide +kernel
theorem J_HField_layOthers_d54 : decode J_HField_layOthers.2.1 54 = .ok (.iconst 3, 1) := by decide +kernel
theorem J_HField_layOthers_d55 : decode J_HField_layOthers.2.1 55 = .ok (.if_icmp .ne 12, 3) := by decide +kernel
theorem J_HField_layOthers_d58 : decode J_HField_layOthers.2.1 58 = .ok (.aload_n 0, 1) := by decide +kernel
theorem J_HField_layOthers_d59 : decode J_HField_layOthers.2.1 59 = .ok (.getfield 9, 3) := by decide +kernel
theorem J_HField_layOthers_d62 : decode J_HField_layOthers.2.1 62 = .ok (.iconst 3, 1) := by decide +kernel
theorem J_HField_layOthers_d63 : decode J_HField_layOthers.2.1 63 = .ok (.iaload, 1) := by decide +kernel
theorem J_HField_layOthers_d64 : decode J_HField_layOthers.2.1 64 = .ok (.goto 4, 3) := by decide +kernel
theorem J_HField_layOthers_d67 : decode J_HField_layOthers.2.1 67 = .ok (.iconst 0, 1) := by decide +kernel
theorem J_HField_layOthers_d68 : decode J_HField_layOthers.2.1 68 = .ok (.istore 7, 2) := by decide +kernel
theorem J_HField_layOthers_d70 : decode J_HField_layOthers.2.1 70 = .ok (.aload_n 1, 1) := by decide +kernel
theorem J_HField_layOthers_d71 : decode J_HField_layOthers.2.1 71 = .ok (.iload 5, 2) := by decide +kernel
theorem J_HField_layOthers_d73 : decode J_HField_layOthers.2.1 73 = .ok (.aload_n 0, 1) := by decide +kernel
theorem J_HField_layOthers_d74 : decode J_HField_layOthers.2.1 74 = .ok (.getfield 34, 3) := by decide +kernel
theorem J_HField_layOthers_d77 : decode J_HField_layOthers.2.1 77 = .ok (.iload_n 2, 1) := by decide +kernel
theorem J_HField_layOthers_d78 : decode J_HField_layOthers.2.1 78 = .ok (.iload_n 3, 1) := by decide +kernel
theorem J_HField_layOthers_d79 : decode J_HField_layOthers.2.1 79 = .ok (.iload 7, 2) := by decide +kernel
theorem J_HField_layOthers_d81 : decode J_HField_layOthers.2.1 81 = .ok (.invokevirtual 90, 3) := by decide +kernel
theorem J_HField_layOthers_d84 : decode J_HField_layOthers.2.1 84 = .ok (.aload_n 1, 1) := by decide +kernel
theorem J_HField_layOthers_d85 : decode J_HField_layOthers.2.1 85 = .ok (.iload 5, 2) := by decide +kernel
theorem J_HField_layOthers_d87 : decode J_HField_layOthers.2.1 87 = .ok (.aload_n 0, 1) := by decide +kernel
theorem J_HField_layOthers_d88 : decode J_HField_layOthers.2.1 88 = .ok (.getfield 9, 3) := by decide +kernel
theorem J_HField_layOthers_d91 : decode J_HField_layOthers.2.1 91 = .ok (.iconst 0, 1) := by decide +kernel
theorem J_HField_layOthers_d92 : decode J_HField_layOthers.2.1 92 = .ok (.iaload, 1) := by decide +kernel
theorem J_HField_layOthers_d93 : decode J_HField_layOthers.2.1 93 = .ok (.aload_n 0, 1) := by decide +kernel
theorem J_HField_layOthers_d94 : decode J_HField_layOthers.2.1 94 = .ok (.getfield 34, 3) := by decide +kernel
theorem J_HField_layOthers_d97 : decode J_HField_layOthers.2.1 97 = .ok (.bipush 7, 2) := by decide +kernel
theorem J_HField_layOthers_d99 : decode J_HField_layOthers.2.1 99 = .ok (.if_icmp .ne 7, 3) := by decide +kernel
theorem J_HField_layOthers_d102 : decode J_HField_layOthers.2.1 102 = .ok (.iconst 0, 1) := by decide +kernel
theorem J_HField_layOthers_d103 : decode J_HField_layOthers.2.1 103 = .ok (.goto 9, 3) := by decide +kernel
theorem J_HField_layOthers_d106 : decode J_HField_layOthers.2.1 106 = .ok (.aload_n 0, 1) := by decide +kernel
theorem J_HField_layOthers_d107 : decode J_HField_layOthers.2.1 107 = .ok (.getfield 9, 3) := by decide +kernel
theorem J_HField_layOthers_d110 : decode J_HField_layOthers.2.1 110 = .ok (.iconst 1, 1) := by decide +kernel
theorem J_HField_layOthers_d111 : decode J_HField_layOthers.2.1 111 = .ok (.iaload, 1) := by decide +kernel
theorem J_HField_layOthers_d112 : decode J_HField_layOthers.2.1 112 = .ok (.iload 6, 2) := by decide +kernel
theorem J_HField_layOthers_d114 : decode J_HField_layOthers.2.1 114 = .ok (.ifCond .ne 12, 3) := by decide +kernel
theorem J_HField_layOthers_d117 : decode J_HField_layOthers.2.1 117 = .ok (.aload_n 0, 1) := by decide +kernel
theorem J_HField_layOthers_d118 : decode J_HField_layOthers.2.1 118 = .ok (.getfield 34, 3) := by decide +kernel
theorem J_HField_layOthers_d121 : decode J_HField_layOthers.2.1 121 = .ok (.bipush 7, 2) := by decide +kernel
theorem J_HField_layOthers_d123 : decode J_HField_layOthers.2.1 123 = .ok (.if_icmp .ne 7, 3) := by decide +kernel
theorem J_HField_layOthers_d126 : decode J_HField_layOthers.2.1 126 = .ok (.iconst 0, 1) := by decide +kernel
theorem J_HField_layOthers_d127 : decode J_HField_layOthers.2.1 127 = .ok (.goto 9, 3) := by decide +kernel
theorem J_HField_layOthers_d130 : decode J_HField_layOthers.2.1 130 = .ok (.aload_n 0, 1) := by decide +kernel
theorem J_HField_layOthers_d131 : decode J_HField_layOthers.2.1 131 = .ok (.getfield 9, 3) := by decide +kernel
theorem J_HField_layOthers_d134 : decode J_HField_layOthers.2.1 134 = .ok (.iconst 2, 1) := by decide +kernel
theorem J_HField_layOthers_d135 : decode J_HField_layOthers.2.1 135 = .ok (.iaload, 1) := by decide +kernel
theorem J_HField_layOthers_d136 : decode J_HField_layOthers.2.1 136 = .ok (.invokevirtual 94, 3) := by decide +kernel
theorem J_HField_layOthers_d139 : decode J_HField_layOthers.2.1 139 = .ok (.aload_n 1, 1) := by decide +kernel
theorem J_HField_layOthers_d140 : decode J_HField_layOthers.2.1 140 = .ok (.iload 5, 2) := by decide +kernel
theorem J_HField_layOthers_d142 : decode J_HField_layOthers.2.1 142 = .ok (.iload 5, 2) := by decide +kernel
theorem J_HField_layOthers_d144 : decode J_HField_layOthers.2.1 144 = .ok (.iconst 0, 1) := by decide +kernel
theorem J_HField_layOthers_d145 : decode J_HField_layOthers.2.1 145 = .ok (.aload_n 0, 1) := by decide +kernel
theorem J_HField_layOthers_d146 : decode J_HField_layOthers.2.1 146 = .ok (.getfield 34, 3) := by decide +kernel
theorem J_HField_layOthers_d149 : decode J_HField_layOthers.2.1 149 = .ok (.iconst 3, 1) := by decide +kernel
theorem J_HField_layOthers_d150 : decode J_HField_layOthers.2.1 150 = .ok (.if_icmp .gt 10, 3) := by decide +kernel
theorem J_HField_layOthers_d153 : decode J_HField_layOthers.2.1 153 = .ok (.aload_n 0, 1) := by decide +kernel
theorem J_HField_layOthers_d154 : decode J_HField_layOthers.2.1 154 = .ok (.getfield 47, 3) := by decide +kernel
theorem J_HField_layOthers_d157 : decode J_HField_layOthers.2.1 157 = .ok (.goto 22, 3) := by decide +kernel
theorem J_HField_layOthers_d160 : decode J_HField_layOthers.2.1 160 = .ok (.aload_n 0, 1) := by decide +kernel
theorem J_HField_layOthers_d161 : decode J_HField_layOthers.2.1 161 = .ok (.getfield 34, 3) := by decide +kernel
theorem J_HField_layOthers_d164 : decode J_HField_layOthers.2.1 164 = .ok (.bipush 7, 2) := by decide +kernel
theorem J_HField_layOthers_d166 : decode J_HField_layOthers.2.1 166 = .ok (.if_icmp .ne 12, 3) := by decide +kernel
theorem J_HField_layOthers_d169 : decode J_HField_layOthers.2.1 169 = .ok (.aload_n 0, 1) := by decide +kernel
theorem J_HField_layOthers_d170 : decode J_HField_layOthers.2.1 170 = .ok (.getfield 47, 3) := by decide +kernel
theorem J_HField_layOthers_d173 : decode J_HField_layOthers.2.1 173 = .ok (.iconst 2, 1) := by decide +kernel
theorem J_HField_layOthers_d174 : decode J_HField_layOthers.2.1 174 = .ok (.idiv, 1) := by decide +kernel
theorem J_HField_layOthers_d175 : decode J_HField_layOthers.2.1 175 = .ok (.goto 4, 3) := by decide +kernel
theorem J_HField_layOthers_d178 : decode J_HField_layOthers.2.1 178 = .ok (.iconst 0, 1) := by decide +kernel
theorem J_HField_layOthers_d179 : decode J_HField_layOthers.2.1 179 = .ok (.invokevirtual 98, 3) := by decide +kernel
theorem J_HField_layOthers_d182 : decode J_HField_layOthers.2.1 182 = .ok (.aload_n 0, 1) := by decide +kernel
theorem J_HField_layOthers_d183 : decode J_HField_layOthers.2.1 183 = .ok (.getfield 34, 3) := by decide +kernel
theorem J_HField_layOthers_d186 : decode J_HField_layOthers.2.1 186 = .ok (.iconst 1, 1) := by decide +kernel
theorem J_HField_layOthers_d187 : decode J_HField_layOthers.2.1 187 = .ok (.if_icmp .ne 12, 3) := by decide +kernel
theorem J_HField_layOthers_d190 : decode J_HField_layOthers.2.1 190 = .ok (.aload_n 0, 1) := by decide +kernel
theorem J_HField_layOthers_d191 : decode J_HField_layOthers.2.1 191 = .ok (.getfield 9, 3) := by decide +kernel
theorem J_HField_layOthers_d194 : decode J_HField_layOthers.2.1 194 = .ok (.iconst 3, 1) := by decide +kernel
theorem J_HField_layOthers_d195 : decode J_HField_layOthers.2.1 195 = .ok (.iaload, 1) := by decide +kernel
theorem J_HField_layOthers_d196 : decode J_HField_layOthers.2.1 196 = .ok (.ifCond .ne 5, 3) := by decide +kernel
theorem J_HField_layOthers_d199 : decode J_HField_layOthers.2.1 199 = .ok (.iconst 1, 1) := by decide +kernel
theorem J_HField_layOthers_d200 : decode J_HField_layOthers.2.1 200 = .ok (.ireturn, 1) := by decide +kernel
theorem J_HField_layOthers_d201 : decode J_HField_layOthers.2.1 201 = .ok (.aload_n 1, 1) := by decide +kernel
theorem J_HField_layOthers_d202 : decode J_HField_layOthers.2.1 202 = .ok (.iload 5, 2) := by decide +kernel
theorem J_HField_layOthers_d204 : decode J_HField_layOthers.2.1 204 = .ok (.iconst 1, 1) := by decide +kernel
theorem J_HField_layOthers_d205 : decode J_HField_layOthers.2.1 205 = .ok (.iadd, 1) := by decide +kernel
theorem J_HField_layOthers_d206 : decode J_HField_layOthers.2.1 206 = .ok (.iconst 0, 1) := by decide +kernel
theorem J_HField_layOthers_d207 : decode J_HField_layOthers.2.1 207 = .ok (.iload_n 2, 1) := by decide +kernel
theorem J_HField_layOthers_d208 : decode J_HField_layOthers.2.1 208 = .ok (.iload_n 3, 1) := by decide +kernel
theorem J_HField_layOthers_d209 : decode J_HField_layOthers.2.1 209 = .ok (.iload 7, 2) := by decide +kernel
theorem J_HField_layOthers_d211 : decode J_HField_layOthers.2.1 211 = .ok (.invokevirtual 90, 3) := by decide +kernel
theorem J_HField_layOthers_d214 : decode J_HField_layOthers.2.1 214 = .ok (.aload_n 1, 1) := by decide +kernel
theorem J_HField_layOthers_d215 : decode J_HField_layOthers.2.1 215 = .ok (.iload 5, 2) := by decide +kernel
theorem J_HField_layOthers_d217 : decode J_HField_layOthers.2.1 217 = .ok (.iconst 1, 1) := by decide +kernel
theorem J_HField_layOthers_d218 : decode J_HField_layOthers.2.1 218 = .ok (.iadd, 1) := by decide +kernel
theorem J_HField_layOthers_d219 : decode J_HField_layOthers.2.1 219 = .ok (.iconst 0, 1) := by decide +kernel
theorem J_HField_layOthers_d220 : decode J_HField_layOthers.2.1 220 = .ok (.aload_n 0, 1) := by decide +kernel
theorem J_HField_layOthers_d221 : decode J_HField_layOthers.2.1 221 = .ok (.getfield 9, 3) := by decide +kernel
theorem J_HField_layOthers_d224 : decode J_HField_layOthers.2.1 224 = .ok (.iconst 1, 1) := by decide +kernel
theorem J_HField_layOthers_d225 : decode J_HField_layOthers.2.1 225 = .ok (.iaload, 1) := by decide +kernel
theorem J_HField_layOthers_d226 : decode J_HField_layOthers.2.1 226 = .ok (.iconst 3, 1) := by decide +kernel
theorem J_HField_layOthers_d227 : decode J_HField_layOthers.2.1 227 = .ok (.iadd, 1) := by decide +kernel
theorem J_HField_layOthers_d228 : decode J_HField_layOthers.2.1 228 = .ok (.invokevirtual 101, 3) := by decide +kernel
theorem J_HField_layOthers_d231 : decode J_HField_layOthers.2.1 231 = .ok (.aload_n 1, 1) := by decide +kernel
theorem J_HField_layOthers_d232 : decode J_HField_layOthers.2.1 232 = .ok (.iload 5, 2) := by decide +kernel
theorem J_HField_layOthers_d234 : decode J_HField_layOthers.2.1 234 = .ok (.iconst 1, 1) := by decide +kernel
theorem J_HField_layOthers_d235 : decode J_HField_layOthers.2.1 235 = .ok (.iadd, 1) := by decide +kernel
theorem J_HField_layOthers_d236 : decode J_HField_layOthers.2.1 236 = .ok (.aload 4, 2) := by decide +kernel
theorem J_HField_layOthers_d238 : decode J_HField_layOthers.2.1 238 = .ok (.iconst 0, 1) := by decide +kernel
theorem J_HField_layOthers_d239 : decode J_HField_layOthers.2.1 239 = .ok (.iaload, 1) := by decide +kernel
theorem J_HField_layOthers_d240 : decode J_HField_layOthers.2.1 240 = .ok (.aload 4, 2) := by decide +kernel
theorem J_HField_layOthers_d242 : decode J_HField_layOthers.2.1 242 = .ok (.iconst 1, 1) := by decide +kernel
theorem J_HField_layOthers_d243 : decode J_HField_layOthers.2.1 243 = .ok (.iaload, 1) := by decide +kernel
theorem J_HField_layOthers_d244 : decode J_HField_layOthers.2.1 244 = .ok (.aload 4, 2) := by decide +kernel
theorem J_HField_layOthers_d246 : decode J_HField_layOthers.2.1 246 = .ok (.iconst 2, 1) := by decide +kernel
theorem J_HField_layOthers_d247 : decode J_HField_layOthers.2.1 247 = .ok (.iaload, 1) := by decide +kernel
theorem J_HField_layOthers_d248 : decode J_HField_layOthers.2.1 248 = .ok (.invokevirtual 94, 3) := by decide +kernel
theorem J_HField_layOthers_d251 : decode J_HField_layOthers.2.1 251 = .ok (.aload_n 1, 1) := by decide +kernel
theorem J_HField_layOthers_d252 : decode J_HField_layOthers.2.1 252 = .ok (.iload 5, 2) := by decide +kernel
theorem J_HField_layOthers_d254 : decode J_HField_layOthers.2.1 254 = .ok (.iconst 1, 1) := by decide +kernel
theorem J_HField_layOthers_d255 : decode J_HField_layOthers.2.1 255 = .ok (.iadd, 1) := by decide +kernel
theorem J_HField_layOthers_d256 : decode J_HField_layOthers.2.1 256 = .ok (.iload 5, 2) := by decide +kernel
theorem J_HField_layOthers_d258 : decode J_HField_layOthers.2.1 258 = .ok (.iconst 0, 1) := by decide +kernel
theorem J_HField_layOthers_d259 : decode J_HField_layOthers.2.1 259 = .ok (.aload_n 0, 1) := by decide +kernel
theorem J_HField_layOthers_d260 : decode J_HField_layOthers.2.1 260 = .ok (.getfield 47, 3) := by decide +kernel
theorem J_HField_layOthers_d263 : decode J_HField_layOthers.2.1 263 = .ok (.invokevirtual 98, 3) := by decide +kernel
theorem J_HField_layOthers_d266 : decode J_HField_layOthers.2.1 266 = .ok (.iconst 2, 1) := by decide +kernel
theorem J_HField_layOthers_d267 : decode J_HField_layOthers.2.1 267 = .ok (.ireturn, 1) := by decide +kernel
theorem f_HField_layOthers_ok {L : Nat} {xs : Nat → Int32} {dep : Nat} {w : Bool} {p1 : Int32} {p2 : Int32} {M : im_M} {Q : Int32 × im_M → Prop} (hM : lw_S w M) (h : ed (f_HField_layOthers p1 p2 M) Q) : ia (tb_G L xs) (dep + 3) J_HField_layOthers (rwI w Q) (0, lv_args 0 [.ref 23, .ref 19, .int p1, .int p2, .ref 18], [], M) := by
  have hS : im_St (tb_G L xs) (dep + 3) J_HField_layOthers (ia (tb_G L xs) (dep + 3) J_HField_layOthers (rwI w Q)) := ia_St
  unfold f_HField_layOthers at h
  have l0 : im_lk (lv_args 0 [.ref 23, .ref 19, .int p1, .int p2, .ref 18]) 0 = some (.ref 23) := rfl
  have l1 : im_lk (lv_args 0 [.ref 23, .ref 19, .int p1, .int p2, .ref 18]) 1 = some (.ref 19) := rfl
  have l2 : im_lk (lv_args 0 [.ref 23, .ref 19, .int p1, .int p2, .ref 18]) 2 = some (.int p1) := rfl
  have l3 : im_lk (lv_args 0 [.ref 23, .ref 19, .int p1, .int p2, .ref 18]) 3 = some (.int p2) := rfl
  have l4 : im_lk (lv_args 0 [.ref 23, .ref 19, .int p1, .int p2, .ref 18]) 4 = some (.ref 18) := rfl
  refine iq_aload_n hS 1 J_HField_layOthers_d0 l1 rfl ?_
  refine iq_getI hS 4 J_HField_layOthers_d1 lf_2_81 (Or.inl rfl) (ka_19 hM) rfl ?_
  refine iq_istore hS 6 J_HField_layOthers_d4 (by decide) rfl ?_
  refine iq_aload_n hS 7 J_HField_layOthers_d6 (lk_1r l0 (by decide)) rfl ?_
  refine iq_getI hS 10 J_HField_layOthers_d7 lf_2_34 (Or.inl rfl) (ka_23 hM) rfl ?_
  refine iq_iconst hS 11 J_HField_layOthers_d10 (v := 1) (by decide +kernel) rfl ?_
  have J1 : ∀ (z2 : Int32) (L' : List (Nat × Value)), z2 = ((if (im_i M 23 2) = 1 then 1 else (if ¬ (im_i M 23 2) = 2 then 0 else 1)) : Int32) → im_lk L' 0 = some (.ref 23) → im_lk L' 1 = some (.ref 19) → im_lk L' 2 = some (.int p1) → im_lk L' 3 = some (.int p2) → im_lk L' 4 = some (.ref 18) → im_lk L' 5 = some (.int (im_i M 19 3)) → ia (tb_G L xs) (dep + 3) J_HField_layOthers (rwI w Q) (27, L', [.int z2], M) := by
    intro z2 L' e3 l4 l5 l6 l7 l8 l9
    subst e3
    refine iq_istore hS 29 J_HField_layOthers_d27 (by decide) rfl ?_
    refine iq_iload hS 31 J_HField_layOthers_d29 lk_1s rfl ?_
    obtain ⟨Q10, hQ10, h⟩ := bd1_ed h
    have J10 : ∀ (y19 : Int32) (L' : List (Nat × Value)), im_lk L' 0 = some (.ref 23) → im_lk L' 1 = some (.ref 19) → im_lk L' 2 = some (.int p1) → im_lk L' 3 = some (.int p2) → im_lk L' 4 = some (.ref 18) → im_lk L' 5 = some (.int (im_i M 19 3)) → im_lk L' 6 = some (.int ((if (im_i M 23 2) = 1 then 1 else (if ¬ (im_i M 23 2) = 2 then 0 else 1)) : Int32)) → Q10 y19 → ia (tb_G L xs) (dep + 3) J_HField_layOthers (rwI w Q) (68, L', [.int y19], M) := by
      intro y19 L' l20 l21 l22 l23 l24 l25 l26 h
      replace h := hQ10 _ h
      refine iq_istore hS 70 J_HField_layOthers_d68 (by decide) rfl ?_
      refine iq_aload_n hS 71 J_HField_layOthers_d70 (lk_1r l21 (by decide)) rfl ?_
      refine iq_iload hS 73 J_HField_layOthers_d71 (lk_1i l25 (by decide)) rfl ?_
      refine iq_aload_n hS 74 J_HField_layOthers_d73 (lk_1r l20 (by decide)) rfl ?_
      refine iq_getI hS 77 J_HField_layOthers_d74 lf_2_34 (Or.inl rfl) (ka_23 hM) rfl ?_
      refine iq_iload_n hS 78 J_HField_layOthers_d77 (lk_1i l22 (by decide)) rfl ?_
      refine iq_iload_n hS 79 J_HField_layOthers_d78 (lk_1i l23 (by decide)) rfl ?_
      refine iq_iload hS 81 J_HField_layOthers_d79 lk_1s rfl ?_
      obtain ⟨Q27, hQ27, h⟩ := bd1_ed h
      refine iq_cwV hS 84 J_HField_layOthers_d81 rfl (pr_inst (vs := [_, _, _, _, _]) lc_2_90 lT_52 rfl rfl (by decide) (by decide) rfl (Nat.le_of_ble_eq_true rfl) (Nat.le_of_ble_eq_true rfl) (fun _ => Or.inl (pr_b (ka_19 hM) (by decide) rfl))) (f_HOrders_lay_ok (dep := dep + 0) hM h) rfl ?_
      intro M27 hM27 h
      replace h := hQ27 _ h
      refine iq_aload_n hS 85 J_HField_layOthers_d84 (lk_1r l21 (by decide)) rfl ?_
      refine iq_iload hS 87 J_HField_layOthers_d85 (lk_1i l25 (by decide)) rfl ?_
      refine iq_aload_n hS 88 J_HField_layOthers_d87 (lk_1r l20 (by decide)) rfl ?_
      refine iq_getR hS 91 J_HField_layOthers_d88 lf_2_9 (Or.inr ⟨_, rfl⟩) (ka_23 hM27) (ra_23_3 hM27) rfl ?_
      refine iq_iconst hS 92 J_HField_layOthers_d91 (v := 0) (by decide +kernel) rfl ?_
      obtain ⟨g92, h⟩ := ed_gd h
      refine iq_iaload hS 93 J_HField_layOthers_d92 ⟨(ka_24 hM27).1, (ka_24 hM27).2, g92.1, ix_lt (kl_24 hM27) g92.2⟩ rfl ?_
      refine iq_aload_n hS 94 J_HField_layOthers_d93 (lk_1r l20 (by decide)) rfl ?_
      refine iq_getI hS 97 J_HField_layOthers_d94 lf_2_34 (Or.inl rfl) (ka_23 hM27) rfl ?_
      refine iq_bipush hS 99 J_HField_layOthers_d97 (v := 7) (by decide +kernel) rfl ?_
      obtain ⟨Q28, hQ28, h⟩ := bd1_ed h
      have J28 : ∀ (y29 : Int32) (L' : List (Nat × Value)), im_lk L' 0 = some (.ref 23) → im_lk L' 1 = some (.ref 19) → im_lk L' 2 = some (.int p1) → im_lk L' 3 = some (.int p2) → im_lk L' 4 = some (.ref 18) → im_lk L' 5 = some (.int (im_i M 19 3)) → im_lk L' 6 = some (.int ((if (im_i M 23 2) = 1 then 1 else (if ¬ (im_i M 23 2) = 2 then 0 else 1)) : Int32)) → im_lk L' 7 = some (.int y19) → Q28 y29 → ia (tb_G L xs) (dep + 3) J_HField_layOthers (rwI w Q) (112, L', [.int y29, .int (im_i M27 24 (Int32.toNatClampNeg 0)), .int (im_i M 19 3), .ref 19], M27) := by
        intro y29 L' l30 l31 l32 l33 l34 l35 l36 l37 h
        replace h := hQ28 _ h
        refine iq_iload hS 114 J_HField_layOthers_d112 l36 rfl ?_
        obtain ⟨Q38, hQ38, h⟩ := bd1_ed h
        have J38 : ∀ (y47 : Int32) (L' : List (Nat × Value)), im_lk L' 0 = some (.ref 23) → im_lk L' 1 = some (.ref 19) → im_lk L' 2 = some (.int p1) → im_lk L' 3 = some (.int p2) → im_lk L' 4 = some (.ref 18) → im_lk L' 5 = some (.int (im_i M 19 3)) → im_lk L' 7 = some (.int y19) → Q38 y47 → ia (tb_G L xs) (dep + 3) J_HField_layOthers (rwI w Q) (136, L', [.int y47, .int y29, .int (im_i M27 24 (Int32.toNatClampNeg 0)), .int (im_i M 19 3), .ref 19], M27) := by
          intro y47 L' l48 l49 l50 l51 l52 l53 l54 h
          replace h := hQ38 _ h
          obtain ⟨Q55, hQ55, h⟩ := bd1_ed h
          refine iq_cwV hS 139 J_HField_layOthers_d136 rfl (pr_inst (vs := [_, _, _, _]) lc_2_94 lT_65 rfl rfl (by decide) (by decide) rfl (Nat.le_of_ble_eq_true rfl) (Nat.le_of_ble_eq_true rfl) (fun _ => Or.inl (pr_b (ka_19 hM27) (by decide) rfl))) (f_HOrders_number_ok (dep := dep + 2) hM27 h) rfl ?_
          intro M55 hM55 h
          replace h := hQ55 _ h
          refine iq_aload_n hS 140 J_HField_layOthers_d139 l49 rfl ?_
          refine iq_iload hS 142 J_HField_layOthers_d140 l53 rfl ?_
          refine iq_iload hS 144 J_HField_layOthers_d142 l53 rfl ?_
          refine iq_iconst hS 145 J_HField_layOthers_d144 (v := 0) (by decide +kernel) rfl ?_
          refine iq_aload_n hS 146 J_HField_layOthers_d145 l48 rfl ?_
          refine iq_getI hS 149 J_HField_layOthers_d146 lf_2_34 (Or.inl rfl) (ka_23 hM55) rfl ?_
          refine iq_iconst hS 150 J_HField_layOthers_d149 (v := 3) (by decide +kernel) rfl ?_
          obtain ⟨Q56, hQ56, h⟩ := bd1_ed h
          have J56 : ∀ (y57 : Int32) (L' : List (Nat × Value)), im_lk L' 0 = some (.ref 23) → im_lk L' 1 = some (.ref 19) → im_lk L' 2 = some (.int p1) → im_lk L' 3 = some (.int p2) → im_lk L' 4 = some (.ref 18) → im_lk L' 5 = some (.int (im_i M 19 3)) → im_lk L' 7 = some (.int y19) → Q56 y57 → ia (tb_G L xs) (dep + 3) J_HField_layOthers (rwI w Q) (179, L', [.int y57, .int 0, .int (im_i M 19 3), .int (im_i M 19 3), .ref 19], M55) := by
            intro y57 L' l58 l59 l60 l61 l62 l63 l64 h
            replace h := hQ56 _ h
            obtain ⟨Q65, hQ65, h⟩ := bd1_ed h
            refine iq_cwV hS 182 J_HField_layOthers_d179 rfl (pr_inst (vs := [_, _, _, _]) lc_2_98 lT_66 rfl rfl (by decide) (by decide) rfl (Nat.le_of_ble_eq_true rfl) (Nat.le_of_ble_eq_true rfl) (fun _ => Or.inl (pr_b (ka_19 hM55) (by decide) rfl))) (f_HOrders_slice_ok (dep := dep + 2) hM55 h) rfl ?_
            intro M65 hM65 h
            replace h := hQ65 _ h
            refine iq_aload_n hS 183 J_HField_layOthers_d182 l58 rfl ?_
            refine iq_getI hS 186 J_HField_layOthers_d183 lf_2_34 (Or.inl rfl) (ka_23 hM65) rfl ?_
            refine iq_iconst hS 187 J_HField_layOthers_d186 (v := 1) (by decide +kernel) rfl ?_
            refine iq_icmp_ne hS 190 J_HField_layOthers_d187 (t := 199) rfl (fun q187 => ?_) rfl (fun q187 => ?_)
            · replace h := ed_pos q187 h
              refine iq_iconst hS 200 J_HField_layOthers_d199 (v := 1) (by decide +kernel) rfl ?_
              exact iq_iret J_HField_layOthers_d200 rfl rfl ⟨_, rfl, hM65, ed_some h⟩
            · replace h := ed_neg q187 h
              refine iq_aload_n hS 191 J_HField_layOthers_d190 l58 rfl ?_
              refine iq_getR hS 194 J_HField_layOthers_d191 lf_2_9 (Or.inr ⟨_, rfl⟩) (ka_23 hM65) (ra_23_3 hM65) rfl ?_
              refine iq_iconst hS 195 J_HField_layOthers_d194 (v := 3) (by decide +kernel) rfl ?_
              obtain ⟨g195, h⟩ := ed_gd h
              refine iq_iaload hS 196 J_HField_layOthers_d195 ⟨(ka_24 hM65).1, (ka_24 hM65).2, g195.1, ix_lt (kl_24 hM65) g195.2⟩ rfl ?_
              refine iq_if_ne hS 199 J_HField_layOthers_d196 (t := 201) rfl (fun q196 => ?_) rfl (fun q196 => ?_)
              · replace h := ed_pos q196 h
                refine iq_aload_n hS 202 J_HField_layOthers_d201 l59 rfl ?_
                refine iq_iload hS 204 J_HField_layOthers_d202 l63 rfl ?_
                refine iq_iconst hS 205 J_HField_layOthers_d204 (v := 1) (by decide +kernel) rfl ?_
                refine iq_iadd hS 206 J_HField_layOthers_d205 rfl ?_
                refine iq_iconst hS 207 J_HField_layOthers_d206 (v := 0) (by decide +kernel) rfl ?_
                refine iq_iload_n hS 208 J_HField_layOthers_d207 l60 rfl ?_
                refine iq_iload_n hS 209 J_HField_layOthers_d208 l61 rfl ?_
                refine iq_iload hS 211 J_HField_layOthers_d209 l64 rfl ?_
                obtain ⟨Q66, hQ66, h⟩ := bd1_ed h
                refine iq_cwV hS 214 J_HField_layOthers_d211 rfl (pr_inst (vs := [_, _, _, _, _]) lc_2_90 lT_52 rfl rfl (by decide) (by decide) rfl (Nat.le_of_ble_eq_true rfl) (Nat.le_of_ble_eq_true rfl) (fun _ => Or.inl (pr_b (ka_19 hM65) (by decide) rfl))) (f_HOrders_lay_ok (dep := dep + 0) hM65 h) rfl ?_
                intro M66 hM66 h
                replace h := hQ66 _ h
                refine iq_aload_n hS 215 J_HField_layOthers_d214 l59 rfl ?_
                refine iq_iload hS 217 J_HField_layOthers_d215 l63 rfl ?_
                refine iq_iconst hS 218 J_HField_layOthers_d217 (v := 1) (by decide +kernel) rfl ?_
                refine iq_iadd hS 219 J_HField_layOthers_d218 rfl ?_
                refine iq_iconst hS 220 J_HField_layOthers_d219 (v := 0) (by decide +kernel) rfl ?_
                refine iq_aload_n hS 221 J_HField_layOthers_d220 l58 rfl ?_
                refine iq_getR hS 224 J_HField_layOthers_d221 lf_2_9 (Or.inr ⟨_, rfl⟩) (ka_23 hM66) (ra_23_3 hM66) rfl ?_
                refine iq_iconst hS 225 J_HField_layOthers_d224 (v := 1) (by decide +kernel) rfl ?_
                obtain ⟨g225, h⟩ := ed_gd h
                refine iq_iaload hS 226 J_HField_layOthers_d225 ⟨(ka_24 hM66).1, (ka_24 hM66).2, g225.1, ix_lt (kl_24 hM66) g225.2⟩ rfl ?_
                refine iq_iconst hS 227 J_HField_layOthers_d226 (v := 3) (by decide +kernel) rfl ?_
                refine iq_iadd hS 228 J_HField_layOthers_d227 rfl ?_
                obtain ⟨Q67, hQ67, h⟩ := bd1_ed h
                refine iq_cwV hS 231 J_HField_layOthers_d228 rfl (pr_inst (vs := [_, _, _]) lc_2_101 lT_64 rfl rfl (by decide) (by decide) rfl (Nat.le_of_ble_eq_true rfl) (Nat.le_of_ble_eq_true rfl) (fun _ => Or.inl (pr_b (ka_19 hM66) (by decide) rfl))) (f_HOrders_move_ok (dep := dep + 2) hM66 h) rfl ?_
                intro M67 hM67 h
                replace h := hQ67 _ h
                refine iq_aload_n hS 232 J_HField_layOthers_d231 l59 rfl ?_
                refine iq_iload hS 234 J_HField_layOthers_d232 l63 rfl ?_
                refine iq_iconst hS 235 J_HField_layOthers_d234 (v := 1) (by decide +kernel) rfl ?_
                refine iq_iadd hS 236 J_HField_layOthers_d235 rfl ?_
                refine iq_aload hS 238 J_HField_layOthers_d236 l62 rfl ?_
                refine iq_iconst hS 239 J_HField_layOthers_d238 (v := 0) (by decide +kernel) rfl ?_
                obtain ⟨g239, h⟩ := ed_gd h
                refine iq_iaload hS 240 J_HField_layOthers_d239 ⟨(ka_18 hM67).1, (ka_18 hM67).2, g239.1, ix_lt (kl_18 hM67) g239.2⟩ rfl ?_
                refine iq_aload hS 242 J_HField_layOthers_d240 l62 rfl ?_
                refine iq_iconst hS 243 J_HField_layOthers_d242 (v := 1) (by decide +kernel) rfl ?_
                obtain ⟨g243, h⟩ := ed_gd h
                refine iq_iaload hS 244 J_HField_layOthers_d243 ⟨(ka_18 hM67).1, (ka_18 hM67).2, g243.1, ix_lt (kl_18 hM67) g243.2⟩ rfl ?_
                refine iq_aload hS 246 J_HField_layOthers_d244 l62 rfl ?_
                refine iq_iconst hS 247 J_HField_layOthers_d246 (v := 2) (by decide +kernel) rfl ?_
                obtain ⟨g247, h⟩ := ed_gd h
                refine iq_iaload hS 248 J_HField_layOthers_d247 ⟨(ka_18 hM67).1, (ka_18 hM67).2, g247.1, ix_lt (kl_18 hM67) g247.2⟩ rfl ?_
                obtain ⟨Q68, hQ68, h⟩ := bd1_ed h
                refine iq_cwV hS 251 J_HField_layOthers_d248 rfl (pr_inst (vs := [_, _, _, _]) lc_2_94 lT_65 rfl rfl (by decide) (by decide) rfl (Nat.le_of_ble_eq_true rfl) (Nat.le_of_ble_eq_true rfl) (fun _ => Or.inl (pr_b (ka_19 hM67) (by decide) rfl))) (f_HOrders_number_ok (dep := dep + 2) hM67 h) rfl ?_
                intro M68 hM68 h
                replace h := hQ68 _ h
                refine iq_aload_n hS 252 J_HField_layOthers_d251 l59 rfl ?_
                refine iq_iload hS 254 J_HField_layOthers_d252 l63 rfl ?_
                refine iq_iconst hS 255 J_HField_layOthers_d254 (v := 1) (by decide +kernel) rfl ?_
                refine iq_iadd hS 256 J_HField_layOthers_d255 rfl ?_
                refine iq_iload hS 258 J_HField_layOthers_d256 l63 rfl ?_
                refine iq_iconst hS 259 J_HField_layOthers_d258 (v := 0) (by decide +kernel) rfl ?_
                refine iq_aload_n hS 260 J_HField_layOthers_d259 l58 rfl ?_
                refine iq_getI hS 263 J_HField_layOthers_d260 lf_2_47 (Or.inl rfl) (ka_23 hM68) rfl ?_
                obtain ⟨Q69, hQ69, h⟩ := bd1_ed h
                refine iq_cwV hS 266 J_HField_layOthers_d263 rfl (pr_inst (vs := [_, _, _, _]) lc_2_98 lT_66 rfl rfl (by decide) (by decide) rfl (Nat.le_of_ble_eq_true rfl) (Nat.le_of_ble_eq_true rfl) (fun _ => Or.inl (pr_b (ka_19 hM68) (by decide) rfl))) (f_HOrders_slice_ok (dep := dep + 2) hM68 h) rfl ?_
                intro M69 hM69 h
                replace h := hQ69 _ h
                refine iq_iconst hS 267 J_HField_layOthers_d266 (v := 2) (by decide +kernel) rfl ?_
                exact iq_iret J_HField_layOthers_d267 rfl rfl ⟨_, rfl, hM69, ed_some h⟩
              · replace h := ed_neg q196 h
                refine iq_iconst hS 200 J_HField_layOthers_d199 (v := 1) (by decide +kernel) rfl ?_
                exact iq_iret J_HField_layOthers_d200 rfl rfl ⟨_, rfl, hM65, ed_some h⟩
          refine iq_icmp_gt hS 153 J_HField_layOthers_d150 (t := 160) rfl (fun q150 => ?_) rfl (fun q150 => ?_)
          · replace h := ed_pos q150 h
            refine iq_aload_n hS 161 J_HField_layOthers_d160 l48 rfl ?_
            refine iq_getI hS 164 J_HField_layOthers_d161 lf_2_34 (Or.inl rfl) (ka_23 hM55) rfl ?_
            refine iq_bipush hS 166 J_HField_layOthers_d164 (v := 7) (by decide +kernel) rfl ?_
            refine iq_icmp_ne hS 169 J_HField_layOthers_d166 (t := 178) rfl (fun q166 => ?_) rfl (fun q166 => ?_)
            · replace h := ed_pos q166 h
              refine iq_iconst hS 179 J_HField_layOthers_d178 (v := 0) (by decide +kernel) rfl ?_
              exact J56 _ _ l48 l49 l50 l51 l52 l53 l54 (ed_some h)
            · replace h := ed_neg q166 h
              refine iq_aload_n hS 170 J_HField_layOthers_d169 l48 rfl ?_
              refine iq_getI hS 173 J_HField_layOthers_d170 lf_2_47 (Or.inl rfl) (ka_23 hM55) rfl ?_
              refine iq_iconst hS 174 J_HField_layOthers_d173 (v := 2) (by decide +kernel) rfl ?_
              refine iq_idiv hS 175 J_HField_layOthers_d174 (by decide) rfl ?_
              refine iq_goto hS J_HField_layOthers_d175 (t := 179) rfl ?_
              exact J56 _ _ l48 l49 l50 l51 l52 l53 l54 (ed_some h)
          · replace h := ed_neg q150 h
            refine iq_aload_n hS 154 J_HField_layOthers_d153 l48 rfl ?_
            refine iq_getI hS 157 J_HField_layOthers_d154 lf_2_47 (Or.inl rfl) (ka_23 hM55) rfl ?_
            refine iq_goto hS J_HField_layOthers_d157 (t := 179) rfl ?_
            exact J56 _ _ l48 l49 l50 l51 l52 l53 l54 (ed_some h)
        obtain ⟨k39, Q39, hQ39, hk39, h⟩ := jn0_ed h
        have J39 : ∀  (L' : List (Nat × Value)), im_lk L' 0 = some (.ref 23) → im_lk L' 1 = some (.ref 19) → im_lk L' 2 = some (.int p1) → im_lk L' 3 = some (.int p2) → im_lk L' 4 = some (.ref 18) → im_lk L' 5 = some (.int (im_i M 19 3)) → im_lk L' 7 = some (.int y19) → Q39 () → ia (tb_G L xs) (dep + 3) J_HField_layOthers (rwI w Q) (126, L', [.int y29, .int (im_i M27 24 (Int32.toNatClampNeg 0)), .int (im_i M 19 3), .ref 19], M27) := by
          intro  L' l40 l41 l42 l43 l44 l45 l46 h
          replace h := hQ39  h
          refine iq_iconst hS 127 J_HField_layOthers_d126 (v := 0) (by decide +kernel) rfl ?_
          refine iq_goto hS J_HField_layOthers_d127 (t := 136) rfl ?_
          exact J38 _ _ l40 l41 l42 l43 l44 l45 l46 (ed_some h)
        refine iq_if_ne hS 117 J_HField_layOthers_d114 (t := 126) rfl (fun q114 => ?_) rfl (fun q114 => ?_)
        · replace h := ed_pos q114 h
          exact J39  _ l30 l31 l32 l33 l34 l35 l37 (hk39  h)
        · replace h := ed_neg q114 h
          refine iq_aload_n hS 118 J_HField_layOthers_d117 l30 rfl ?_
          refine iq_getI hS 121 J_HField_layOthers_d118 lf_2_34 (Or.inl rfl) (ka_23 hM27) rfl ?_
          refine iq_bipush hS 123 J_HField_layOthers_d121 (v := 7) (by decide +kernel) rfl ?_
          refine iq_icmp_ne hS 126 J_HField_layOthers_d123 (t := 130) rfl (fun q123 => ?_) rfl (fun q123 => ?_)
          · replace h := ed_pos q123 h
            refine iq_aload_n hS 131 J_HField_layOthers_d130 l30 rfl ?_
            refine iq_getR hS 134 J_HField_layOthers_d131 lf_2_9 (Or.inr ⟨_, rfl⟩) (ka_23 hM27) (ra_23_3 hM27) rfl ?_
            refine iq_iconst hS 135 J_HField_layOthers_d134 (v := 2) (by decide +kernel) rfl ?_
            obtain ⟨g135, h⟩ := ed_gd h
            refine iq_iaload hS 136 J_HField_layOthers_d135 ⟨(ka_24 hM27).1, (ka_24 hM27).2, g135.1, ix_lt (kl_24 hM27) g135.2⟩ rfl ?_
            exact J38 _ _ l30 l31 l32 l33 l34 l35 l37 (ed_some h)
          · replace h := ed_neg q123 h
            exact J39  _ l30 l31 l32 l33 l34 l35 l37 (hk39  h)
      refine iq_icmp_ne hS 102 J_HField_layOthers_d99 (t := 106) rfl (fun q99 => ?_) rfl (fun q99 => ?_)
      · replace h := ed_pos q99 h
        refine iq_aload_n hS 107 J_HField_layOthers_d106 (lk_1r l20 (by decide)) rfl ?_
        refine iq_getR hS 110 J_HField_layOthers_d107 lf_2_9 (Or.inr ⟨_, rfl⟩) (ka_23 hM27) (ra_23_3 hM27) rfl ?_
        refine iq_iconst hS 111 J_HField_layOthers_d110 (v := 1) (by decide +kernel) rfl ?_
        obtain ⟨g111, h⟩ := ed_gd h
        refine iq_iaload hS 112 J_HField_layOthers_d111 ⟨(ka_24 hM27).1, (ka_24 hM27).2, g111.1, ix_lt (kl_24 hM27) g111.2⟩ rfl ?_
        exact J28 _ _ (lk_1r l20 (by decide)) (lk_1r l21 (by decide)) (lk_1i l22 (by decide)) (lk_1i l23 (by decide)) (lk_1r l24 (by decide)) (lk_1i l25 (by decide)) (lk_1i l26 (by decide)) lk_1s (ed_some h)
      · replace h := ed_neg q99 h
        refine iq_iconst hS 103 J_HField_layOthers_d102 (v := 0) (by decide +kernel) rfl ?_
        refine iq_goto hS J_HField_layOthers_d103 (t := 112) rfl ?_
        exact J28 _ _ (lk_1r l20 (by decide)) (lk_1r l21 (by decide)) (lk_1i l22 (by decide)) (lk_1i l23 (by decide)) (lk_1r l24 (by decide)) (lk_1i l25 (by decide)) (lk_1i l26 (by decide)) lk_1s (ed_some h)
    refine iq_if_eq hS 34 J_HField_layOthers_d31 (t := 43) rfl (fun q31 => ?_) rfl (fun q31 => ?_)
    · replace h := ed_pos q31 h
      refine iq_aload_n hS 44 J_HField_layOthers_d43 (lk_1r l4 (by decide)) rfl ?_
      refine iq_getI hS 47 J_HField_layOthers_d44 lf_2_34 (Or.inl rfl) (ka_23 hM) rfl ?_
      obtain ⟨k11, Q11, hQ11, hk11, h⟩ := jn0_ed h
      have J11 : ∀  (L' : List (Nat × Value)), im_lk L' 0 = some (.ref 23) → im_lk L' 1 = some (.ref 19) → im_lk L' 2 = some (.int p1) → im_lk L' 3 = some (.int p2) → im_lk L' 4 = some (.ref 18) → im_lk L' 5 = some (.int (im_i M 19 3)) → im_lk L' 6 = some (.int ((if (im_i M 23 2) = 1 then 1 else (if ¬ (im_i M 23 2) = 2 then 0 else 1)) : Int32)) → Q11 () → ia (tb_G L xs) (dep + 3) J_HField_layOthers (rwI w Q) (58, L', [], M) := by
        intro  L' l12 l13 l14 l15 l16 l17 l18 h
        replace h := hQ11  h
        refine iq_aload_n hS 59 J_HField_layOthers_d58 l12 rfl ?_
        refine iq_getR hS 62 J_HField_layOthers_d59 lf_2_9 (Or.inr ⟨_, rfl⟩) (ka_23 hM) (ra_23_3 hM) rfl ?_
        refine iq_iconst hS 63 J_HField_layOthers_d62 (v := 3) (by decide +kernel) rfl ?_
        obtain ⟨g63, h⟩ := ed_gd h
        refine iq_iaload hS 64 J_HField_layOthers_d63 ⟨(ka_24 hM).1, (ka_24 hM).2, g63.1, ix_lt (kl_24 hM) g63.2⟩ rfl ?_
        refine iq_goto hS J_HField_layOthers_d64 (t := 68) rfl ?_
        exact J10 _ _ l12 l13 l14 l15 l16 l17 l18 (ed_some h)
      refine iq_if_eq hS 50 J_HField_layOthers_d47 (t := 58) rfl (fun q47 => ?_) rfl (fun q47 => ?_)
      · replace h := ed_pos q47 h
        exact J11  _ (lk_1r l4 (by decide)) (lk_1r l5 (by decide)) (lk_1i l6 (by decide)) (lk_1i l7 (by decide)) (lk_1r l8 (by decide)) (lk_1i l9 (by decide)) lk_1s (hk11  h)
      · replace h := ed_neg q47 h
        refine iq_aload_n hS 51 J_HField_layOthers_d50 (lk_1r l4 (by decide)) rfl ?_
        refine iq_getI hS 54 J_HField_layOthers_d51 lf_2_34 (Or.inl rfl) (ka_23 hM) rfl ?_
        refine iq_iconst hS 55 J_HField_layOthers_d54 (v := 3) (by decide +kernel) rfl ?_
        refine iq_icmp_ne hS 58 J_HField_layOthers_d55 (t := 67) rfl (fun q55 => ?_) rfl (fun q55 => ?_)
        · replace h := ed_pos q55 h
          refine iq_iconst hS 68 J_HField_layOthers_d67 (v := 0) (by decide +kernel) rfl ?_
          exact J10 _ _ (lk_1r l4 (by decide)) (lk_1r l5 (by decide)) (lk_1i l6 (by decide)) (lk_1i l7 (by decide)) (lk_1r l8 (by decide)) (lk_1i l9 (by decide)) lk_1s (ed_some h)
        · replace h := ed_neg q55 h
          exact J11  _ (lk_1r l4 (by decide)) (lk_1r l5 (by decide)) (lk_1i l6 (by decide)) (lk_1i l7 (by decide)) (lk_1r l8 (by decide)) (lk_1i l9 (by decide)) lk_1s (hk11  h)
    · replace h := ed_neg q31 h
      refine iq_aload_n hS 35 J_HField_layOthers_d34 (lk_1r l4 (by decide)) rfl ?_
      refine iq_getR hS 38 J_HField_layOthers_d35 lf_2_9 (Or.inr ⟨_, rfl⟩) (ka_23 hM) (ra_23_3 hM) rfl ?_
      refine iq_iconst hS 39 J_HField_layOthers_d38 (v := 2) (by decide +kernel) rfl ?_
      obtain ⟨g39, h⟩ := ed_gd h
      refine iq_iaload hS 40 J_HField_layOthers_d39 ⟨(ka_24 hM).1, (ka_24 hM).2, g39.1, ix_lt (kl_24 hM) g39.2⟩ rfl ?_
      refine iq_goto hS J_HField_layOthers_d40 (t := 68) rfl ?_
      exact J10 _ _ (lk_1r l4 (by decide)) (lk_1r l5 (by decide)) (lk_1i l6 (by decide)) (lk_1i l7 (by decide)) (lk_1r l8 (by decide)) (lk_1i l9 (by decide)) lk_1s (ed_some h)
  refine iq_icmp_eq hS 14 J_HField_layOthers_d11 (t := 22) rfl (fun q11 => ?_) rfl (fun q11 => ?_)
  · refine iq_iconst hS 23 J_HField_layOthers_d22 (v := 1) (by decide +kernel) rfl ?_
    refine iq_goto hS J_HField_layOthers_d23 (t := 27) rfl ?_
    exact J1 _ _ (by simp only [if_pos q11]) (lk_1r l0 (by decide)) (lk_1r l1 (by decide)) (lk_1i l2 (by decide)) (lk_1i l3 (by decide)) (lk_1r l4 (by decide)) lk_1s
  · refine iq_aload_n hS 15 J_HField_layOthers_d14 (lk_1r l0 (by decide)) rfl ?_
    refine iq_getI hS 18 J_HField_layOthers_d15 lf_2_34 (Or.inl rfl) (ka_23 hM) rfl ?_
    refine iq_iconst hS 19 J_HField_layOthers_d18 (v := 2) (by decide +kernel) rfl ?_
    refine iq_icmp_ne hS 22 J_HField_layOthers_d19 (t := 26) rfl (fun q19 => ?_) rfl (fun q19 => ?_)
    · refine iq_iconst hS 27 J_HField_layOthers_d26 (v := 0) (by decide +kernel) rfl ?_
      exact J1 _ _ (by simp only [if_neg q11, if_pos q19]) (lk_1r l0 (by decide)) (lk_1r l1 (by decide)) (lk_1i l2 (by decide)) (lk_1i l3 (by decide)) (lk_1r l4 (by decide)) lk_1s
    · refine iq_iconst hS 23 J_HField_layOthers_d22 (v := 1) (by decide +kernel) rfl ?_
      refine iq_goto hS J_HField_layOthers_d23 (t := 27) rfl ?_
      exact J1 _ _ (by simp only [if_neg q11, if_neg q19]) (lk_1r l0 (by decide)) (lk_1r l1 (by decide)) (lk_1i l2 (by decide)) (lk_1i l3 (by decide)) (lk_1r l4 (by decide)) lk_1s
theorem f_HField_layOthers_fr {p1 : Int32} {p2 : Int32} {M : im_M} {r : Int32 × im_M} (h : f_HField_layOthers p1 p2 M = some r) : fr 2097152 [] M r.2 := by
  replace h : ed (f_HField_layOthers p1 p2 M) (fun x => x = r) := ⟨r, h, rfl⟩
  unfold f_HField_layOthers at h
  obtain ⟨Q2, hQ2, h⟩ := bd1_ed h
  have J2 : ∀ (y11 : Int32), Q2 y11 → fr 2097152 [] M r.2 := by
    intro y11 h
    replace h := hQ2 _ h
    obtain ⟨Q19, hQ19, h⟩ := bd1_ed h
    obtain ⟨M19, e19, h⟩ := h
    replace h := hQ19 _ h
    obtain ⟨g92, h⟩ := ed_gd h
    obtain ⟨Q20, hQ20, h⟩ := bd1_ed h
    have J20 : ∀ (y21 : Int32), Q20 y21 → fr 2097152 [] M r.2 := by
      intro y21 h
      replace h := hQ20 _ h
      obtain ⟨Q30, hQ30, h⟩ := bd1_ed h
      have J30 : ∀ (y39 : Int32), Q30 y39 → fr 2097152 [] M r.2 := by
        intro y39 h
        replace h := hQ30 _ h
        obtain ⟨Q47, hQ47, h⟩ := bd1_ed h
        obtain ⟨M47, e47, h⟩ := h
        replace h := hQ47 _ h
        obtain ⟨Q48, hQ48, h⟩ := bd1_ed h
        have J48 : ∀ (y49 : Int32), Q48 y49 → fr 2097152 [] M r.2 := by
          intro y49 h
          replace h := hQ48 _ h
          obtain ⟨Q57, hQ57, h⟩ := bd1_ed h
          obtain ⟨M57, e57, h⟩ := h
          replace h := hQ57 _ h
          by_cases q187 : ¬ (im_i M57 23 2) = 1
          · replace h := ed_pos q187 h
            exact fr_ret h (fr_tr (fr_mono (by decide) (by decide +kernel) (f_HOrders_slice_fr e57)) (fr_tr (fr_mono (by decide) (by decide +kernel) (f_HOrders_number_fr e47)) (fr_tr (fr_mono (by decide) (by decide +kernel) (f_HOrders_lay_fr e19)) fr_refl)))
          · replace h := ed_neg q187 h
            obtain ⟨g195, h⟩ := ed_gd h
            by_cases q196 : ¬ (im_i M57 24 (Int32.toNatClampNeg 3)) = 0
            · replace h := ed_pos q196 h
              obtain ⟨Q58, hQ58, h⟩ := bd1_ed h
              obtain ⟨M58, e58, h⟩ := h
              replace h := hQ58 _ h
              obtain ⟨g225, h⟩ := ed_gd h
              obtain ⟨Q59, hQ59, h⟩ := bd1_ed h
              obtain ⟨M59, e59, h⟩ := h
              replace h := hQ59 _ h
              obtain ⟨g239, h⟩ := ed_gd h
              obtain ⟨g243, h⟩ := ed_gd h
              obtain ⟨g247, h⟩ := ed_gd h
              obtain ⟨Q60, hQ60, h⟩ := bd1_ed h
              obtain ⟨M60, e60, h⟩ := h
              replace h := hQ60 _ h
              obtain ⟨Q61, hQ61, h⟩ := bd1_ed h
              obtain ⟨M61, e61, h⟩ := h
              replace h := hQ61 _ h
              exact fr_ret h (fr_tr (fr_mono (by decide) (by decide +kernel) (f_HOrders_slice_fr e61)) (fr_tr (fr_mono (by decide) (by decide +kernel) (f_HOrders_number_fr e60)) (fr_tr (fr_mono (by decide) (by decide +kernel) (f_HOrders_move_fr e59)) (fr_tr (fr_mono (by decide) (by decide +kernel) (f_HOrders_lay_fr e58)) (fr_tr (fr_mono (by decide) (by decide +kernel) (f_HOrders_slice_fr e57)) (fr_tr (fr_mono (by decide) (by decide +kernel) (f_HOrders_number_fr e47)) (fr_tr (fr_mono (by decide) (by decide +kernel) (f_HOrders_lay_fr e19)) fr_refl)))))))
            · replace h := ed_neg q196 h
              exact fr_ret h (fr_tr (fr_mono (by decide) (by decide +kernel) (f_HOrders_slice_fr e57)) (fr_tr (fr_mono (by decide) (by decide +kernel) (f_HOrders_number_fr e47)) (fr_tr (fr_mono (by decide) (by decide +kernel) (f_HOrders_lay_fr e19)) fr_refl)))
        by_cases q150 : 3 < (im_i M47 23 2)
        · replace h := ed_pos q150 h
          by_cases q166 : ¬ (im_i M47 23 2) = 7
          · replace h := ed_pos q166 h
            exact J48 _ (ed_some h)
          · replace h := ed_neg q166 h
            exact J48 _ (ed_some h)
        · replace h := ed_neg q150 h
          exact J48 _ (ed_some h)
      obtain ⟨k31, Q31, hQ31, hk31, h⟩ := jn0_ed h
      have J31 : Q31 () → fr 2097152 [] M r.2 := by
        intro  h
        replace h := hQ31  h
        exact J30 _ (ed_some h)
      by_cases q114 : ¬ ((if (im_i M 23 2) = 1 then 1 else (if ¬ (im_i M 23 2) = 2 then 0 else 1)) : Int32) = 0
      · replace h := ed_pos q114 h
        exact J31  (hk31  h)
      · replace h := ed_neg q114 h
        by_cases q123 : ¬ (im_i M19 23 2) = 7
        · replace h := ed_pos q123 h
          obtain ⟨g135, h⟩ := ed_gd h
          exact J30 _ (ed_some h)
        · replace h := ed_neg q123 h
          exact J31  (hk31  h)
    by_cases q99 : ¬ (im_i M19 23 2) = 7
    · replace h := ed_pos q99 h
      obtain ⟨g111, h⟩ := ed_gd h
      exact J20 _ (ed_some h)
    · replace h := ed_neg q99 h
      exact J20 _ (ed_some h)
  by_cases q31 : ((if (im_i M 23 2) = 1 then 1 else (if ¬ (im_i M 23 2) = 2 then 0 else 1)) : Int32) = 0
  · replace h := ed_pos q31 h
    obtain ⟨k3, Q3, hQ3, hk3, h⟩ := jn0_ed h
    have J3 : Q3 () → fr 2097152 [] M r.2 := by
      intro  h
      replace h := hQ3  h
      obtain ⟨g63, h⟩ := ed_gd h
      exact J2 _ (ed_some h)
    by_cases q47 : (im_i M 23 2) = 0
    · replace h := ed_pos q47 h
      exact J3  (hk3  h)
    · replace h := ed_neg q47 h
      by_cases q55 : ¬ (im_i M 23 2) = 3
      · replace h := ed_pos q55 h
        exact J2 _ (ed_some h)
      · replace h := ed_neg q55 h
        exact J3  (hk3  h)
  · replace h := ed_neg q31 h
    obtain ⟨g39, h⟩ := ed_gd h
    exact J2 _ (ed_some h)
noncomputable def f_HField_layLines_L3 (v2 : Int32) (v3 : Int32) (x4 : Int32) (M5 : im_M) : Option ((Int32 × im_M) ⊕ (im_M)) := if (im_i M5 23 9) ≤ x4 then some (.inr M5) else if 20 ≤ x4 then some (.inr M5) else gd (inb 0 4) <| gd (inb x4 20) <| gd (inb 2 4) <| bd1 (if ¬ (im_i M5 24 (Int32.toNatClampNeg 2)) = 0 then gd (inb 2 4) <| if ¬ (im_i M5 24 (Int32.toNatClampNeg 2)) = 1 then some (((im_i M5 24 (Int32.toNatClampNeg 0)) - (im_i M5 27 (Int32.toNatClampNeg x4))) / 2) else some ((im_i M5 24 (Int32.toNatClampNeg 0)) - (im_i M5 27 (Int32.toNatClampNeg x4))) else some 0) fun (y7 : Int32) => gd (inb 3 4) <| bd1 (f_HOrders_lay ((im_i M5 19 3) + x4) 0 v2 v3 (im_i M5 18 (Int32.toNatClampNeg 3)) M5) fun (M15 : im_M) => gd (inb 3 4) <| gd (inb 1 4) <| bd1 (f_HOrders_move ((im_i M5 19 3) + x4) ((im_i M15 24 (Int32.toNatClampNeg 3)) * y7) ((im_i M15 24 (Int32.toNatClampNeg 1)) * x4) M15) fun (M16 : im_M) => gd (inb 0 4) <| gd (inb 1 4) <| gd (inb 2 4) <| bd1 (f_HOrders_number ((im_i M5 19 3) + x4) (im_i M16 18 (Int32.toNatClampNeg 0)) (im_i M16 18 (Int32.toNatClampNeg 1)) (im_i M16 18 (Int32.toNatClampNeg 2)) M16) fun (M17 : im_M) => gd (inb x4 20) <| gd (inb x4 20) <| bd1 (f_HOrders_slice ((im_i M5 19 3) + x4) (im_i M17 19 3) (im_i M17 26 (Int32.toNatClampNeg x4)) (im_i M17 27 (Int32.toNatClampNeg x4)) M17) fun (M18 : im_M) => some (.inl ((x4 + 1), M18))
noncomputable def f_HField_layLines (p1 : Int32) (p2 : Int32) (M : im_M) : Option (Int32 × im_M) := bd1 (lp (uc2 (f_HField_layLines_L3 p1 p2)) (0, M)) fun (M19 : im_M) => some ((im_i M19 23 9), M19)
theorem J_HField_layLines_d0 : decode J_HField_layLines.2.1 0 = .ok (.iconst 0, 1) := by decide +kernel
theorem J_HField_layLines_d1 : decode J_HField_layLines.2.1 1 = .ok (.istore 5, 2) := by decide +kernel
theorem J_HField_layLines_d3 : decode J_HField_layLines.2.1 3 = .ok (.iload 5, 2) := by decide +kernel
theorem J_HField_layLines_d5 : decode J_HField_layLines.2.1 5 = .ok (.aload_n 0, 1) := by decide +kernel
theorem J_HField_layLines_d6 : decode J_HField_layLines.2.1 6 = .ok (.getfield 105, 3) := by decide +kernel
theorem J_HField_layLines_d9 : decode J_HField_layLines.2.1 9 = .ok (.if_icmp .ge 154, 3) := by decide +kernel
theorem J_HField_layLines_d12 : decode J_HField_layLines.2.1 12 = .ok (.iload 5, 2) := by decide +kernel
theorem J_HField_layLines_d14 : decode J_HField_layLines.2.1 14 = .ok (.bipush 20, 2) := by decide +kernel
theorem J_HField_layLines_d16 : decode J_HField_layLines.2.1 16 = .ok (.if_icmp .ge 147, 3) := by decide +kernel
theorem J_HField_layLines_d19 : decode J_HField_layLines.2.1 19 = .ok (.aload_n 1, 1) := by decide +kernel
theorem J_HField_layLines_d20 : decode J_HField_layLines.2.1 20 = .ok (.getfield 81, 3) := by decide +kernel
theorem J_HField_layLines_d23 : decode J_HField_layLines.2.1 23 = .ok (.iload 5, 2) := by decide +kernel
theorem J_HField_layLines_d25 : decode J_HField_layLines.2.1 25 = .ok (.iadd, 1) := by decide +kernel
theorem J_HField_layLines_d26 : decode J_HField_layLines.2.1 26 = .ok (.istore 6, 2) := by decide +kernel
theorem J_HField_layLines_d28 : decode J_HField_layLines.2.1 28 = .ok (.aload_n 0, 1) := by decide +kernel
theorem J_HField_layLines_d29 : decode J_HField_layLines.2.1 29 = .ok (.getfield 9, 3) := by decide +kernel
theorem J_HField_layLines_d32 : decode J_HField_layLines.2.1 32 = .ok (.iconst 0, 1) := by decide +kernel
theorem J_HField_layLines_d33 : decode J_HField_layLines.2.1 33 = .ok (.iaload, 1) := by decide +kernel
theorem J_HField_layLines_d34 : decode J_HField_layLines.2.1 34 = .ok (.aload_n 0, 1) := by decide +kernel
theorem J_HField_layLines_d35 : decode J_HField_layLines.2.1 35 = .ok (.getfield 24, 3) := by decide +kernel
theorem J_HField_layLines_d38 : decode J_HField_layLines.2.1 38 = .ok (.iload 5, 2) := by decide +kernel
theorem J_HField_layLines_d40 : decode J_HField_layLines.2.1 40 = .ok (.iaload, 1) := by decide +kernel
theorem J_HField_layLines_d41 : decode J_HField_layLines.2.1 41 = .ok (.isub, 1) := by decide +kernel
theorem J_HField_layLines_d42 : decode J_HField_layLines.2.1 42 = .ok (.istore 7, 2) := by decide +kernel
theorem J_HField_layLines_d44 : decode J_HField_layLines.2.1 44 = .ok (.aload_n 0, 1) := by decide +kernel
theorem J_HField_layLines_d45 : decode J_HField_layLines.2.1 45 = .ok (.getfield 9, 3) := by decide +kernel
theorem J_HField_layLines_d48 : decode J_HField_layLines.2.1 48 = .ok (.iconst 2, 1) := by decide +kernel
theorem J_HField_layLines_d49 : decode J_HField_layLines.2.1 49 = .ok (.iaload, 1) := by decide +kernel
theorem J_HField_layLines_d50 : decode J_HField_layLines.2.1 50 = .ok (.ifCond .ne 7, 3) := by decide +kernel
theorem J_HField_layLines_d53 : decode J_HField_layLines.2.1 53 = .ok (.iconst 0, 1) := by decide +kernel
theorem J_HField_layLines_d54 : decode J_HField_layLines.2.1 54 = .ok (.goto 22, 3) := by decide +kernel
theorem J_HField_layLines_d57 : decode J_HField_layLines.2.1 57 = .ok (.aload_n 0, 1) := by decide +kernel
theorem J_HField_layLines_d58 : decode J_HField_layLines.2.1 58 = .ok (.getfield 9, 3) := by decide +kernel
theorem J_HField_layLines_d61 : decode J_HField_layLines.2.1 61 = .ok (.iconst 2, 1) := by decide +kernel
theorem J_HField_layLines_d62 : decode J_HField_layLines.2.1 62 = .ok (.iaload, 1) := by decide +kernel
theorem J_HField_layLines_d63 : decode J_HField_layLines.2.1 63 = .ok (.iconst 1, 1) := by decide +kernel
theorem J_HField_layLines_d64 : decode J_HField_layLines.2.1 64 = .ok (.if_icmp .ne 8, 3) := by decide +kernel
theorem J_HField_layLines_d67 : decode J_HField_layLines.2.1 67 = .ok (.iload 7, 2) := by decide +kernel
theorem J_HField_layLines_d69 : decode J_HField_layLines.2.1 69 = .ok (.goto 7, 3) := by decide +kernel
theorem J_HField_layLines_d72 : decode J_HField_layLines.2.1 72 = .ok (.iload 7, 2) := by decide +kernel
theorem J_HField_layLines_d74 : decode J_HField_layLines.2.1 74 = .ok (.iconst 2, 1) := by decide +kernel
theorem J_HField_layLines_d75 : decode J_HField_layLines.2.1 75 = .ok (.idiv, 1) := by decide +kernel
theorem J_HField_layLines_d76 : decode J_HField_layLines.2.1 76 = .ok (.istore 8, 2) := by decide +kernel
theorem J_HField_layLines_d78 : decode J_HField_layLines.2.1 78 = .ok (.aload_n 1, 1) := by decide +kernel
theorem J_HField_layLines_d79 : decode J_HField_layLines.2.1 79 = .ok (.iload 6, 2) := by decide +kernel
theorem J_HField_layLines_d81 : decode J_HField_layLines.2.1 81 = .ok (.iconst 0, 1) := by decide +kernel
theorem J_HField_layLines_d82 : decode J_HField_layLines.2.1 82 = .ok (.iload_n 2, 1) := by decide +kernel
theorem J_HField_layLines_d83 : decode J_HField_layLines.2.1 83 = .ok (.iload_n 3, 1) := by decide +kernel
theorem J_HField_layLines_d84 : decode J_HField_layLines.2.1 84 = .ok (.aload 4, 2) := by decide +kernel
theorem J_HField_layLines_d86 : decode J_HField_layLines.2.1 86 = .ok (.iconst 3, 1) := by decide +kernel
theorem J_HField_layLines_d87 : decode J_HField_layLines.2.1 87 = .ok (.iaload, 1) := by decide +kernel
theorem J_HField_layLines_d88 : decode J_HField_layLines.2.1 88 = .ok (.invokevirtual 90, 3) := by decide +kernel
theorem J_HField_layLines_d91 : decode J_HField_layLines.2.1 91 = .ok (.aload_n 1, 1) := by decide +kernel
theorem J_HField_layLines_d92 : decode J_HField_layLines.2.1 92 = .ok (.iload 6, 2) := by decide +kernel
theorem J_HField_layLines_d94 : decode J_HField_layLines.2.1 94 = .ok (.aload_n 0, 1) := by decide +kernel
theorem J_HField_layLines_d95 : decode J_HField_layLines.2.1 95 = .ok (.getfield 9, 3) := by decide +kernel
theorem J_HField_layLines_d98 : decode J_HField_layLines.2.1 98 = .ok (.iconst 3, 1) := by decide +kernel
theorem J_HField_layLines_d99 : decode J_HField_layLines.2.1 99 = .ok (.iaload, 1) := by decide +kernel
theorem J_HField_layLines_d100 : decode J_HField_layLines.2.1 100 = .ok (.iload 8, 2) := by decide +kernel
theorem J_HField_layLines_d102 : decode J_HField_layLines.2.1 102 = .ok (.imul, 1) := by decide +kernel
theorem J_HField_layLines_d103 : decode J_HField_layLines.2.1 103 = .ok (.aload_n 0, 1) := by decide +kernel
theorem J_HField_layLines_d104 : decode J_HField_layLines.2.1 104 = .ok (.getfield 9, 3) := by decide +kernel
theorem J_HField_layLines_d107 : decode J_HField_layLines.2.1 107 = .ok (.iconst 1, 1) := by decide +kernel
theorem J_HField_layLines_d108 : decode J_HField_layLines.2.1 108 = .ok (.iaload, 1) := by decide +kernel
theorem J_HField_layLines_d109 : decode J_HField_layLines.2.1 109 = .ok (.iload 5, 2) := by decide +kernel
theorem J_HField_layLines_d111 : decode J_HField_layLines.2.1 111 = .ok (.imul, 1) := by decide +kernel
theorem J_HField_layLines_d112 : decode J_HField_layLines.2.1 112 = .ok (.invokevirtual 101, 3) := by decide +kernel
theorem J_HField_layLines_d115 : decode J_HField_layLines.2.1 115 = .ok (.aload_n 1, 1) := by decide +kernel
theorem J_HField_layLines_d116 : decode J_HField_layLines.2.1 116 = .ok (.iload 6, 2) := by decide +kernel
theorem J_HField_layLines_d118 : decode J_HField_layLines.2.1 118 = .ok (.aload 4, 2) := by decide +kernel
theorem J_HField_layLines_d120 : decode J_HField_layLines.2.1 120 = .ok (.iconst 0, 1) := by decide +kernel
theorem J_HField_layLines_d121 : decode J_HField_layLines.2.1 121 = .ok (.iaload, 1) := by decide +kernel
theorem J_HField_layLines_d122 : decode J_HField_layLines.2.1 122 = .ok (.aload 4, 2) := by decide +kernel
theorem J_HField_layLines_d124 : decode J_HField_layLines.2.1 124 = .ok (.iconst 1, 1) := by decide +kernel
theorem J_HField_layLines_d125 : decode J_HField_layLines.2.1 125 = .ok (.iaload, 1) := by decide +kernel
theorem J_HField_layLines_d126 : decode J_HField_layLines.2.1 126 = .ok (.aload 4, 2) := by decide +kernel
theorem J_HField_layLines_d128 : decode J_HField_layLines.2.1 128 = .ok (.iconst 2, 1) := by decide +kernel
theorem J_HField_layLines_d129 : decode J_HField_layLines.2.1 129 = .ok (.iaload, 1) := by decide +kernel
theorem J_HField_layLines_d130 : decode J_HField_layLines.2.1 130 = .ok (.invokevirtual 94, 3) := by decide +kernel
theorem J_HField_layLines_d133 : decode J_HField_layLines.2.1 133 = .ok (.aload_n 1, 1) := by decide +kernel
theorem J_HField_layLines_d134 : decode J_HField_layLines.2.1 134 = .ok (.iload 6, 2) := by decide +kernel
theorem J_HField_layLines_d136 : decode J_HField_layLines.2.1 136 = .ok (.aload_n 1, 1) := by decide +kernel
theorem J_HField_layLines_d137 : decode J_HField_layLines.2.1 137 = .ok (.getfield 81, 3) := by decide +kernel
theorem J_HField_layLines_d140 : decode J_HField_layLines.2.1 140 = .ok (.aload_n 0, 1) := by decide +kernel
theorem J_HField_layLines_d141 : decode J_HField_layLines.2.1 141 = .ok (.getfield 21, 3) := by decide +kernel
theorem J_HField_layLines_d144 : decode J_HField_layLines.2.1 144 = .ok (.iload 5, 2) := by decide +kernel
theorem J_HField_layLines_d146 : decode J_HField_layLines.2.1 146 = .ok (.iaload, 1) := by decide +kernel
theorem J_HField_layLines_d147 : decode J_HField_layLines.2.1 147 = .ok (.aload_n 0, 1) := by decide +kernel
theorem J_HField_layLines_d148 : decode J_HField_layLines.2.1 148 = .ok (.getfield 24, 3) := by decide +kernel
theorem J_HField_layLines_d151 : decode J_HField_layLines.2.1 151 = .ok (.iload 5, 2) := by decide +kernel
theorem J_HField_layLines_d153 : decode J_HField_layLines.2.1 153 = .ok (.iaload, 1) := by decide +kernel
theorem J_HField_layLines_d154 : decode J_HField_layLines.2.1 154 = .ok (.invokevirtual 98, 3) := by decide +kernel
theorem J_HField_layLines_d157 : decode J_HField_layLines.2.1 157 = .ok (.iinc 5 1, 3) := by decide +kernel
theorem J_HField_layLines_d160 : decode J_HField_layLines.2.1 160 = .ok (.goto (-157), 3) := by decide +kernel
theorem J_HField_layLines_d163 : decode J_HField_layLines.2.1 163 = .ok (.aload_n 0, 1) := by decide +kernel
theorem J_HField_layLines_d164 : decode J_HField_layLines.2.1 164 = .ok (.getfield 105, 3) := by decide +kernel
theorem J_HField_layLines_d167 : decode J_HField_layLines.2.1 167 = .ok (.ireturn, 1) := by decide +kernel
theorem f_HField_layLines_ok {L : Nat} {xs : Nat → Int32} {dep : Nat} {w : Bool} {p1 : Int32} {p2 : Int32} {M : im_M} {Q : Int32 × im_M → Prop} (hM : lw_S w M) (h : ed (f_HField_layLines p1 p2 M) Q) : ia (tb_G L xs) (dep + 3) J_HField_layLines (rwI w Q) (0, lv_args 0 [.ref 23, .ref 19, .int p1, .int p2, .ref 18], [], M) := by
  have hS : im_St (tb_G L xs) (dep + 3) J_HField_layLines (ia (tb_G L xs) (dep + 3) J_HField_layLines (rwI w Q)) := ia_St
  unfold f_HField_layLines at h
  have l0 : im_lk (lv_args 0 [.ref 23, .ref 19, .int p1, .int p2, .ref 18]) 0 = some (.ref 23) := rfl
  have l1 : im_lk (lv_args 0 [.ref 23, .ref 19, .int p1, .int p2, .ref 18]) 1 = some (.ref 19) := rfl
  have l2 : im_lk (lv_args 0 [.ref 23, .ref 19, .int p1, .int p2, .ref 18]) 2 = some (.int p1) := rfl
  have l3 : im_lk (lv_args 0 [.ref 23, .ref 19, .int p1, .int p2, .ref 18]) 3 = some (.int p2) := rfl
  have l4 : im_lk (lv_args 0 [.ref 23, .ref 19, .int p1, .int p2, .ref 18]) 4 = some (.ref 18) := rfl
  refine iq_iconst hS 1 J_HField_layLines_d0 (v := 0) (by decide +kernel) rfl ?_
  refine iq_istore hS 3 J_HField_layLines_d1 (by decide) rfl ?_
  obtain ⟨Q1, hQ1, h⟩ := bd1_ed h
  have K1 : ∀ (M2 : im_M) (L' : List (Nat × Value)), lw_S w M2 → im_lk L' 0 = some (.ref 23) → Q1 M2 → ia (tb_G L xs) (dep + 3) J_HField_layLines (rwI w Q) (163, L', [], M2) := by
    intro M2 L' hM2 l3 h
    replace h := hQ1 _ h
    refine iq_aload_n hS 164 J_HField_layLines_d163 l3 rfl ?_
    refine iq_getI hS 167 J_HField_layLines_d164 lf_2_105 (Or.inl rfl) (ka_23 hM2) rfl ?_
    exact iq_iret J_HField_layLines_d167 rfl rfl ⟨_, rfl, hM2, ed_some h⟩
  obtain ⟨r1, hr1, hq1⟩ := h
  obtain ⟨n1, hn1⟩ := lp_n hr1
  have I1 : ∀ (n : Nat) (x4 : Int32) (M5 : im_M) (L' : List (Nat × Value)), lw_S w M5 → im_lk L' 0 = some (.ref 23) → im_lk L' 1 = some (.ref 19) → im_lk L' 2 = some (.int p1) → im_lk L' 3 = some (.int p2) → im_lk L' 4 = some (.ref 18) → im_lk L' 5 = some (.int x4) → lpn (uc2 (f_HField_layLines_L3 p1 p2)) n (x4, M5) = some r1 → ia (tb_G L xs) (dep + 3) J_HField_layLines (rwI w Q) (3, L', [], M5) := by
    intro n
    induction n with
    | zero => intro x4 M5 L' hM5 l6 l7 l8 l9 l10 l11 hn; exact (lpn_0 hn).elim
    | succ n ih =>
      intro x4 M5 L' hM5 l6 l7 l8 l9 l10 l11 hn
      have h := lpn_ed2 hn
      unfold f_HField_layLines_L3 at h
      refine iq_iload hS 5 J_HField_layLines_d3 l11 rfl ?_
      refine iq_aload_n hS 6 J_HField_layLines_d5 l6 rfl ?_
      refine iq_getI hS 9 J_HField_layLines_d6 lf_2_105 (Or.inl rfl) (ka_23 hM5) rfl ?_
      refine iq_icmp_ge hS 12 J_HField_layLines_d9 (t := 163) rfl (fun q9 => ?_) rfl (fun q9 => ?_)
      · replace h := ed_pos q9 h
        exact K1 _ _ hM5 l6 (lq_r h hq1)
      · replace h := ed_neg q9 h
        refine iq_iload hS 14 J_HField_layLines_d12 l11 rfl ?_
        refine iq_bipush hS 16 J_HField_layLines_d14 (v := 20) (by decide +kernel) rfl ?_
        refine iq_icmp_ge hS 19 J_HField_layLines_d16 (t := 163) rfl (fun q16 => ?_) rfl (fun q16 => ?_)
        · replace h := ed_pos q16 h
          exact K1 _ _ hM5 l6 (lq_r h hq1)
        · replace h := ed_neg q16 h
          refine iq_aload_n hS 20 J_HField_layLines_d19 l7 rfl ?_
          refine iq_getI hS 23 J_HField_layLines_d20 lf_2_81 (Or.inl rfl) (ka_19 hM5) rfl ?_
          refine iq_iload hS 25 J_HField_layLines_d23 l11 rfl ?_
          refine iq_iadd hS 26 J_HField_layLines_d25 rfl ?_
          refine iq_istore hS 28 J_HField_layLines_d26 (by decide) rfl ?_
          refine iq_aload_n hS 29 J_HField_layLines_d28 (lk_1r l6 (by decide)) rfl ?_
          refine iq_getR hS 32 J_HField_layLines_d29 lf_2_9 (Or.inr ⟨_, rfl⟩) (ka_23 hM5) (ra_23_3 hM5) rfl ?_
          refine iq_iconst hS 33 J_HField_layLines_d32 (v := 0) (by decide +kernel) rfl ?_
          obtain ⟨g33, h⟩ := ed_gd h
          refine iq_iaload hS 34 J_HField_layLines_d33 ⟨(ka_24 hM5).1, (ka_24 hM5).2, g33.1, ix_lt (kl_24 hM5) g33.2⟩ rfl ?_
          refine iq_aload_n hS 35 J_HField_layLines_d34 (lk_1r l6 (by decide)) rfl ?_
          refine iq_getR hS 38 J_HField_layLines_d35 lf_2_24 (Or.inr ⟨_, rfl⟩) (ka_23 hM5) (ra_23_11 hM5) rfl ?_
          refine iq_iload hS 40 J_HField_layLines_d38 (lk_1i l11 (by decide)) rfl ?_
          obtain ⟨g40, h⟩ := ed_gd h
          refine iq_iaload hS 41 J_HField_layLines_d40 ⟨(ka_27 hM5).1, (ka_27 hM5).2, g40.1, ix_lt (kl_27 hM5) g40.2⟩ rfl ?_
          refine iq_isub hS 42 J_HField_layLines_d41 rfl ?_
          refine iq_istore hS 44 J_HField_layLines_d42 (by decide) rfl ?_
          refine iq_aload_n hS 45 J_HField_layLines_d44 (lk_1r (lk_1r l6 (by decide)) (by decide)) rfl ?_
          refine iq_getR hS 48 J_HField_layLines_d45 lf_2_9 (Or.inr ⟨_, rfl⟩) (ka_23 hM5) (ra_23_3 hM5) rfl ?_
          refine iq_iconst hS 49 J_HField_layLines_d48 (v := 2) (by decide +kernel) rfl ?_
          obtain ⟨g49, h⟩ := ed_gd h
          refine iq_iaload hS 50 J_HField_layLines_d49 ⟨(ka_24 hM5).1, (ka_24 hM5).2, g49.1, ix_lt (kl_24 hM5) g49.2⟩ rfl ?_
          obtain ⟨Q12, hQ12, h⟩ := bd1_ed h
          have J12 : ∀ (y13 : Int32) (L' : List (Nat × Value)), im_lk L' 0 = some (.ref 23) → im_lk L' 1 = some (.ref 19) → im_lk L' 2 = some (.int p1) → im_lk L' 3 = some (.int p2) → im_lk L' 4 = some (.ref 18) → im_lk L' 5 = some (.int x4) → im_lk L' 6 = some (.int ((im_i M5 19 3) + x4)) → Q12 y13 → ia (tb_G L xs) (dep + 3) J_HField_layLines (rwI w Q) (76, L', [.int y13], M5) := by
            intro y13 L' l14 l15 l16 l17 l18 l19 l20 h
            replace h := hQ12 _ h
            refine iq_istore hS 78 J_HField_layLines_d76 (by decide) rfl ?_
            refine iq_aload_n hS 79 J_HField_layLines_d78 (lk_1r l15 (by decide)) rfl ?_
            refine iq_iload hS 81 J_HField_layLines_d79 (lk_1i l20 (by decide)) rfl ?_
            refine iq_iconst hS 82 J_HField_layLines_d81 (v := 0) (by decide +kernel) rfl ?_
            refine iq_iload_n hS 83 J_HField_layLines_d82 (lk_1i l16 (by decide)) rfl ?_
            refine iq_iload_n hS 84 J_HField_layLines_d83 (lk_1i l17 (by decide)) rfl ?_
            refine iq_aload hS 86 J_HField_layLines_d84 (lk_1r l18 (by decide)) rfl ?_
            refine iq_iconst hS 87 J_HField_layLines_d86 (v := 3) (by decide +kernel) rfl ?_
            obtain ⟨g87, h⟩ := ed_gd h
            refine iq_iaload hS 88 J_HField_layLines_d87 ⟨(ka_18 hM5).1, (ka_18 hM5).2, g87.1, ix_lt (kl_18 hM5) g87.2⟩ rfl ?_
            obtain ⟨Q21, hQ21, h⟩ := bd1_ed h
            refine iq_cwV hS 91 J_HField_layLines_d88 rfl (pr_inst (vs := [_, _, _, _, _]) lc_2_90 lT_52 rfl rfl (by decide) (by decide) rfl (Nat.le_of_ble_eq_true rfl) (Nat.le_of_ble_eq_true rfl) (fun _ => Or.inl (pr_b (ka_19 hM5) (by decide) rfl))) (f_HOrders_lay_ok (dep := dep + 0) hM5 h) rfl ?_
            intro M21 hM21 h
            replace h := hQ21 _ h
            refine iq_aload_n hS 92 J_HField_layLines_d91 (lk_1r l15 (by decide)) rfl ?_
            refine iq_iload hS 94 J_HField_layLines_d92 (lk_1i l20 (by decide)) rfl ?_
            refine iq_aload_n hS 95 J_HField_layLines_d94 (lk_1r l14 (by decide)) rfl ?_
            refine iq_getR hS 98 J_HField_layLines_d95 lf_2_9 (Or.inr ⟨_, rfl⟩) (ka_23 hM21) (ra_23_3 hM21) rfl ?_
            refine iq_iconst hS 99 J_HField_layLines_d98 (v := 3) (by decide +kernel) rfl ?_
            obtain ⟨g99, h⟩ := ed_gd h
            refine iq_iaload hS 100 J_HField_layLines_d99 ⟨(ka_24 hM21).1, (ka_24 hM21).2, g99.1, ix_lt (kl_24 hM21) g99.2⟩ rfl ?_
            refine iq_iload hS 102 J_HField_layLines_d100 lk_1s rfl ?_
            refine iq_imul hS 103 J_HField_layLines_d102 rfl ?_
            refine iq_aload_n hS 104 J_HField_layLines_d103 (lk_1r l14 (by decide)) rfl ?_
            refine iq_getR hS 107 J_HField_layLines_d104 lf_2_9 (Or.inr ⟨_, rfl⟩) (ka_23 hM21) (ra_23_3 hM21) rfl ?_
            refine iq_iconst hS 108 J_HField_layLines_d107 (v := 1) (by decide +kernel) rfl ?_
            obtain ⟨g108, h⟩ := ed_gd h
            refine iq_iaload hS 109 J_HField_layLines_d108 ⟨(ka_24 hM21).1, (ka_24 hM21).2, g108.1, ix_lt (kl_24 hM21) g108.2⟩ rfl ?_
            refine iq_iload hS 111 J_HField_layLines_d109 (lk_1i l19 (by decide)) rfl ?_
            refine iq_imul hS 112 J_HField_layLines_d111 rfl ?_
            obtain ⟨Q22, hQ22, h⟩ := bd1_ed h
            refine iq_cwV hS 115 J_HField_layLines_d112 rfl (pr_inst (vs := [_, _, _]) lc_2_101 lT_64 rfl rfl (by decide) (by decide) rfl (Nat.le_of_ble_eq_true rfl) (Nat.le_of_ble_eq_true rfl) (fun _ => Or.inl (pr_b (ka_19 hM21) (by decide) rfl))) (f_HOrders_move_ok (dep := dep + 2) hM21 h) rfl ?_
            intro M22 hM22 h
            replace h := hQ22 _ h
            refine iq_aload_n hS 116 J_HField_layLines_d115 (lk_1r l15 (by decide)) rfl ?_
            refine iq_iload hS 118 J_HField_layLines_d116 (lk_1i l20 (by decide)) rfl ?_
            refine iq_aload hS 120 J_HField_layLines_d118 (lk_1r l18 (by decide)) rfl ?_
            refine iq_iconst hS 121 J_HField_layLines_d120 (v := 0) (by decide +kernel) rfl ?_
            obtain ⟨g121, h⟩ := ed_gd h
            refine iq_iaload hS 122 J_HField_layLines_d121 ⟨(ka_18 hM22).1, (ka_18 hM22).2, g121.1, ix_lt (kl_18 hM22) g121.2⟩ rfl ?_
            refine iq_aload hS 124 J_HField_layLines_d122 (lk_1r l18 (by decide)) rfl ?_
            refine iq_iconst hS 125 J_HField_layLines_d124 (v := 1) (by decide +kernel) rfl ?_
            obtain ⟨g125, h⟩ := ed_gd h
            refine iq_iaload hS 126 J_HField_layLines_d125 ⟨(ka_18 hM22).1, (ka_18 hM22).2, g125.1, ix_lt (kl_18 hM22) g125.2⟩ rfl ?_
            refine iq_aload hS 128 J_HField_layLines_d126 (lk_1r l18 (by decide)) rfl ?_
            refine iq_iconst hS 129 J_HField_layLines_d128 (v := 2) (by decide +kernel) rfl ?_
            obtain ⟨g129, h⟩ := ed_gd h
            refine iq_iaload hS 130 J_HField_layLines_d129 ⟨(ka_18 hM22).1, (ka_18 hM22).2, g129.1, ix_lt (kl_18 hM22) g129.2⟩ rfl ?_
            obtain ⟨Q23, hQ23, h⟩ := bd1_ed h
            refine iq_cwV hS 133 J_HField_layLines_d130 rfl (pr_inst (vs := [_, _, _, _]) lc_2_94 lT_65 rfl rfl (by decide) (by decide) rfl (Nat.le_of_ble_eq_true rfl) (Nat.le_of_ble_eq_true rfl) (fun _ => Or.inl (pr_b (ka_19 hM22) (by decide) rfl))) (f_HOrders_number_ok (dep := dep + 2) hM22 h) rfl ?_
            intro M23 hM23 h
            replace h := hQ23 _ h
            refine iq_aload_n hS 134 J_HField_layLines_d133 (lk_1r l15 (by decide)) rfl ?_
            refine iq_iload hS 136 J_HField_layLines_d134 (lk_1i l20 (by decide)) rfl ?_
            refine iq_aload_n hS 137 J_HField_layLines_d136 (lk_1r l15 (by decide)) rfl ?_
            refine iq_getI hS 140 J_HField_layLines_d137 lf_2_81 (Or.inl rfl) (ka_19 hM23) rfl ?_
            refine iq_aload_n hS 141 J_HField_layLines_d140 (lk_1r l14 (by decide)) rfl ?_
            refine iq_getR hS 144 J_HField_layLines_d141 lf_2_21 (Or.inr ⟨_, rfl⟩) (ka_23 hM23) (ra_23_10 hM23) rfl ?_
            refine iq_iload hS 146 J_HField_layLines_d144 (lk_1i l19 (by decide)) rfl ?_
            obtain ⟨g146, h⟩ := ed_gd h
            refine iq_iaload hS 147 J_HField_layLines_d146 ⟨(ka_26 hM23).1, (ka_26 hM23).2, g146.1, ix_lt (kl_26 hM23) g146.2⟩ rfl ?_
            refine iq_aload_n hS 148 J_HField_layLines_d147 (lk_1r l14 (by decide)) rfl ?_
            refine iq_getR hS 151 J_HField_layLines_d148 lf_2_24 (Or.inr ⟨_, rfl⟩) (ka_23 hM23) (ra_23_11 hM23) rfl ?_
            refine iq_iload hS 153 J_HField_layLines_d151 (lk_1i l19 (by decide)) rfl ?_
            obtain ⟨g153, h⟩ := ed_gd h
            refine iq_iaload hS 154 J_HField_layLines_d153 ⟨(ka_27 hM23).1, (ka_27 hM23).2, g153.1, ix_lt (kl_27 hM23) g153.2⟩ rfl ?_
            obtain ⟨Q24, hQ24, h⟩ := bd1_ed h
            refine iq_cwV hS 157 J_HField_layLines_d154 rfl (pr_inst (vs := [_, _, _, _]) lc_2_98 lT_66 rfl rfl (by decide) (by decide) rfl (Nat.le_of_ble_eq_true rfl) (Nat.le_of_ble_eq_true rfl) (fun _ => Or.inl (pr_b (ka_19 hM23) (by decide) rfl))) (f_HOrders_slice_ok (dep := dep + 2) hM23 h) rfl ?_
            intro M24 hM24 h
            replace h := hQ24 _ h
            refine iq_iincv hS 160 J_HField_layLines_d157 (c := 1) (by decide +kernel) (lk_1i l19 (by decide)) (by decide) rfl ?_
            refine iq_goto hS J_HField_layLines_d160 (t := 3) rfl ?_
            exact ih _ _ _ hM24 (lk_1r (lk_1r l14 (by decide)) (by decide)) (lk_1r (lk_1r l15 (by decide)) (by decide)) (lk_1i (lk_1i l16 (by decide)) (by decide)) (lk_1i (lk_1i l17 (by decide)) (by decide)) (lk_1r (lk_1r l18 (by decide)) (by decide)) lk_1s (lq_l h)
          refine iq_if_ne hS 53 J_HField_layLines_d50 (t := 57) rfl (fun q50 => ?_) rfl (fun q50 => ?_)
          · replace h := ed_pos q50 h
            refine iq_aload_n hS 58 J_HField_layLines_d57 (lk_1r (lk_1r l6 (by decide)) (by decide)) rfl ?_
            refine iq_getR hS 61 J_HField_layLines_d58 lf_2_9 (Or.inr ⟨_, rfl⟩) (ka_23 hM5) (ra_23_3 hM5) rfl ?_
            refine iq_iconst hS 62 J_HField_layLines_d61 (v := 2) (by decide +kernel) rfl ?_
            obtain ⟨g62, h⟩ := ed_gd h
            refine iq_iaload hS 63 J_HField_layLines_d62 ⟨(ka_24 hM5).1, (ka_24 hM5).2, g62.1, ix_lt (kl_24 hM5) g62.2⟩ rfl ?_
            refine iq_iconst hS 64 J_HField_layLines_d63 (v := 1) (by decide +kernel) rfl ?_
            refine iq_icmp_ne hS 67 J_HField_layLines_d64 (t := 72) rfl (fun q64 => ?_) rfl (fun q64 => ?_)
            · replace h := ed_pos q64 h
              refine iq_iload hS 74 J_HField_layLines_d72 lk_1s rfl ?_
              refine iq_iconst hS 75 J_HField_layLines_d74 (v := 2) (by decide +kernel) rfl ?_
              refine iq_idiv hS 76 J_HField_layLines_d75 (by decide) rfl ?_
              exact J12 _ _ (lk_1r (lk_1r l6 (by decide)) (by decide)) (lk_1r (lk_1r l7 (by decide)) (by decide)) (lk_1i (lk_1i l8 (by decide)) (by decide)) (lk_1i (lk_1i l9 (by decide)) (by decide)) (lk_1r (lk_1r l10 (by decide)) (by decide)) (lk_1i (lk_1i l11 (by decide)) (by decide)) (lk_1i lk_1s (by decide)) (ed_some h)
            · replace h := ed_neg q64 h
              refine iq_iload hS 69 J_HField_layLines_d67 lk_1s rfl ?_
              refine iq_goto hS J_HField_layLines_d69 (t := 76) rfl ?_
              exact J12 _ _ (lk_1r (lk_1r l6 (by decide)) (by decide)) (lk_1r (lk_1r l7 (by decide)) (by decide)) (lk_1i (lk_1i l8 (by decide)) (by decide)) (lk_1i (lk_1i l9 (by decide)) (by decide)) (lk_1r (lk_1r l10 (by decide)) (by decide)) (lk_1i (lk_1i l11 (by decide)) (by decide)) (lk_1i lk_1s (by decide)) (ed_some h)
          · replace h := ed_neg q50 h
            refine iq_iconst hS 54 J_HField_layLines_d53 (v := 0) (by decide +kernel) rfl ?_
            refine iq_goto hS J_HField_layLines_d54 (t := 76) rfl ?_
            exact J12 _ _ (lk_1r (lk_1r l6 (by decide)) (by decide)) (lk_1r (lk_1r l7 (by decide)) (by decide)) (lk_1i (lk_1i l8 (by decide)) (by decide)) (lk_1i (lk_1i l9 (by decide)) (by decide)) (lk_1r (lk_1r l10 (by decide)) (by decide)) (lk_1i (lk_1i l11 (by decide)) (by decide)) (lk_1i lk_1s (by decide)) (ed_some h)
  exact I1 n1 _ _ _ hM (lk_1r l0 (by decide)) (lk_1r l1 (by decide)) (lk_1i l2 (by decide)) (lk_1i l3 (by decide)) (lk_1r l4 (by decide)) lk_1s hn1
theorem f_HField_layLines_fr {p1 : Int32} {p2 : Int32} {M : im_M} {r : Int32 × im_M} (h : f_HField_layLines p1 p2 M = some r) : fr 2097152 [] M r.2 := by
  replace h : ed (f_HField_layLines p1 p2 M) (fun x => x = r) := ⟨r, h, rfl⟩
  unfold f_HField_layLines at h
  obtain ⟨Q1, hQ1, h⟩ := bd1_ed h
  have K1 : ∀ (M2 : im_M), fr 2097152 [] M M2 → Q1 M2 → fr 2097152 [] M r.2 := by
    intro M2 hM2 h
    replace h := hQ1 _ h
    exact fr_ret h hM2
  obtain ⟨r1, hr1, hq1⟩ := h
  obtain ⟨n1, hn1⟩ := lp_n hr1
  have I1 : ∀ (n : Nat) (x3 : Int32) (M4 : im_M), fr 2097152 [] M M4 → lpn (uc2 (f_HField_layLines_L3 p1 p2)) n (x3, M4) = some r1 → fr 2097152 [] M r.2 := by
    intro n
    induction n with
    | zero => intro x3 M4 hM4 hn; exact (lpn_0 hn).elim
    | succ n ih =>
      intro x3 M4 hM4 hn
      have h := lpn_ed2 hn
      unfold f_HField_layLines_L3 at h
      by_cases q9 : (im_i M4 23 9) ≤ x3
      · replace h := ed_pos q9 h
        exact K1 _ hM4 (lq_r h hq1)
      · replace h := ed_neg q9 h
        by_cases q16 : 20 ≤ x3
        · replace h := ed_pos q16 h
          exact K1 _ hM4 (lq_r h hq1)
        · replace h := ed_neg q16 h
          obtain ⟨g33, h⟩ := ed_gd h
          obtain ⟨g40, h⟩ := ed_gd h
          obtain ⟨g49, h⟩ := ed_gd h
          obtain ⟨Q5, hQ5, h⟩ := bd1_ed h
          have J5 : ∀ (y6 : Int32), Q5 y6 → fr 2097152 [] M r.2 := by
            intro y6 h
            replace h := hQ5 _ h
            obtain ⟨g87, h⟩ := ed_gd h
            obtain ⟨Q14, hQ14, h⟩ := bd1_ed h
            obtain ⟨M14, e14, h⟩ := h
            replace h := hQ14 _ h
            obtain ⟨g99, h⟩ := ed_gd h
            obtain ⟨g108, h⟩ := ed_gd h
            obtain ⟨Q15, hQ15, h⟩ := bd1_ed h
            obtain ⟨M15, e15, h⟩ := h
            replace h := hQ15 _ h
            obtain ⟨g121, h⟩ := ed_gd h
            obtain ⟨g125, h⟩ := ed_gd h
            obtain ⟨g129, h⟩ := ed_gd h
            obtain ⟨Q16, hQ16, h⟩ := bd1_ed h
            obtain ⟨M16, e16, h⟩ := h
            replace h := hQ16 _ h
            obtain ⟨g146, h⟩ := ed_gd h
            obtain ⟨g153, h⟩ := ed_gd h
            obtain ⟨Q17, hQ17, h⟩ := bd1_ed h
            obtain ⟨M17, e17, h⟩ := h
            replace h := hQ17 _ h
            exact ih _ _ (fr_tr (fr_mono (by decide) (by decide +kernel) (f_HOrders_slice_fr e17)) (fr_tr (fr_mono (by decide) (by decide +kernel) (f_HOrders_number_fr e16)) (fr_tr (fr_mono (by decide) (by decide +kernel) (f_HOrders_move_fr e15)) (fr_tr (fr_mono (by decide) (by decide +kernel) (f_HOrders_lay_fr e14)) hM4)))) (lq_l h)
          by_cases q50 : ¬ (im_i M4 24 (Int32.toNatClampNeg 2)) = 0
          · replace h := ed_pos q50 h
            obtain ⟨g62, h⟩ := ed_gd h
            by_cases q64 : ¬ (im_i M4 24 (Int32.toNatClampNeg 2)) = 1
            · replace h := ed_pos q64 h
              exact J5 _ (ed_some h)
            · replace h := ed_neg q64 h
              exact J5 _ (ed_some h)
          · replace h := ed_neg q50 h
            exact J5 _ (ed_some h)
  exact I1 n1 _ _ fr_refl hn1
noncomputable def f_HOrders_inRange (p0 : Int32) (M : im_M) : Option (Int32) := if p0 < (-4096) then some 0 else if 4096 < p0 then some 0 else some 1
theorem J_HOrders_inRange_d0 : decode J_HOrders_inRange.2.1 0 = .ok (.iload_n 0, 1) := by decide +kernel
theorem J_HOrders_inRange_d1 : decode J_HOrders_inRange.2.1 1 = .ok (.sipush (-4096), 3) := by decide +kernel
theorem J_HOrders_inRange_d4 : decode J_HOrders_inRange.2.1 4 = .ok (.if_icmp .lt 14, 3) := by decide +kernel
theorem J_HOrders_inRange_d7 : decode J_HOrders_inRange.2.1 7 = .ok (.iload_n 0, 1) := by decide +kernel
theorem J_HOrders_inRange_d8 : decode J_HOrders_inRange.2.1 8 = .ok (.sipush 4096, 3) := by decide +kernel
theorem J_HOrders_inRange_d11 : decode J_HOrders_inRange.2.1 11 = .ok (.if_icmp .gt 7, 3) := by decide +kernel
theorem J_HOrders_inRange_d14 : decode J_HOrders_inRange.2.1 14 = .ok (.iconst 1, 1) := by decide +kernel
theorem J_HOrders_inRange_d15 : decode J_HOrders_inRange.2.1 15 = .ok (.goto 4, 3) := by decide +kernel
theorem J_HOrders_inRange_d18 : decode J_HOrders_inRange.2.1 18 = .ok (.iconst 0, 1) := by decide +kernel
theorem J_HOrders_inRange_d19 : decode J_HOrders_inRange.2.1 19 = .ok (.ireturn, 1) := by decide +kernel
theorem f_HOrders_inRange_ok {L : Nat} {xs : Nat → Int32} {dep : Nat} {w : Bool} {p0 : Int32} {M : im_M} {Q : Int32 → Prop} (hM : lw_S w M) (h : ed (f_HOrders_inRange p0 M) Q) : ia (tb_G L xs) dep J_HOrders_inRange (rpI M Q) (0, lv_args 0 [.int p0], [], M) := by
  have hS : im_St (tb_G L xs) dep J_HOrders_inRange (ia (tb_G L xs) dep J_HOrders_inRange (rpI M Q)) := ia_St
  unfold f_HOrders_inRange at h
  have l0 : im_lk (lv_args 0 [.int p0]) 0 = some (.int p0) := rfl
  refine iq_iload_n hS 1 J_HOrders_inRange_d0 l0 rfl ?_
  refine iq_sipush hS 4 J_HOrders_inRange_d1 (v := (-4096)) (by decide +kernel) rfl ?_
  refine iq_icmp_lt hS 7 J_HOrders_inRange_d4 (t := 18) rfl (fun q4 => ?_) rfl (fun q4 => ?_)
  · replace h := ed_pos q4 h
    refine iq_iconst hS 19 J_HOrders_inRange_d18 (v := 0) (by decide +kernel) rfl ?_
    exact iq_iret J_HOrders_inRange_d19 rfl rfl ⟨_, rfl, rfl, ed_some h⟩
  · replace h := ed_neg q4 h
    refine iq_iload_n hS 8 J_HOrders_inRange_d7 l0 rfl ?_
    refine iq_sipush hS 11 J_HOrders_inRange_d8 (v := 4096) (by decide +kernel) rfl ?_
    refine iq_icmp_gt hS 14 J_HOrders_inRange_d11 (t := 18) rfl (fun q11 => ?_) rfl (fun q11 => ?_)
    · replace h := ed_pos q11 h
      refine iq_iconst hS 19 J_HOrders_inRange_d18 (v := 0) (by decide +kernel) rfl ?_
      exact iq_iret J_HOrders_inRange_d19 rfl rfl ⟨_, rfl, rfl, ed_some h⟩
    · replace h := ed_neg q11 h
      refine iq_iconst hS 15 J_HOrders_inRange_d14 (v := 1) (by decide +kernel) rfl ?_
      refine iq_goto hS J_HOrders_inRange_d15 (t := 19) rfl ?_
      exact iq_iret J_HOrders_inRange_d19 rfl rfl ⟨_, rfl, rfl, ed_some h⟩
noncomputable def f_HField_build_L95 (v12 : Int32) (v13 : Int32) (v14 : Int32) (x15 : Int32) (x16 : Int32) (M17 : im_M) : Option ((Int32 × Int32 × im_M) ⊕ (Int32 × im_M)) := if x15 = 0 then some (.inr (x15, M17)) else if v14 ≤ x16 then some (.inr (x15, M17)) else gd (inb ((((im_i M17 19 3) + x16) * 14) + 4) 1960) <| gd (inb ((((im_i M17 19 3) + x16) * 14) + 11) 1960) <| gd (inb ((((im_i M17 19 3) + x16) * 14) + 12) 1960) <| gd (inb ((((im_i M17 19 3) + x16) * 14) + 13) 1960) <| gd (inb ((((im_i M17 19 3) + x16) * 14) + 1) 1960) <| bd1 (f_HOrders_inRange (im_i (im_setI (im_setI (im_setI (im_setI M17 21 (Int32.toNatClampNeg ((((im_i M17 19 3) + x16) * 14) + 4)) ((if (im_i M17 23 4) = 0 then 0 else 2) : Int32)) 21 (Int32.toNatClampNeg ((((im_i M17 19 3) + x16) * 14) + 11)) ((if (im_i (im_setI M17 21 (Int32.toNatClampNeg ((((im_i M17 19 3) + x16) * 14) + 4)) ((if (im_i M17 23 4) = 0 then 0 else 2) : Int32)) 23 5) = 0 then 0 else 1) : Int32)) 21 (Int32.toNatClampNeg ((((im_i M17 19 3) + x16) * 14) + 12)) (im_i (im_setI (im_setI M17 21 (Int32.toNatClampNeg ((((im_i M17 19 3) + x16) * 14) + 4)) ((if (im_i M17 23 4) = 0 then 0 else 2) : Int32)) 21 (Int32.toNatClampNeg ((((im_i M17 19 3) + x16) * 14) + 11)) ((if (im_i (im_setI M17 21 (Int32.toNatClampNeg ((((im_i M17 19 3) + x16) * 14) + 4)) ((if (im_i M17 23 4) = 0 then 0 else 2) : Int32)) 23 5) = 0 then 0 else 1) : Int32)) 23 6)) 21 (Int32.toNatClampNeg ((((im_i M17 19 3) + x16) * 14) + 13)) (im_i (im_setI (im_setI (im_setI M17 21 (Int32.toNatClampNeg ((((im_i M17 19 3) + x16) * 14) + 4)) ((if (im_i M17 23 4) = 0 then 0 else 2) : Int32)) 21 (Int32.toNatClampNeg ((((im_i M17 19 3) + x16) * 14) + 11)) ((if (im_i (im_setI M17 21 (Int32.toNatClampNeg ((((im_i M17 19 3) + x16) * 14) + 4)) ((if (im_i M17 23 4) = 0 then 0 else 2) : Int32)) 23 5) = 0 then 0 else 1) : Int32)) 21 (Int32.toNatClampNeg ((((im_i M17 19 3) + x16) * 14) + 12)) (im_i (im_setI (im_setI M17 21 (Int32.toNatClampNeg ((((im_i M17 19 3) + x16) * 14) + 4)) ((if (im_i M17 23 4) = 0 then 0 else 2) : Int32)) 21 (Int32.toNatClampNeg ((((im_i M17 19 3) + x16) * 14) + 11)) ((if (im_i (im_setI M17 21 (Int32.toNatClampNeg ((((im_i M17 19 3) + x16) * 14) + 4)) ((if (im_i M17 23 4) = 0 then 0 else 2) : Int32)) 23 5) = 0 then 0 else 1) : Int32)) 23 6)) 23 8)) 21 (Int32.toNatClampNeg ((((im_i M17 19 3) + x16) * 14) + 1))) (im_setI (im_setI (im_setI (im_setI M17 21 (Int32.toNatClampNeg ((((im_i M17 19 3) + x16) * 14) + 4)) ((if (im_i M17 23 4) = 0 then 0 else 2) : Int32)) 21 (Int32.toNatClampNeg ((((im_i M17 19 3) + x16) * 14) + 11)) ((if (im_i (im_setI M17 21 (Int32.toNatClampNeg ((((im_i M17 19 3) + x16) * 14) + 4)) ((if (im_i M17 23 4) = 0 then 0 else 2) : Int32)) 23 5) = 0 then 0 else 1) : Int32)) 21 (Int32.toNatClampNeg ((((im_i M17 19 3) + x16) * 14) + 12)) (im_i (im_setI (im_setI M17 21 (Int32.toNatClampNeg ((((im_i M17 19 3) + x16) * 14) + 4)) ((if (im_i M17 23 4) = 0 then 0 else 2) : Int32)) 21 (Int32.toNatClampNeg ((((im_i M17 19 3) + x16) * 14) + 11)) ((if (im_i (im_setI M17 21 (Int32.toNatClampNeg ((((im_i M17 19 3) + x16) * 14) + 4)) ((if (im_i M17 23 4) = 0 then 0 else 2) : Int32)) 23 5) = 0 then 0 else 1) : Int32)) 23 6)) 21 (Int32.toNatClampNeg ((((im_i M17 19 3) + x16) * 14) + 13)) (im_i (im_setI (im_setI (im_setI M17 21 (Int32.toNatClampNeg ((((im_i M17 19 3) + x16) * 14) + 4)) ((if (im_i M17 23 4) = 0 then 0 else 2) : Int32)) 21 (Int32.toNatClampNeg ((((im_i M17 19 3) + x16) * 14) + 11)) ((if (im_i (im_setI M17 21 (Int32.toNatClampNeg ((((im_i M17 19 3) + x16) * 14) + 4)) ((if (im_i M17 23 4) = 0 then 0 else 2) : Int32)) 23 5) = 0 then 0 else 1) : Int32)) 21 (Int32.toNatClampNeg ((((im_i M17 19 3) + x16) * 14) + 12)) (im_i (im_setI (im_setI M17 21 (Int32.toNatClampNeg ((((im_i M17 19 3) + x16) * 14) + 4)) ((if (im_i M17 23 4) = 0 then 0 else 2) : Int32)) 21 (Int32.toNatClampNeg ((((im_i M17 19 3) + x16) * 14) + 11)) ((if (im_i (im_setI M17 21 (Int32.toNatClampNeg ((((im_i M17 19 3) + x16) * 14) + 4)) ((if (im_i M17 23 4) = 0 then 0 else 2) : Int32)) 23 5) = 0 then 0 else 1) : Int32)) 23 6)) 23 8))) fun (x20 : Int32) => bd1 (jn0 (fun (_ : Unit) => some 0) fun k22 => if x20 = 0 then k22 () else gd (inb ((((im_i M17 19 3) + x16) * 14) + 2) 1960) <| bd1 (f_HOrders_inRange (im_i (im_setI (im_setI (im_setI (im_setI M17 21 (Int32.toNatClampNeg ((((im_i M17 19 3) + x16) * 14) + 4)) ((if (im_i M17 23 4) = 0 then 0 else 2) : Int32)) 21 (Int32.toNatClampNeg ((((im_i M17 19 3) + x16) * 14) + 11)) ((if (im_i (im_setI M17 21 (Int32.toNatClampNeg ((((im_i M17 19 3) + x16) * 14) + 4)) ((if (im_i M17 23 4) = 0 then 0 else 2) : Int32)) 23 5) = 0 then 0 else 1) : Int32)) 21 (Int32.toNatClampNeg ((((im_i M17 19 3) + x16) * 14) + 12)) (im_i (im_setI (im_setI M17 21 (Int32.toNatClampNeg ((((im_i M17 19 3) + x16) * 14) + 4)) ((if (im_i M17 23 4) = 0 then 0 else 2) : Int32)) 21 (Int32.toNatClampNeg ((((im_i M17 19 3) + x16) * 14) + 11)) ((if (im_i (im_setI M17 21 (Int32.toNatClampNeg ((((im_i M17 19 3) + x16) * 14) + 4)) ((if (im_i M17 23 4) = 0 then 0 else 2) : Int32)) 23 5) = 0 then 0 else 1) : Int32)) 23 6)) 21 (Int32.toNatClampNeg ((((im_i M17 19 3) + x16) * 14) + 13)) (im_i (im_setI (im_setI (im_setI M17 21 (Int32.toNatClampNeg ((((im_i M17 19 3) + x16) * 14) + 4)) ((if (im_i M17 23 4) = 0 then 0 else 2) : Int32)) 21 (Int32.toNatClampNeg ((((im_i M17 19 3) + x16) * 14) + 11)) ((if (im_i (im_setI M17 21 (Int32.toNatClampNeg ((((im_i M17 19 3) + x16) * 14) + 4)) ((if (im_i M17 23 4) = 0 then 0 else 2) : Int32)) 23 5) = 0 then 0 else 1) : Int32)) 21 (Int32.toNatClampNeg ((((im_i M17 19 3) + x16) * 14) + 12)) (im_i (im_setI (im_setI M17 21 (Int32.toNatClampNeg ((((im_i M17 19 3) + x16) * 14) + 4)) ((if (im_i M17 23 4) = 0 then 0 else 2) : Int32)) 21 (Int32.toNatClampNeg ((((im_i M17 19 3) + x16) * 14) + 11)) ((if (im_i (im_setI M17 21 (Int32.toNatClampNeg ((((im_i M17 19 3) + x16) * 14) + 4)) ((if (im_i M17 23 4) = 0 then 0 else 2) : Int32)) 23 5) = 0 then 0 else 1) : Int32)) 23 6)) 23 8)) 21 (Int32.toNatClampNeg ((((im_i M17 19 3) + x16) * 14) + 2))) (im_setI (im_setI (im_setI (im_setI M17 21 (Int32.toNatClampNeg ((((im_i M17 19 3) + x16) * 14) + 4)) ((if (im_i M17 23 4) = 0 then 0 else 2) : Int32)) 21 (Int32.toNatClampNeg ((((im_i M17 19 3) + x16) * 14) + 11)) ((if (im_i (im_setI M17 21 (Int32.toNatClampNeg ((((im_i M17 19 3) + x16) * 14) + 4)) ((if (im_i M17 23 4) = 0 then 0 else 2) : Int32)) 23 5) = 0 then 0 else 1) : Int32)) 21 (Int32.toNatClampNeg ((((im_i M17 19 3) + x16) * 14) + 12)) (im_i (im_setI (im_setI M17 21 (Int32.toNatClampNeg ((((im_i M17 19 3) + x16) * 14) + 4)) ((if (im_i M17 23 4) = 0 then 0 else 2) : Int32)) 21 (Int32.toNatClampNeg ((((im_i M17 19 3) + x16) * 14) + 11)) ((if (im_i (im_setI M17 21 (Int32.toNatClampNeg ((((im_i M17 19 3) + x16) * 14) + 4)) ((if (im_i M17 23 4) = 0 then 0 else 2) : Int32)) 23 5) = 0 then 0 else 1) : Int32)) 23 6)) 21 (Int32.toNatClampNeg ((((im_i M17 19 3) + x16) * 14) + 13)) (im_i (im_setI (im_setI (im_setI M17 21 (Int32.toNatClampNeg ((((im_i M17 19 3) + x16) * 14) + 4)) ((if (im_i M17 23 4) = 0 then 0 else 2) : Int32)) 21 (Int32.toNatClampNeg ((((im_i M17 19 3) + x16) * 14) + 11)) ((if (im_i (im_setI M17 21 (Int32.toNatClampNeg ((((im_i M17 19 3) + x16) * 14) + 4)) ((if (im_i M17 23 4) = 0 then 0 else 2) : Int32)) 23 5) = 0 then 0 else 1) : Int32)) 21 (Int32.toNatClampNeg ((((im_i M17 19 3) + x16) * 14) + 12)) (im_i (im_setI (im_setI M17 21 (Int32.toNatClampNeg ((((im_i M17 19 3) + x16) * 14) + 4)) ((if (im_i M17 23 4) = 0 then 0 else 2) : Int32)) 21 (Int32.toNatClampNeg ((((im_i M17 19 3) + x16) * 14) + 11)) ((if (im_i (im_setI M17 21 (Int32.toNatClampNeg ((((im_i M17 19 3) + x16) * 14) + 4)) ((if (im_i M17 23 4) = 0 then 0 else 2) : Int32)) 23 5) = 0 then 0 else 1) : Int32)) 23 6)) 23 8))) fun (x23 : Int32) => if x23 = 0 then k22 () else some 1) fun (y30 : Int32) => some (.inl (y30, (x16 + 1), (im_setI (im_setI (im_setI (im_setI M17 21 (Int32.toNatClampNeg ((((im_i M17 19 3) + x16) * 14) + 4)) ((if (im_i M17 23 4) = 0 then 0 else 2) : Int32)) 21 (Int32.toNatClampNeg ((((im_i M17 19 3) + x16) * 14) + 11)) ((if (im_i (im_setI M17 21 (Int32.toNatClampNeg ((((im_i M17 19 3) + x16) * 14) + 4)) ((if (im_i M17 23 4) = 0 then 0 else 2) : Int32)) 23 5) = 0 then 0 else 1) : Int32)) 21 (Int32.toNatClampNeg ((((im_i M17 19 3) + x16) * 14) + 12)) (im_i (im_setI (im_setI M17 21 (Int32.toNatClampNeg ((((im_i M17 19 3) + x16) * 14) + 4)) ((if (im_i M17 23 4) = 0 then 0 else 2) : Int32)) 21 (Int32.toNatClampNeg ((((im_i M17 19 3) + x16) * 14) + 11)) ((if (im_i (im_setI M17 21 (Int32.toNatClampNeg ((((im_i M17 19 3) + x16) * 14) + 4)) ((if (im_i M17 23 4) = 0 then 0 else 2) : Int32)) 23 5) = 0 then 0 else 1) : Int32)) 23 6)) 21 (Int32.toNatClampNeg ((((im_i M17 19 3) + x16) * 14) + 13)) (im_i (im_setI (im_setI (im_setI M17 21 (Int32.toNatClampNeg ((((im_i M17 19 3) + x16) * 14) + 4)) ((if (im_i M17 23 4) = 0 then 0 else 2) : Int32)) 21 (Int32.toNatClampNeg ((((im_i M17 19 3) + x16) * 14) + 11)) ((if (im_i (im_setI M17 21 (Int32.toNatClampNeg ((((im_i M17 19 3) + x16) * 14) + 4)) ((if (im_i M17 23 4) = 0 then 0 else 2) : Int32)) 23 5) = 0 then 0 else 1) : Int32)) 21 (Int32.toNatClampNeg ((((im_i M17 19 3) + x16) * 14) + 12)) (im_i (im_setI (im_setI M17 21 (Int32.toNatClampNeg ((((im_i M17 19 3) + x16) * 14) + 4)) ((if (im_i M17 23 4) = 0 then 0 else 2) : Int32)) 21 (Int32.toNatClampNeg ((((im_i M17 19 3) + x16) * 14) + 11)) ((if (im_i (im_setI M17 21 (Int32.toNatClampNeg ((((im_i M17 19 3) + x16) * 14) + 4)) ((if (im_i M17 23 4) = 0 then 0 else 2) : Int32)) 23 5) = 0 then 0 else 1) : Int32)) 23 6)) 23 8))))
noncomputable def f_HField_build (M : im_M) : Option (Int32 × im_M) := gd (inb 0 2) <| gd (inb 1 2) <| bd2 (if ¬ (im_i M 23 2) = 8 then bd2 (f_HField_layOthers ((im_i M 17 (Int32.toNatClampNeg 0)) + (im_i M 23 0)) ((im_i M 17 (Int32.toNatClampNeg 1)) + (im_i M 23 1)) M) fun (x2 : Int32) (M2 : im_M) => some (x2, M2) else bd2 (f_HField_layLines ((im_i M 17 (Int32.toNatClampNeg 0)) + (im_i M 23 0)) ((im_i M 17 (Int32.toNatClampNeg 1)) + (im_i M 23 1)) M) fun (x3 : Int32) (M3 : im_M) => some (x3, M3)) fun (y4 : Int32) (M5 : im_M) => gd (cpy 0 200 ((im_i M5 19 3) * 200) 28000 (im_i M5 23 8)) <| bd2 (lp (uc3 (f_HField_build_L95 ((im_i M 17 (Int32.toNatClampNeg 0)) + (im_i M 23 0)) ((im_i M 17 (Int32.toNatClampNeg 1)) + (im_i M 23 1)) y4)) (((if 20 < y4 then 0 else 1) : Int32), 0, (im_setA M5 22 (va_cpy (im_i M5 25) (im_i M5 22) (Int32.toNatClampNeg 0) (Int32.toNatClampNeg ((im_i M5 19 3) * 200)) (Int32.toNatClampNeg (im_i M5 23 8)))))) fun (y37 : Int32) (M38 : im_M) => bd1 (if ¬ (im_i M38 23 2) = 6 then some y37 else gd (inb 0 4) <| bd1 (f_HOrders_inRange (((im_i M 17 (Int32.toNatClampNeg 0)) + (im_i M 23 0)) + (im_i M38 24 (Int32.toNatClampNeg 0))) M38) fun (x40 : Int32) => bd1 (jn0 (fun (_ : Unit) => some 0) fun k42 => if x40 = 0 then k42 () else gd (inb 1 4) <| bd1 (f_HOrders_inRange (((im_i M 17 (Int32.toNatClampNeg 1)) + (im_i M 23 1)) + (im_i M38 24 (Int32.toNatClampNeg 1))) M38) fun (x43 : Int32) => if x43 = 0 then k42 () else some 1) fun (y45 : Int32) => some (y37 &&& y45)) fun (y47 : Int32) => if y47 = 0 then some ((-1), M38) else some (y4, M38)
theorem J_HField_build_d0 : decode J_HField_build.2.1 0 = .ok (.aload_n 2, 1) := by decide +kernel
theorem J_HField_build_d1 : decode J_HField_build.2.1 1 = .ok (.iconst 0, 1) := by decide +kernel
theorem J_HField_build_d2 : decode J_HField_build.2.1 2 = .ok (.iaload, 1) := by decide +kernel
theorem J_HField_build_d3 : decode J_HField_build.2.1 3 = .ok (.aload_n 0, 1) := by decide +kernel
theorem J_HField_build_d4 : decode J_HField_build.2.1 4 = .ok (.getfield 27, 3) := by decide +kernel
theorem J_HField_build_d7 : decode J_HField_build.2.1 7 = .ok (.iadd, 1) := by decide +kernel
theorem J_HField_build_d8 : decode J_HField_build.2.1 8 = .ok (.istore 4, 2) := by decide +kernel
theorem J_HField_build_d10 : decode J_HField_build.2.1 10 = .ok (.aload_n 2, 1) := by decide +kernel
theorem J_HField_build_d11 : decode J_HField_build.2.1 11 = .ok (.iconst 1, 1) := by decide +kernel
theorem J_HField_build_d12 : decode J_HField_build.2.1 12 = .ok (.iaload, 1) := by decide +kernel
theorem J_HField_build_d13 : decode J_HField_build.2.1 13 = .ok (.aload_n 0, 1) := by decide +kernel
theorem J_HField_build_d14 : decode J_HField_build.2.1 14 = .ok (.getfield 31, 3) := by decide +kernel
theorem J_HField_build_d17 : decode J_HField_build.2.1 17 = .ok (.iadd, 1) := by decide +kernel
theorem J_HField_build_d18 : decode J_HField_build.2.1 18 = .ok (.istore 5, 2) := by decide +kernel
theorem J_HField_build_d20 : decode J_HField_build.2.1 20 = .ok (.aload_n 0, 1) := by decide +kernel
theorem J_HField_build_d21 : decode J_HField_build.2.1 21 = .ok (.getfield 34, 3) := by decide +kernel
theorem J_HField_build_d24 : decode J_HField_build.2.1 24 = .ok (.bipush 8, 2) := by decide +kernel
theorem J_HField_build_d26 : decode J_HField_build.2.1 26 = .ok (.if_icmp .ne 16, 3) := by decide +kernel
theorem J_HField_build_d29 : decode J_HField_build.2.1 29 = .ok (.aload_n 0, 1) := by decide +kernel
theorem J_HField_build_d30 : decode J_HField_build.2.1 30 = .ok (.aload_n 1, 1) := by decide +kernel
theorem J_HField_build_d31 : decode J_HField_build.2.1 31 = .ok (.iload 4, 2) := by decide +kernel
theorem J_HField_build_d33 : decode J_HField_build.2.1 33 = .ok (.iload 5, 2) := by decide +kernel
theorem J_HField_build_d35 : decode J_HField_build.2.1 35 = .ok (.aload_n 3, 1) := by decide +kernel
theorem J_HField_build_d36 : decode J_HField_build.2.1 36 = .ok (.invokevirtual 71, 3) := by decide +kernel
theorem J_HField_build_d39 : decode J_HField_build.2.1 39 = .ok (.goto 13, 3) := by decide +kernel
theorem J_HField_build_d42 : decode J_HField_build.2.1 42 = .ok (.aload_n 0, 1) := by decide +kernel
theorem J_HField_build_d43 : decode J_HField_build.2.1 43 = .ok (.aload_n 1, 1) := by decide +kernel
theorem J_HField_build_d44 : decode J_HField_build.2.1 44 = .ok (.iload 4, 2) := by decide +kernel
theorem J_HField_build_d46 : decode J_HField_build.2.1 46 = .ok (.iload 5, 2) := by decide +kernel
theorem J_HField_build_d48 : decode J_HField_build.2.1 48 = .ok (.aload_n 3, 1) := by decide +kernel
theorem J_HField_build_d49 : decode J_HField_build.2.1 49 = .ok (.invokevirtual 75, 3) := by decide +kernel
theorem J_HField_build_d52 : decode J_HField_build.2.1 52 = .ok (.istore 6, 2) := by decide +kernel
theorem J_HField_build_d54 : decode J_HField_build.2.1 54 = .ok (.aload_n 0, 1) := by decide +kernel
theorem J_HField_build_d55 : decode J_HField_build.2.1 55 = .ok (.getfield 17, 3) := by decide +kernel
theorem J_HField_build_d58 : decode J_HField_build.2.1 58 = .ok (.iconst 0, 1) := by decide +kernel
theorem J_HField_build_d59 : decode J_HField_build.2.1 59 = .ok (.aload_n 1, 1) := by decide +kernel
theorem J_HField_build_d60 : decode J_HField_build.2.1 60 = .ok (.getfield 78, 3) := by decide +kernel
theorem J_HField_build_d63 : decode J_HField_build.2.1 63 = .ok (.aload_n 1, 1) := by decide +kernel
theorem J_HField_build_d64 : decode J_HField_build.2.1 64 = .ok (.getfield 81, 3) := by decide +kernel
theorem J_HField_build_d67 : decode J_HField_build.2.1 67 = .ok (.sipush 200, 3) := by decide +kernel
theorem J_HField_build_d70 : decode J_HField_build.2.1 70 = .ok (.imul, 1) := by decide +kernel
theorem J_HField_build_d71 : decode J_HField_build.2.1 71 = .ok (.aload_n 0, 1) := by decide +kernel
theorem J_HField_build_d72 : decode J_HField_build.2.1 72 = .ok (.getfield 47, 3) := by decide +kernel
theorem J_HField_build_d75 : decode J_HField_build.2.1 75 = .ok (.invokestatic 50, 3) := by decide +kernel
theorem J_HField_build_d78 : decode J_HField_build.2.1 78 = .ok (.iload 6, 2) := by decide +kernel
theorem J_HField_build_d80 : decode J_HField_build.2.1 80 = .ok (.bipush 20, 2) := by decide +kernel
theorem J_HField_build_d82 : decode J_HField_build.2.1 82 = .ok (.if_icmp .gt 7, 3) := by decide +kernel
theorem J_HField_build_d85 : decode J_HField_build.2.1 85 = .ok (.iconst 1, 1) := by decide +kernel
theorem J_HField_build_d86 : decode J_HField_build.2.1 86 = .ok (.goto 4, 3) := by decide +kernel
theorem J_HField_build_d89 : decode J_HField_build.2.1 89 = .ok (.iconst 0, 1) := by decide +kernel
theorem J_HField_build_d90 : decode J_HField_build.2.1 90 = .ok (.istore 7, 2) := by decide +kernel
theorem J_HField_build_d92 : decode J_HField_build.2.1 92 = .ok (.iconst 0, 1) := by decide +kernel
theorem J_HField_build_d93 : decode J_HField_build.2.1 93 = .ok (.istore 8, 2) := by decide +kernel
theorem J_HField_build_d95 : decode J_HField_build.2.1 95 = .ok (.iload 7, 2) := by decide +kernel
theorem J_HField_build_d97 : decode J_HField_build.2.1 97 = .ok (.ifCond .eq 136, 3) := by decide +kernel
theorem J_HField_build_d100 : decode J_HField_build.2.1 100 = .ok (.iload 8, 2) := by decide +kernel
theorem J_HField_build_d102 : decode J_HField_build.2.1 102 = .ok (.iload 6, 2) := by decide +kernel
theorem J_HField_build_d104 : decode J_HField_build.2.1 104 = .ok (.if_icmp .ge 129, 3) := by decide +kernel
theorem J_HField_build_d107 : decode J_HField_build.2.1 107 = .ok (.aload_n 1, 1) := by decide +kernel
theorem J_HField_build_d108 : decode J_HField_build.2.1 108 = .ok (.getfield 81, 3) := by decide +kernel
theorem J_HField_build_d111 : decode J_HField_build.2.1 111 = .ok (.iload 8, 2) := by decide +kernel
theorem J_HField_build_d113 : decode J_HField_build.2.1 113 = .ok (.iadd, 1) := by decide +kernel
theorem J_HField_build_d114 : decode J_HField_build.2.1 114 = .ok (.bipush 14, 2) := by decide +kernel
theorem J_HField_build_d116 : decode J_HField_build.2.1 116 = .ok (.imul, 1) := by decide +kernel
theorem J_HField_build_d117 : decode J_HField_build.2.1 117 = .ok (.istore 9, 2) := by decide +kernel
theorem J_HField_build_d119 : decode J_HField_build.2.1 119 = .ok (.aload_n 1, 1) := by decide +kernel
theorem J_HField_build_d120 : decode J_HField_build.2.1 120 = .ok (.getfield 84, 3) := by decide +kernel
theorem J_HField_build_d123 : decode J_HField_build.2.1 123 = .ok (.iload 9, 2) := by decide +kernel
theorem J_HField_build_d125 : decode J_HField_build.2.1 125 = .ok (.iconst 4, 1) := by decide +kernel
theorem J_HField_build_d126 : decode J_HField_build.2.1 126 = .ok (.iadd, 1) := by decide +kernel
theorem J_HField_build_d127 : decode J_HField_build.2.1 127 = .ok (.aload_n 0, 1) := by decide +kernel
theorem J_HField_build_d128 : decode J_HField_build.2.1 128 = .ok (.getfield 37, 3) := by decide +kernel
theorem J_HField_build_d131 : decode J_HField_build.2.1 131 = .ok (.ifCond .eq 7, 3) := by decide +kernel
theorem J_HField_build_d134 : decode J_HField_build.2.1 134 = .ok (.iconst 2, 1) := by decide +kernel
theorem J_HField_build_d135 : decode J_HField_build.2.1 135 = .ok (.goto 4, 3) := by decide +kernel
theorem J_HField_build_d138 : decode J_HField_build.2.1 138 = .ok (.iconst 0, 1) := by decide +kernel
theorem J_HField_build_d139 : decode J_HField_build.2.1 139 = .ok (.iastore, 1) := by decide +kernel
theorem J_HField_build_d140 : decode J_HField_build.2.1 140 = .ok (.aload_n 1, 1) := by decide +kernel
theorem J_HField_build_d141 : decode J_HField_build.2.1 141 = .ok (.getfield 84, 3) := by decide +kernel
theorem J_HField_build_d144 : decode J_HField_build.2.1 144 = .ok (.iload 9, 2) := by decide +kernel
theorem J_HField_build_d146 : decode J_HField_build.2.1 146 = .ok (.bipush 11, 2) := by decide +kernel
theorem J_HField_build_d148 : decode J_HField_build.2.1 148 = .ok (.iadd, 1) := by decide +kernel
theorem J_HField_build_d149 : decode J_HField_build.2.1 149 = .ok (.aload_n 0, 1) := by decide +kernel
theorem J_HField_build_d150 : decode J_HField_build.2.1 150 = .ok (.getfield 41, 3) := by decide +kernel
theorem J_HField_build_d153 : decode J_HField_build.2.1 153 = .ok (.ifCond .eq 7, 3) := by decide +kernel
theorem J_HField_build_d156 : decode J_HField_build.2.1 156 = .ok (.iconst 1, 1) := by decide +kernel
theorem J_HField_build_d157 : decode J_HField_build.2.1 157 = .ok (.goto 4, 3) := by decide +kernel
theorem J_HField_build_d160 : decode J_HField_build.2.1 160 = .ok (.iconst 0, 1) := by decide +kernel
theorem J_HField_build_d161 : decode J_HField_build.2.1 161 = .ok (.iastore, 1) := by decide +kernel
theorem J_HField_build_d162 : decode J_HField_build.2.1 162 = .ok (.aload_n 1, 1) := by decide +kernel
theorem J_HField_build_d163 : decode J_HField_build.2.1 163 = .ok (.getfield 84, 3) := by decide +kernel
theorem J_HField_build_d166 : decode J_HField_build.2.1 166 = .ok (.iload 9, 2) := by decide +kernel
theorem J_HField_build_d168 : decode J_HField_build.2.1 168 = .ok (.bipush 12, 2) := by decide +kernel
theorem J_HField_build_d170 : decode J_HField_build.2.1 170 = .ok (.iadd, 1) := by decide +kernel
theorem J_HField_build_d171 : decode J_HField_build.2.1 171 = .ok (.aload_n 0, 1) := by decide +kernel
theorem J_HField_build_d172 : decode J_HField_build.2.1 172 = .ok (.getfield 44, 3) := by decide +kernel
theorem J_HField_build_d175 : decode J_HField_build.2.1 175 = .ok (.iastore, 1) := by decide +kernel
theorem J_HField_build_d176 : decode J_HField_build.2.1 176 = .ok (.aload_n 1, 1) := by decide +kernel
theorem J_HField_build_d177 : decode J_HField_build.2.1 177 = .ok (.getfield 84, 3) := by decide +kernel
theorem J_HField_build_d180 : decode J_HField_build.2.1 180 = .ok (.iload 9, 2) := by decide +kernel
theorem J_HField_build_d182 : decode J_HField_build.2.1 182 = .ok (.bipush 13, 2) := by decide +kernel
theorem J_HField_build_d184 : decode J_HField_build.2.1 184 = .ok (.iadd, 1) := by decide +kernel
theorem J_HField_build_d185 : decode J_HField_build.2.1 185 = .ok (.aload_n 0, 1) := by decide +kernel
theorem J_HField_build_d186 : decode J_HField_build.2.1 186 = .ok (.getfield 47, 3) := by decide +kernel
theorem J_HField_build_d189 : decode J_HField_build.2.1 189 = .ok (.iastore, 1) := by decide +kernel
theorem J_HField_build_d190 : decode J_HField_build.2.1 190 = .ok (.aload_n 1, 1) := by decide +kernel
theorem J_HField_build_d191 : decode J_HField_build.2.1 191 = .ok (.getfield 84, 3) := by decide +kernel
theorem J_HField_build_d194 : decode J_HField_build.2.1 194 = .ok (.iload 9, 2) := by decide +kernel
theorem J_HField_build_d196 : decode J_HField_build.2.1 196 = .ok (.iconst 1, 1) := by decide +kernel
theorem J_HField_build_d197 : decode J_HField_build.2.1 197 = .ok (.iadd, 1) := by decide +kernel
theorem J_HField_build_d198 : decode J_HField_build.2.1 198 = .ok (.iaload, 1) := by decide +kernel
theorem J_HField_build_d199 : decode J_HField_build.2.1 199 = .ok (.invokestatic 87, 3) := by decide +kernel
theorem J_HField_build_d202 : decode J_HField_build.2.1 202 = .ok (.ifCond .eq 22, 3) := by decide +kernel
theorem J_HField_build_d205 : decode J_HField_build.2.1 205 = .ok (.aload_n 1, 1) := by decide +kernel
theorem J_HField_build_d206 : decode J_HField_build.2.1 206 = .ok (.getfield 84, 3) := by decide +kernel
theorem J_HField_build_d209 : decode J_HField_build.2.1 209 = .ok (.iload 9, 2) := by decide +kernel
theorem J_HField_build_d211 : decode J_HField_build.2.1 211 = .ok (.iconst 2, 1) := by decide +kernel
theorem J_HField_build_d212 : decode J_HField_build.2.1 212 = .ok (.iadd, 1) := by decide +kernel
theorem J_HField_build_d213 : decode J_HField_build.2.1 213 = .ok (.iaload, 1) := by decide +kernel
theorem J_HField_build_d214 : decode J_HField_build.2.1 214 = .ok (.invokestatic 87, 3) := by decide +kernel
theorem J_HField_build_d217 : decode J_HField_build.2.1 217 = .ok (.ifCond .eq 7, 3) := by decide +kernel
theorem J_HField_build_d220 : decode J_HField_build.2.1 220 = .ok (.iconst 1, 1) := by decide +kernel
theorem J_HField_build_d221 : decode J_HField_build.2.1 221 = .ok (.goto 4, 3) := by decide +kernel
theorem J_HField_build_d224 : decode J_HField_build.2.1 224 = .ok (.iconst 0, 1) := by decide +kernel
theorem J_HField_build_d225 : decode J_HField_build.2.1 225 = .ok (.istore 7, 2) := by decide +kernel
theorem J_HField_build_d227 : decode J_HField_build.2.1 227 = .ok (.iinc 8 1, 3) := by decide +kernel
theorem J_HField_build_d230 : decode J_HField_build.2.1 230 = .ok (.goto (-135), 3) := by decide +kernel
theorem J_HField_build_d233 : decode J_HField_build.2.1 233 = .ok (.aload_n 0, 1) := by decide +kernel
theorem J_HField_build_d234 : decode J_HField_build.2.1 234 = .ok (.getfield 34, 3) := by decide +kernel
theorem J_HField_build_d237 : decode J_HField_build.2.1 237 = .ok (.bipush 6, 2) := by decide +kernel
theorem J_HField_build_d239 : decode J_HField_build.2.1 239 = .ok (.if_icmp .ne 43, 3) := by decide +kernel
theorem J_HField_build_d242 : decode J_HField_build.2.1 242 = .ok (.iload 7, 2) := by decide +kernel
theorem J_HField_build_d244 : decode J_HField_build.2.1 244 = .ok (.iload 4, 2) := by decide +kernel
theorem J_HField_build_d246 : decode J_HField_build.2.1 246 = .ok (.aload_n 0, 1) := by decide +kernel
theorem J_HField_build_d247 : decode J_HField_build.2.1 247 = .ok (.getfield 9, 3) := by decide +kernel
theorem J_HField_build_d250 : decode J_HField_build.2.1 250 = .ok (.iconst 0, 1) := by decide +kernel
theorem J_HField_build_d251 : decode J_HField_build.2.1 251 = .ok (.iaload, 1) := by decide +kernel
theorem J_HField_build_d252 : decode J_HField_build.2.1 252 = .ok (.iadd, 1) := by decide +kernel
theorem J_HField_build_d253 : decode J_HField_build.2.1 253 = .ok (.invokestatic 87, 3) := by decide +kernel
theorem J_HField_build_d256 : decode J_HField_build.2.1 256 = .ok (.ifCond .eq 22, 3) := by decide +kernel
theorem J_HField_build_d259 : decode J_HField_build.2.1 259 = .ok (.iload 5, 2) := by decide +kernel
theorem J_HField_build_d261 : decode J_HField_build.2.1 261 = .ok (.aload_n 0, 1) := by decide +kernel
theorem J_HField_build_d262 : decode J_HField_build.2.1 262 = .ok (.getfield 9, 3) := by decide +kernel
theorem J_HField_build_d265 : decode J_HField_build.2.1 265 = .ok (.iconst 1, 1) := by decide +kernel
theorem J_HField_build_d266 : decode J_HField_build.2.1 266 = .ok (.iaload, 1) := by decide +kernel
theorem J_HField_build_d267 : decode J_HField_build.2.1 267 = .ok (.iadd, 1) := by decide +kernel
theorem J_HField_build_d268 : decode J_HField_build.2.1 268 = .ok (.invokestatic 87, 3) := by decide +kernel
theorem J_HField_build_d271 : decode J_HField_build.2.1 271 = .ok (.ifCond .eq 7, 3) := by decide +kernel
theorem J_HField_build_d274 : decode J_HField_build.2.1 274 = .ok (.iconst 1, 1) := by decide +kernel
theorem J_HField_build_d275 : decode J_HField_build.2.1 275 = .ok (.goto 4, 3) := by decide +kernel
theorem J_HField_build_d278 : decode J_HField_build.2.1 278 = .ok (.iconst 0, 1) := by decide +kernel
theorem J_HField_build_d279 : decode J_HField_build.2.1 279 = .ok (.iand, 1) := by decide +kernel
theorem J_HField_build_d280 : decode J_HField_build.2.1 280 = .ok (.istore 7, 2) := by decide +kernel
theorem J_HField_build_d282 : decode J_HField_build.2.1 282 = .ok (.iload 7, 2) := by decide +kernel
theorem J_HField_build_d284 : decode J_HField_build.2.1 284 = .ok (.ifCond .eq 8, 3) := by decide +kernel
theorem J_HField_build_d287 : decode J_HField_build.2.1 287 = .ok (.iload 6, 2) := by decide +kernel
theorem J_HField_build_d289 : decode J_HField_build.2.1 289 = .ok (.goto 4, 3) := by decide +kernel
theorem J_HField_build_d292 : decode J_HField_build.2.1 292 = .ok (.iconst (-1), 1) := by decide +kernel
theorem J_HField_build_d293 : decode J_HField_build.2.1 293 = .ok (.ireturn, 1) := by decide +kernel
theorem f_HField_build_ok {L : Nat} {xs : Nat → Int32} {dep : Nat} {w : Bool} {M : im_M} {Q : Int32 × im_M → Prop} (hM : lw_S w M) (h : ed (f_HField_build M) Q) : ia (tb_G L xs) (dep + 4) J_HField_build (rwI w Q) (0, lv_args 0 [.ref 23, .ref 19, .ref 17, .ref 18], [], M) := by
  have hS : im_St (tb_G L xs) (dep + 4) J_HField_build (ia (tb_G L xs) (dep + 4) J_HField_build (rwI w Q)) := ia_St
  unfold f_HField_build at h
  have l0 : im_lk (lv_args 0 [.ref 23, .ref 19, .ref 17, .ref 18]) 0 = some (.ref 23) := rfl
  have l1 : im_lk (lv_args 0 [.ref 23, .ref 19, .ref 17, .ref 18]) 1 = some (.ref 19) := rfl
  have l2 : im_lk (lv_args 0 [.ref 23, .ref 19, .ref 17, .ref 18]) 2 = some (.ref 17) := rfl
  have l3 : im_lk (lv_args 0 [.ref 23, .ref 19, .ref 17, .ref 18]) 3 = some (.ref 18) := rfl
  refine iq_aload_n hS 1 J_HField_build_d0 l2 rfl ?_
  refine iq_iconst hS 2 J_HField_build_d1 (v := 0) (by decide +kernel) rfl ?_
  obtain ⟨g2, h⟩ := ed_gd h
  refine iq_iaload hS 3 J_HField_build_d2 ⟨(ka_17 hM).1, (ka_17 hM).2, g2.1, ix_lt (kl_17 hM) g2.2⟩ rfl ?_
  refine iq_aload_n hS 4 J_HField_build_d3 l0 rfl ?_
  refine iq_getI hS 7 J_HField_build_d4 lf_2_27 (Or.inl rfl) (ka_23 hM) rfl ?_
  refine iq_iadd hS 8 J_HField_build_d7 rfl ?_
  refine iq_istore hS 10 J_HField_build_d8 (by decide) rfl ?_
  refine iq_aload_n hS 11 J_HField_build_d10 (lk_1r l2 (by decide)) rfl ?_
  refine iq_iconst hS 12 J_HField_build_d11 (v := 1) (by decide +kernel) rfl ?_
  obtain ⟨g12, h⟩ := ed_gd h
  refine iq_iaload hS 13 J_HField_build_d12 ⟨(ka_17 hM).1, (ka_17 hM).2, g12.1, ix_lt (kl_17 hM) g12.2⟩ rfl ?_
  refine iq_aload_n hS 14 J_HField_build_d13 (lk_1r l0 (by decide)) rfl ?_
  refine iq_getI hS 17 J_HField_build_d14 lf_2_31 (Or.inl rfl) (ka_23 hM) rfl ?_
  refine iq_iadd hS 18 J_HField_build_d17 rfl ?_
  refine iq_istore hS 20 J_HField_build_d18 (by decide) rfl ?_
  refine iq_aload_n hS 21 J_HField_build_d20 (lk_1r (lk_1r l0 (by decide)) (by decide)) rfl ?_
  refine iq_getI hS 24 J_HField_build_d21 lf_2_34 (Or.inl rfl) (ka_23 hM) rfl ?_
  refine iq_bipush hS 26 J_HField_build_d24 (v := 8) (by decide +kernel) rfl ?_
  obtain ⟨Q1, hQ1, h⟩ := bd2_ed h
  have J1 : ∀ (y4 : Int32) (M5 : im_M) (L' : List (Nat × Value)), lw_S w M5 → im_lk L' 0 = some (.ref 23) → im_lk L' 1 = some (.ref 19) → im_lk L' 4 = some (.int ((im_i M 17 (Int32.toNatClampNeg 0)) + (im_i M 23 0))) → im_lk L' 5 = some (.int ((im_i M 17 (Int32.toNatClampNeg 1)) + (im_i M 23 1))) → Q1 (y4, M5) → ia (tb_G L xs) (dep + 4) J_HField_build (rwI w Q) (52, L', [.int y4], M5) := by
    intro y4 M5 L' hM5 l6 l7 l8 l9 h
    replace h := hQ1 _ _ h
    refine iq_istore hS 54 J_HField_build_d52 (by decide) rfl ?_
    refine iq_aload_n hS 55 J_HField_build_d54 (lk_1r l6 (by decide)) rfl ?_
    refine iq_getR hS 58 J_HField_build_d55 lf_2_17 (Or.inr ⟨_, rfl⟩) (ka_23 hM5) (ra_23_7 hM5) rfl ?_
    refine iq_iconst hS 59 J_HField_build_d58 (v := 0) (by decide +kernel) rfl ?_
    refine iq_aload_n hS 60 J_HField_build_d59 (lk_1r l7 (by decide)) rfl ?_
    refine iq_getR hS 63 J_HField_build_d60 lf_2_78 (Or.inr ⟨_, rfl⟩) (ka_19 hM5) (ra_19_1 hM5) rfl ?_
    refine iq_aload_n hS 64 J_HField_build_d63 (lk_1r l7 (by decide)) rfl ?_
    refine iq_getI hS 67 J_HField_build_d64 lf_2_81 (Or.inl rfl) (ka_19 hM5) rfl ?_
    refine iq_sipush hS 70 J_HField_build_d67 (v := 200) (by decide +kernel) rfl ?_
    refine iq_imul hS 71 J_HField_build_d70 rfl ?_
    refine iq_aload_n hS 72 J_HField_build_d71 (lk_1r l6 (by decide)) rfl ?_
    refine iq_getI hS 75 J_HField_build_d72 lf_2_47 (Or.inl rfl) (ka_23 hM5) rfl ?_
    obtain ⟨g75, h⟩ := ed_gd h
    refine iq_cpy hS 78 J_HField_build_d75 (ga_of (by decide +kernel)) (ka_22 hM5) (ka_25 hM5) (by decide) (kl_25 hM5) (kl_22 hM5) g75 (Nat.le_of_ble_eq_true rfl) rfl ?_
    refine iq_iload hS 80 J_HField_build_d78 lk_1s rfl ?_
    refine iq_bipush hS 82 J_HField_build_d80 (v := 20) (by decide +kernel) rfl ?_
    have J10 : ∀ (z11 : Int32) (L' : List (Nat × Value)), z11 = ((if 20 < y4 then 0 else 1) : Int32) → im_lk L' 0 = some (.ref 23) → im_lk L' 1 = some (.ref 19) → im_lk L' 4 = some (.int ((im_i M 17 (Int32.toNatClampNeg 0)) + (im_i M 23 0))) → im_lk L' 5 = some (.int ((im_i M 17 (Int32.toNatClampNeg 1)) + (im_i M 23 1))) → im_lk L' 6 = some (.int y4) → ia (tb_G L xs) (dep + 4) J_HField_build (rwI w Q) (90, L', [.int z11], (im_setA M5 22 (va_cpy (im_i M5 25) (im_i M5 22) (Int32.toNatClampNeg 0) (Int32.toNatClampNeg ((im_i M5 19 3) * 200)) (Int32.toNatClampNeg (im_i M5 23 8))))) := by
      intro z11 L' e12 l13 l14 l15 l16 l17
      subst e12
      refine iq_istore hS 92 J_HField_build_d90 (by decide) rfl ?_
      refine iq_iconst hS 93 J_HField_build_d92 (v := 0) (by decide +kernel) rfl ?_
      refine iq_istore hS 95 J_HField_build_d93 (by decide) rfl ?_
      obtain ⟨Q18, hQ18, h⟩ := bd2_ed h
      have K18 : ∀ (y19 : Int32) (M20 : im_M) (L' : List (Nat × Value)), lw_S w M20 → im_lk L' 0 = some (.ref 23) → im_lk L' 4 = some (.int ((im_i M 17 (Int32.toNatClampNeg 0)) + (im_i M 23 0))) → im_lk L' 5 = some (.int ((im_i M 17 (Int32.toNatClampNeg 1)) + (im_i M 23 1))) → im_lk L' 6 = some (.int y4) → im_lk L' 7 = some (.int y19) → Q18 (y19, M20) → ia (tb_G L xs) (dep + 4) J_HField_build (rwI w Q) (233, L', [], M20) := by
        intro y19 M20 L' hM20 l21 l22 l23 l24 l25 h
        replace h := hQ18 _ _ h
        refine iq_aload_n hS 234 J_HField_build_d233 l21 rfl ?_
        refine iq_getI hS 237 J_HField_build_d234 lf_2_34 (Or.inl rfl) (ka_23 hM20) rfl ?_
        refine iq_bipush hS 239 J_HField_build_d237 (v := 6) (by decide +kernel) rfl ?_
        obtain ⟨Q26, hQ26, h⟩ := bd1_ed h
        have J26 : ∀ (y34 : Int32) (L' : List (Nat × Value)), im_lk L' 6 = some (.int y4) → im_lk L' 7 = some (.int y34) → Q26 y34 → ia (tb_G L xs) (dep + 4) J_HField_build (rwI w Q) (282, L', [], M20) := by
          intro y34 L' l35 l36 h
          replace h := hQ26 _ h
          refine iq_iload hS 284 J_HField_build_d282 l36 rfl ?_
          refine iq_if_eq hS 287 J_HField_build_d284 (t := 292) rfl (fun q284 => ?_) rfl (fun q284 => ?_)
          · replace h := ed_pos q284 h
            refine iq_iconst hS 293 J_HField_build_d292 (v := (-1)) (by decide +kernel) rfl ?_
            exact iq_iret J_HField_build_d293 rfl rfl ⟨_, rfl, hM20, ed_some h⟩
          · replace h := ed_neg q284 h
            refine iq_iload hS 289 J_HField_build_d287 l35 rfl ?_
            refine iq_goto hS J_HField_build_d289 (t := 293) rfl ?_
            exact iq_iret J_HField_build_d293 rfl rfl ⟨_, rfl, hM20, ed_some h⟩
        refine iq_icmp_ne hS 242 J_HField_build_d239 (t := 282) rfl (fun q239 => ?_) rfl (fun q239 => ?_)
        · replace h := ed_pos q239 h
          exact J26 _ _ l24 l25 (ed_some h)
        · replace h := ed_neg q239 h
          refine iq_iload hS 244 J_HField_build_d242 l25 rfl ?_
          refine iq_iload hS 246 J_HField_build_d244 l22 rfl ?_
          refine iq_aload_n hS 247 J_HField_build_d246 l21 rfl ?_
          refine iq_getR hS 250 J_HField_build_d247 lf_2_9 (Or.inr ⟨_, rfl⟩) (ka_23 hM20) (ra_23_3 hM20) rfl ?_
          refine iq_iconst hS 251 J_HField_build_d250 (v := 0) (by decide +kernel) rfl ?_
          obtain ⟨g251, h⟩ := ed_gd h
          refine iq_iaload hS 252 J_HField_build_d251 ⟨(ka_24 hM20).1, (ka_24 hM20).2, g251.1, ix_lt (kl_24 hM20) g251.2⟩ rfl ?_
          refine iq_iadd hS 253 J_HField_build_d252 rfl ?_
          obtain ⟨Q27, hQ27, h⟩ := bd1_ed h
          refine iq_cpI hS 256 J_HField_build_d253 rfl (pr_stat (vs := [_]) lc_2_87 lT_68 rfl rfl (by decide) rfl (Nat.le_of_ble_eq_true rfl) (Nat.le_of_ble_eq_true rfl)) (f_HOrders_inRange_ok (dep := dep + 3) hM20 h) rfl ?_
          intro x27 h
          replace h := hQ27 _ h
          obtain ⟨Q28, hQ28, h⟩ := bd1_ed h
          have J28 : ∀ (y32 : Int32) (L' : List (Nat × Value)), im_lk L' 6 = some (.int y4) → Q28 y32 → ia (tb_G L xs) (dep + 4) J_HField_build (rwI w Q) (279, L', [.int y32, .int y19], M20) := by
            intro y32 L' l33 h
            replace h := hQ28 _ h
            refine iq_iand hS 280 J_HField_build_d279 rfl ?_
            refine iq_istore hS 282 J_HField_build_d280 (by decide) rfl ?_
            exact J26 _ _ (lk_1i l33 (by decide)) lk_1s (ed_some h)
          obtain ⟨k29, Q29, hQ29, hk29, h⟩ := jn0_ed h
          have J29 : ∀  (L' : List (Nat × Value)), im_lk L' 6 = some (.int y4) → Q29 () → ia (tb_G L xs) (dep + 4) J_HField_build (rwI w Q) (278, L', [.int y19], M20) := by
            intro  L' l31 h
            replace h := hQ29  h
            refine iq_iconst hS 279 J_HField_build_d278 (v := 0) (by decide +kernel) rfl ?_
            exact J28 _ _ l31 (ed_some h)
          refine iq_if_eq hS 259 J_HField_build_d256 (t := 278) rfl (fun q256 => ?_) rfl (fun q256 => ?_)
          · replace h := ed_pos q256 h
            exact J29  _ l24 (hk29  h)
          · replace h := ed_neg q256 h
            refine iq_iload hS 261 J_HField_build_d259 l23 rfl ?_
            refine iq_aload_n hS 262 J_HField_build_d261 l21 rfl ?_
            refine iq_getR hS 265 J_HField_build_d262 lf_2_9 (Or.inr ⟨_, rfl⟩) (ka_23 hM20) (ra_23_3 hM20) rfl ?_
            refine iq_iconst hS 266 J_HField_build_d265 (v := 1) (by decide +kernel) rfl ?_
            obtain ⟨g266, h⟩ := ed_gd h
            refine iq_iaload hS 267 J_HField_build_d266 ⟨(ka_24 hM20).1, (ka_24 hM20).2, g266.1, ix_lt (kl_24 hM20) g266.2⟩ rfl ?_
            refine iq_iadd hS 268 J_HField_build_d267 rfl ?_
            obtain ⟨Q30, hQ30, h⟩ := bd1_ed h
            refine iq_cpI hS 271 J_HField_build_d268 rfl (pr_stat (vs := [_]) lc_2_87 lT_68 rfl rfl (by decide) rfl (Nat.le_of_ble_eq_true rfl) (Nat.le_of_ble_eq_true rfl)) (f_HOrders_inRange_ok (dep := dep + 3) hM20 h) rfl ?_
            intro x30 h
            replace h := hQ30 _ h
            refine iq_if_eq hS 274 J_HField_build_d271 (t := 278) rfl (fun q271 => ?_) rfl (fun q271 => ?_)
            · replace h := ed_pos q271 h
              exact J29  _ l24 (hk29  h)
            · replace h := ed_neg q271 h
              refine iq_iconst hS 275 J_HField_build_d274 (v := 1) (by decide +kernel) rfl ?_
              refine iq_goto hS J_HField_build_d275 (t := 279) rfl ?_
              exact J28 _ _ l24 (ed_some h)
      obtain ⟨r18, hr18, hq18⟩ := h
      obtain ⟨n18, hn18⟩ := lp_n hr18
      have I18 : ∀ (n : Nat) (x37 : Int32) (x38 : Int32) (M39 : im_M) (L' : List (Nat × Value)), lw_S w M39 → im_lk L' 0 = some (.ref 23) → im_lk L' 1 = some (.ref 19) → im_lk L' 4 = some (.int ((im_i M 17 (Int32.toNatClampNeg 0)) + (im_i M 23 0))) → im_lk L' 5 = some (.int ((im_i M 17 (Int32.toNatClampNeg 1)) + (im_i M 23 1))) → im_lk L' 6 = some (.int y4) → im_lk L' 7 = some (.int x37) → im_lk L' 8 = some (.int x38) → lpn (uc3 (f_HField_build_L95 ((im_i M 17 (Int32.toNatClampNeg 0)) + (im_i M 23 0)) ((im_i M 17 (Int32.toNatClampNeg 1)) + (im_i M 23 1)) y4)) n (x37, x38, M39) = some r18 → ia (tb_G L xs) (dep + 4) J_HField_build (rwI w Q) (95, L', [], M39) := by
        intro n
        induction n with
        | zero => intro x37 x38 M39 L' hM39 l40 l41 l42 l43 l44 l45 l46 hn; exact (lpn_0 hn).elim
        | succ n ih =>
          intro x37 x38 M39 L' hM39 l40 l41 l42 l43 l44 l45 l46 hn
          have h := lpn_ed3 hn
          unfold f_HField_build_L95 at h
          refine iq_iload hS 97 J_HField_build_d95 l45 rfl ?_
          refine iq_if_eq hS 100 J_HField_build_d97 (t := 233) rfl (fun q97 => ?_) rfl (fun q97 => ?_)
          · replace h := ed_pos q97 h
            exact K18 _ _ _ hM39 l40 l42 l43 l44 l45 (lq_r h hq18)
          · replace h := ed_neg q97 h
            refine iq_iload hS 102 J_HField_build_d100 l46 rfl ?_
            refine iq_iload hS 104 J_HField_build_d102 l44 rfl ?_
            refine iq_icmp_ge hS 107 J_HField_build_d104 (t := 233) rfl (fun q104 => ?_) rfl (fun q104 => ?_)
            · replace h := ed_pos q104 h
              exact K18 _ _ _ hM39 l40 l42 l43 l44 l45 (lq_r h hq18)
            · replace h := ed_neg q104 h
              refine iq_aload_n hS 108 J_HField_build_d107 l41 rfl ?_
              refine iq_getI hS 111 J_HField_build_d108 lf_2_81 (Or.inl rfl) (ka_19 hM39) rfl ?_
              refine iq_iload hS 113 J_HField_build_d111 l46 rfl ?_
              refine iq_iadd hS 114 J_HField_build_d113 rfl ?_
              refine iq_bipush hS 116 J_HField_build_d114 (v := 14) (by decide +kernel) rfl ?_
              refine iq_imul hS 117 J_HField_build_d116 rfl ?_
              refine iq_istore hS 119 J_HField_build_d117 (by decide) rfl ?_
              refine iq_aload_n hS 120 J_HField_build_d119 (lk_1r l41 (by decide)) rfl ?_
              refine iq_getR hS 123 J_HField_build_d120 lf_2_84 (Or.inr ⟨_, rfl⟩) (ka_19 hM39) (ra_19_0 hM39) rfl ?_
              refine iq_iload hS 125 J_HField_build_d123 lk_1s rfl ?_
              refine iq_iconst hS 126 J_HField_build_d125 (v := 4) (by decide +kernel) rfl ?_
              refine iq_iadd hS 127 J_HField_build_d126 rfl ?_
              refine iq_aload_n hS 128 J_HField_build_d127 (lk_1r l40 (by decide)) rfl ?_
              refine iq_getI hS 131 J_HField_build_d128 lf_2_37 (Or.inr rfl) (ka_23 hM39) rfl ?_
              have J47 : ∀ (z48 : Int32) (L' : List (Nat × Value)), z48 = ((if (im_i M39 23 4) = 0 then 0 else 2) : Int32) → im_lk L' 0 = some (.ref 23) → im_lk L' 1 = some (.ref 19) → im_lk L' 4 = some (.int ((im_i M 17 (Int32.toNatClampNeg 0)) + (im_i M 23 0))) → im_lk L' 5 = some (.int ((im_i M 17 (Int32.toNatClampNeg 1)) + (im_i M 23 1))) → im_lk L' 6 = some (.int y4) → im_lk L' 8 = some (.int x38) → im_lk L' 9 = some (.int (((im_i M39 19 3) + x38) * 14)) → ia (tb_G L xs) (dep + 4) J_HField_build (rwI w Q) (139, L', [.int z48, .int ((((im_i M39 19 3) + x38) * 14) + 4), .ref 21], M39) := by
                intro z48 L' e49 l50 l51 l52 l53 l54 l55 l56
                subst e49
                obtain ⟨g139, h⟩ := ed_gd h
                refine iq_iastore hS 140 J_HField_build_d139 ⟨(ka_21 hM39).1, (ka_21 hM39).2, g139.1, ix_lt (kl_21 hM39) g139.2⟩ rfl ?_
                refine iq_aload_n hS 141 J_HField_build_d140 l51 rfl ?_
                refine iq_getR hS 144 J_HField_build_d141 lf_2_84 (Or.inr ⟨_, rfl⟩) (ka_19 (lw_sI hM39)) (ra_19_0 (lw_sI hM39)) rfl ?_
                refine iq_iload hS 146 J_HField_build_d144 l56 rfl ?_
                refine iq_bipush hS 148 J_HField_build_d146 (v := 11) (by decide +kernel) rfl ?_
                refine iq_iadd hS 149 J_HField_build_d148 rfl ?_
                refine iq_aload_n hS 150 J_HField_build_d149 l50 rfl ?_
                refine iq_getI hS 153 J_HField_build_d150 lf_2_41 (Or.inr rfl) (ka_23 (lw_sI hM39)) rfl ?_
                have J57 : ∀ (z58 : Int32) (L' : List (Nat × Value)), z58 = ((if (im_i (im_setI M39 21 (Int32.toNatClampNeg ((((im_i M39 19 3) + x38) * 14) + 4)) ((if (im_i M39 23 4) = 0 then 0 else 2) : Int32)) 23 5) = 0 then 0 else 1) : Int32) → im_lk L' 0 = some (.ref 23) → im_lk L' 1 = some (.ref 19) → im_lk L' 4 = some (.int ((im_i M 17 (Int32.toNatClampNeg 0)) + (im_i M 23 0))) → im_lk L' 5 = some (.int ((im_i M 17 (Int32.toNatClampNeg 1)) + (im_i M 23 1))) → im_lk L' 6 = some (.int y4) → im_lk L' 8 = some (.int x38) → im_lk L' 9 = some (.int (((im_i M39 19 3) + x38) * 14)) → ia (tb_G L xs) (dep + 4) J_HField_build (rwI w Q) (161, L', [.int z58, .int ((((im_i M39 19 3) + x38) * 14) + 11), .ref 21], (im_setI M39 21 (Int32.toNatClampNeg ((((im_i M39 19 3) + x38) * 14) + 4)) ((if (im_i M39 23 4) = 0 then 0 else 2) : Int32))) := by
                  intro z58 L' e59 l60 l61 l62 l63 l64 l65 l66
                  subst e59
                  obtain ⟨g161, h⟩ := ed_gd h
                  refine iq_iastore hS 162 J_HField_build_d161 ⟨(ka_21 (lw_sI hM39)).1, (ka_21 (lw_sI hM39)).2, g161.1, ix_lt (kl_21 (lw_sI hM39)) g161.2⟩ rfl ?_
                  refine iq_aload_n hS 163 J_HField_build_d162 l61 rfl ?_
                  refine iq_getR hS 166 J_HField_build_d163 lf_2_84 (Or.inr ⟨_, rfl⟩) (ka_19 (lw_sI (lw_sI hM39))) (ra_19_0 (lw_sI (lw_sI hM39))) rfl ?_
                  refine iq_iload hS 168 J_HField_build_d166 l66 rfl ?_
                  refine iq_bipush hS 170 J_HField_build_d168 (v := 12) (by decide +kernel) rfl ?_
                  refine iq_iadd hS 171 J_HField_build_d170 rfl ?_
                  refine iq_aload_n hS 172 J_HField_build_d171 l60 rfl ?_
                  refine iq_getI hS 175 J_HField_build_d172 lf_2_44 (Or.inl rfl) (ka_23 (lw_sI (lw_sI hM39))) rfl ?_
                  obtain ⟨g175, h⟩ := ed_gd h
                  refine iq_iastore hS 176 J_HField_build_d175 ⟨(ka_21 (lw_sI (lw_sI hM39))).1, (ka_21 (lw_sI (lw_sI hM39))).2, g175.1, ix_lt (kl_21 (lw_sI (lw_sI hM39))) g175.2⟩ rfl ?_
                  refine iq_aload_n hS 177 J_HField_build_d176 l61 rfl ?_
                  refine iq_getR hS 180 J_HField_build_d177 lf_2_84 (Or.inr ⟨_, rfl⟩) (ka_19 (lw_sI (lw_sI (lw_sI hM39)))) (ra_19_0 (lw_sI (lw_sI (lw_sI hM39)))) rfl ?_
                  refine iq_iload hS 182 J_HField_build_d180 l66 rfl ?_
                  refine iq_bipush hS 184 J_HField_build_d182 (v := 13) (by decide +kernel) rfl ?_
                  refine iq_iadd hS 185 J_HField_build_d184 rfl ?_
                  refine iq_aload_n hS 186 J_HField_build_d185 l60 rfl ?_
                  refine iq_getI hS 189 J_HField_build_d186 lf_2_47 (Or.inl rfl) (ka_23 (lw_sI (lw_sI (lw_sI hM39)))) rfl ?_
                  obtain ⟨g189, h⟩ := ed_gd h
                  refine iq_iastore hS 190 J_HField_build_d189 ⟨(ka_21 (lw_sI (lw_sI (lw_sI hM39)))).1, (ka_21 (lw_sI (lw_sI (lw_sI hM39)))).2, g189.1, ix_lt (kl_21 (lw_sI (lw_sI (lw_sI hM39)))) g189.2⟩ rfl ?_
                  refine iq_aload_n hS 191 J_HField_build_d190 l61 rfl ?_
                  refine iq_getR hS 194 J_HField_build_d191 lf_2_84 (Or.inr ⟨_, rfl⟩) (ka_19 (lw_sI (lw_sI (lw_sI (lw_sI hM39))))) (ra_19_0 (lw_sI (lw_sI (lw_sI (lw_sI hM39))))) rfl ?_
                  refine iq_iload hS 196 J_HField_build_d194 l66 rfl ?_
                  refine iq_iconst hS 197 J_HField_build_d196 (v := 1) (by decide +kernel) rfl ?_
                  refine iq_iadd hS 198 J_HField_build_d197 rfl ?_
                  obtain ⟨g198, h⟩ := ed_gd h
                  refine iq_iaload hS 199 J_HField_build_d198 ⟨(ka_21 (lw_sI (lw_sI (lw_sI (lw_sI hM39))))).1, (ka_21 (lw_sI (lw_sI (lw_sI (lw_sI hM39))))).2, g198.1, ix_lt (kl_21 (lw_sI (lw_sI (lw_sI (lw_sI hM39))))) g198.2⟩ rfl ?_
                  obtain ⟨Q67, hQ67, h⟩ := bd1_ed h
                  refine iq_cpI hS 202 J_HField_build_d199 rfl (pr_stat (vs := [_]) lc_2_87 lT_68 rfl rfl (by decide) rfl (Nat.le_of_ble_eq_true rfl) (Nat.le_of_ble_eq_true rfl)) (f_HOrders_inRange_ok (dep := dep + 3) (lw_sI (lw_sI (lw_sI (lw_sI hM39)))) h) rfl ?_
                  intro x67 h
                  replace h := hQ67 _ h
                  obtain ⟨Q68, hQ68, h⟩ := bd1_ed h
                  have J68 : ∀ (y77 : Int32) (L' : List (Nat × Value)), im_lk L' 0 = some (.ref 23) → im_lk L' 1 = some (.ref 19) → im_lk L' 4 = some (.int ((im_i M 17 (Int32.toNatClampNeg 0)) + (im_i M 23 0))) → im_lk L' 5 = some (.int ((im_i M 17 (Int32.toNatClampNeg 1)) + (im_i M 23 1))) → im_lk L' 6 = some (.int y4) → im_lk L' 8 = some (.int x38) → Q68 y77 → ia (tb_G L xs) (dep + 4) J_HField_build (rwI w Q) (225, L', [.int y77], (im_setI (im_setI (im_setI (im_setI M39 21 (Int32.toNatClampNeg ((((im_i M39 19 3) + x38) * 14) + 4)) ((if (im_i M39 23 4) = 0 then 0 else 2) : Int32)) 21 (Int32.toNatClampNeg ((((im_i M39 19 3) + x38) * 14) + 11)) ((if (im_i (im_setI M39 21 (Int32.toNatClampNeg ((((im_i M39 19 3) + x38) * 14) + 4)) ((if (im_i M39 23 4) = 0 then 0 else 2) : Int32)) 23 5) = 0 then 0 else 1) : Int32)) 21 (Int32.toNatClampNeg ((((im_i M39 19 3) + x38) * 14) + 12)) (im_i (im_setI (im_setI M39 21 (Int32.toNatClampNeg ((((im_i M39 19 3) + x38) * 14) + 4)) ((if (im_i M39 23 4) = 0 then 0 else 2) : Int32)) 21 (Int32.toNatClampNeg ((((im_i M39 19 3) + x38) * 14) + 11)) ((if (im_i (im_setI M39 21 (Int32.toNatClampNeg ((((im_i M39 19 3) + x38) * 14) + 4)) ((if (im_i M39 23 4) = 0 then 0 else 2) : Int32)) 23 5) = 0 then 0 else 1) : Int32)) 23 6)) 21 (Int32.toNatClampNeg ((((im_i M39 19 3) + x38) * 14) + 13)) (im_i (im_setI (im_setI (im_setI M39 21 (Int32.toNatClampNeg ((((im_i M39 19 3) + x38) * 14) + 4)) ((if (im_i M39 23 4) = 0 then 0 else 2) : Int32)) 21 (Int32.toNatClampNeg ((((im_i M39 19 3) + x38) * 14) + 11)) ((if (im_i (im_setI M39 21 (Int32.toNatClampNeg ((((im_i M39 19 3) + x38) * 14) + 4)) ((if (im_i M39 23 4) = 0 then 0 else 2) : Int32)) 23 5) = 0 then 0 else 1) : Int32)) 21 (Int32.toNatClampNeg ((((im_i M39 19 3) + x38) * 14) + 12)) (im_i (im_setI (im_setI M39 21 (Int32.toNatClampNeg ((((im_i M39 19 3) + x38) * 14) + 4)) ((if (im_i M39 23 4) = 0 then 0 else 2) : Int32)) 21 (Int32.toNatClampNeg ((((im_i M39 19 3) + x38) * 14) + 11)) ((if (im_i (im_setI M39 21 (Int32.toNatClampNeg ((((im_i M39 19 3) + x38) * 14) + 4)) ((if (im_i M39 23 4) = 0 then 0 else 2) : Int32)) 23 5) = 0 then 0 else 1) : Int32)) 23 6)) 23 8))) := by
                    intro y77 L' l78 l79 l80 l81 l82 l83 h
                    replace h := hQ68 _ h
                    refine iq_istore hS 227 J_HField_build_d225 (by decide) rfl ?_
                    refine iq_iincv hS 230 J_HField_build_d227 (c := 1) (by decide +kernel) (lk_1i l83 (by decide)) (by decide) rfl ?_
                    refine iq_goto hS J_HField_build_d230 (t := 95) rfl ?_
                    exact ih _ _ _ _ (lw_sI (lw_sI (lw_sI (lw_sI hM39)))) (lk_1r (lk_1r l78 (by decide)) (by decide)) (lk_1r (lk_1r l79 (by decide)) (by decide)) (lk_1i (lk_1i l80 (by decide)) (by decide)) (lk_1i (lk_1i l81 (by decide)) (by decide)) (lk_1i (lk_1i l82 (by decide)) (by decide)) (lk_1i lk_1s (by decide)) lk_1s (lq_l h)
                  obtain ⟨k69, Q69, hQ69, hk69, h⟩ := jn0_ed h
                  have J69 : ∀  (L' : List (Nat × Value)), im_lk L' 0 = some (.ref 23) → im_lk L' 1 = some (.ref 19) → im_lk L' 4 = some (.int ((im_i M 17 (Int32.toNatClampNeg 0)) + (im_i M 23 0))) → im_lk L' 5 = some (.int ((im_i M 17 (Int32.toNatClampNeg 1)) + (im_i M 23 1))) → im_lk L' 6 = some (.int y4) → im_lk L' 8 = some (.int x38) → Q69 () → ia (tb_G L xs) (dep + 4) J_HField_build (rwI w Q) (224, L', [], (im_setI (im_setI (im_setI (im_setI M39 21 (Int32.toNatClampNeg ((((im_i M39 19 3) + x38) * 14) + 4)) ((if (im_i M39 23 4) = 0 then 0 else 2) : Int32)) 21 (Int32.toNatClampNeg ((((im_i M39 19 3) + x38) * 14) + 11)) ((if (im_i (im_setI M39 21 (Int32.toNatClampNeg ((((im_i M39 19 3) + x38) * 14) + 4)) ((if (im_i M39 23 4) = 0 then 0 else 2) : Int32)) 23 5) = 0 then 0 else 1) : Int32)) 21 (Int32.toNatClampNeg ((((im_i M39 19 3) + x38) * 14) + 12)) (im_i (im_setI (im_setI M39 21 (Int32.toNatClampNeg ((((im_i M39 19 3) + x38) * 14) + 4)) ((if (im_i M39 23 4) = 0 then 0 else 2) : Int32)) 21 (Int32.toNatClampNeg ((((im_i M39 19 3) + x38) * 14) + 11)) ((if (im_i (im_setI M39 21 (Int32.toNatClampNeg ((((im_i M39 19 3) + x38) * 14) + 4)) ((if (im_i M39 23 4) = 0 then 0 else 2) : Int32)) 23 5) = 0 then 0 else 1) : Int32)) 23 6)) 21 (Int32.toNatClampNeg ((((im_i M39 19 3) + x38) * 14) + 13)) (im_i (im_setI (im_setI (im_setI M39 21 (Int32.toNatClampNeg ((((im_i M39 19 3) + x38) * 14) + 4)) ((if (im_i M39 23 4) = 0 then 0 else 2) : Int32)) 21 (Int32.toNatClampNeg ((((im_i M39 19 3) + x38) * 14) + 11)) ((if (im_i (im_setI M39 21 (Int32.toNatClampNeg ((((im_i M39 19 3) + x38) * 14) + 4)) ((if (im_i M39 23 4) = 0 then 0 else 2) : Int32)) 23 5) = 0 then 0 else 1) : Int32)) 21 (Int32.toNatClampNeg ((((im_i M39 19 3) + x38) * 14) + 12)) (im_i (im_setI (im_setI M39 21 (Int32.toNatClampNeg ((((im_i M39 19 3) + x38) * 14) + 4)) ((if (im_i M39 23 4) = 0 then 0 else 2) : Int32)) 21 (Int32.toNatClampNeg ((((im_i M39 19 3) + x38) * 14) + 11)) ((if (im_i (im_setI M39 21 (Int32.toNatClampNeg ((((im_i M39 19 3) + x38) * 14) + 4)) ((if (im_i M39 23 4) = 0 then 0 else 2) : Int32)) 23 5) = 0 then 0 else 1) : Int32)) 23 6)) 23 8))) := by
                    intro  L' l71 l72 l73 l74 l75 l76 h
                    replace h := hQ69  h
                    refine iq_iconst hS 225 J_HField_build_d224 (v := 0) (by decide +kernel) rfl ?_
                    exact J68 _ _ l71 l72 l73 l74 l75 l76 (ed_some h)
                  refine iq_if_eq hS 205 J_HField_build_d202 (t := 224) rfl (fun q202 => ?_) rfl (fun q202 => ?_)
                  · replace h := ed_pos q202 h
                    exact J69  _ l60 l61 l62 l63 l64 l65 (hk69  h)
                  · replace h := ed_neg q202 h
                    refine iq_aload_n hS 206 J_HField_build_d205 l61 rfl ?_
                    refine iq_getR hS 209 J_HField_build_d206 lf_2_84 (Or.inr ⟨_, rfl⟩) (ka_19 (lw_sI (lw_sI (lw_sI (lw_sI hM39))))) (ra_19_0 (lw_sI (lw_sI (lw_sI (lw_sI hM39))))) rfl ?_
                    refine iq_iload hS 211 J_HField_build_d209 l66 rfl ?_
                    refine iq_iconst hS 212 J_HField_build_d211 (v := 2) (by decide +kernel) rfl ?_
                    refine iq_iadd hS 213 J_HField_build_d212 rfl ?_
                    obtain ⟨g213, h⟩ := ed_gd h
                    refine iq_iaload hS 214 J_HField_build_d213 ⟨(ka_21 (lw_sI (lw_sI (lw_sI (lw_sI hM39))))).1, (ka_21 (lw_sI (lw_sI (lw_sI (lw_sI hM39))))).2, g213.1, ix_lt (kl_21 (lw_sI (lw_sI (lw_sI (lw_sI hM39))))) g213.2⟩ rfl ?_
                    obtain ⟨Q70, hQ70, h⟩ := bd1_ed h
                    refine iq_cpI hS 217 J_HField_build_d214 rfl (pr_stat (vs := [_]) lc_2_87 lT_68 rfl rfl (by decide) rfl (Nat.le_of_ble_eq_true rfl) (Nat.le_of_ble_eq_true rfl)) (f_HOrders_inRange_ok (dep := dep + 3) (lw_sI (lw_sI (lw_sI (lw_sI hM39)))) h) rfl ?_
                    intro x70 h
                    replace h := hQ70 _ h
                    refine iq_if_eq hS 220 J_HField_build_d217 (t := 224) rfl (fun q217 => ?_) rfl (fun q217 => ?_)
                    · replace h := ed_pos q217 h
                      exact J69  _ l60 l61 l62 l63 l64 l65 (hk69  h)
                    · replace h := ed_neg q217 h
                      refine iq_iconst hS 221 J_HField_build_d220 (v := 1) (by decide +kernel) rfl ?_
                      refine iq_goto hS J_HField_build_d221 (t := 225) rfl ?_
                      exact J68 _ _ l60 l61 l62 l63 l64 l65 (ed_some h)
                refine iq_if_eq hS 156 J_HField_build_d153 (t := 160) rfl (fun q153 => ?_) rfl (fun q153 => ?_)
                · refine iq_iconst hS 161 J_HField_build_d160 (v := 0) (by decide +kernel) rfl ?_
                  exact J57 _ _ (by simp only [if_pos q153]) l50 l51 l52 l53 l54 l55 l56
                · refine iq_iconst hS 157 J_HField_build_d156 (v := 1) (by decide +kernel) rfl ?_
                  refine iq_goto hS J_HField_build_d157 (t := 161) rfl ?_
                  exact J57 _ _ (by simp only [if_neg q153]) l50 l51 l52 l53 l54 l55 l56
              refine iq_if_eq hS 134 J_HField_build_d131 (t := 138) rfl (fun q131 => ?_) rfl (fun q131 => ?_)
              · refine iq_iconst hS 139 J_HField_build_d138 (v := 0) (by decide +kernel) rfl ?_
                exact J47 _ _ (by simp only [if_pos q131]) (lk_1r l40 (by decide)) (lk_1r l41 (by decide)) (lk_1i l42 (by decide)) (lk_1i l43 (by decide)) (lk_1i l44 (by decide)) (lk_1i l46 (by decide)) lk_1s
              · refine iq_iconst hS 135 J_HField_build_d134 (v := 2) (by decide +kernel) rfl ?_
                refine iq_goto hS J_HField_build_d135 (t := 139) rfl ?_
                exact J47 _ _ (by simp only [if_neg q131]) (lk_1r l40 (by decide)) (lk_1r l41 (by decide)) (lk_1i l42 (by decide)) (lk_1i l43 (by decide)) (lk_1i l44 (by decide)) (lk_1i l46 (by decide)) lk_1s
      exact I18 n18 _ _ _ _ (lw_sA hM5) (lk_1r (lk_1r l13 (by decide)) (by decide)) (lk_1r (lk_1r l14 (by decide)) (by decide)) (lk_1i (lk_1i l15 (by decide)) (by decide)) (lk_1i (lk_1i l16 (by decide)) (by decide)) (lk_1i (lk_1i l17 (by decide)) (by decide)) (lk_1i lk_1s (by decide)) lk_1s hn18
    refine iq_icmp_gt hS 85 J_HField_build_d82 (t := 89) rfl (fun q82 => ?_) rfl (fun q82 => ?_)
    · refine iq_iconst hS 90 J_HField_build_d89 (v := 0) (by decide +kernel) rfl ?_
      exact J10 _ _ (by simp only [if_pos q82]) (lk_1r l6 (by decide)) (lk_1r l7 (by decide)) (lk_1i l8 (by decide)) (lk_1i l9 (by decide)) lk_1s
    · refine iq_iconst hS 86 J_HField_build_d85 (v := 1) (by decide +kernel) rfl ?_
      refine iq_goto hS J_HField_build_d86 (t := 90) rfl ?_
      exact J10 _ _ (by simp only [if_neg q82]) (lk_1r l6 (by decide)) (lk_1r l7 (by decide)) (lk_1i l8 (by decide)) (lk_1i l9 (by decide)) lk_1s
  refine iq_icmp_ne hS 29 J_HField_build_d26 (t := 42) rfl (fun q26 => ?_) rfl (fun q26 => ?_)
  · replace h := ed_pos q26 h
    refine iq_aload_n hS 43 J_HField_build_d42 (lk_1r (lk_1r l0 (by decide)) (by decide)) rfl ?_
    refine iq_aload_n hS 44 J_HField_build_d43 (lk_1r (lk_1r l1 (by decide)) (by decide)) rfl ?_
    refine iq_iload hS 46 J_HField_build_d44 (lk_1i lk_1s (by decide)) rfl ?_
    refine iq_iload hS 48 J_HField_build_d46 lk_1s rfl ?_
    refine iq_aload_n hS 49 J_HField_build_d48 (lk_1r (lk_1r l3 (by decide)) (by decide)) rfl ?_
    obtain ⟨Q2, hQ2, h⟩ := bd2_ed h
    refine iq_cwI hS 52 J_HField_build_d49 rfl (pr_inst (vs := [_, _, _, _]) lc_2_75 lT_67 rfl rfl (by decide) (by decide) rfl (Nat.le_of_ble_eq_true rfl) (Nat.le_of_ble_eq_true rfl) (fun _ => Or.inl (pr_b (ka_23 hM) (by decide) rfl))) (f_HField_layOthers_ok (dep := dep + 0) hM h) rfl ?_
    intro x2 M2 hM2 h
    replace h := hQ2 _ _ h
    exact J1 _ _ _ hM2 (lk_1r (lk_1r l0 (by decide)) (by decide)) (lk_1r (lk_1r l1 (by decide)) (by decide)) (lk_1i lk_1s (by decide)) lk_1s (ed_some h)
  · replace h := ed_neg q26 h
    refine iq_aload_n hS 30 J_HField_build_d29 (lk_1r (lk_1r l0 (by decide)) (by decide)) rfl ?_
    refine iq_aload_n hS 31 J_HField_build_d30 (lk_1r (lk_1r l1 (by decide)) (by decide)) rfl ?_
    refine iq_iload hS 33 J_HField_build_d31 (lk_1i lk_1s (by decide)) rfl ?_
    refine iq_iload hS 35 J_HField_build_d33 lk_1s rfl ?_
    refine iq_aload_n hS 36 J_HField_build_d35 (lk_1r (lk_1r l3 (by decide)) (by decide)) rfl ?_
    obtain ⟨Q3, hQ3, h⟩ := bd2_ed h
    refine iq_cwI hS 39 J_HField_build_d36 rfl (pr_inst (vs := [_, _, _, _]) lc_2_71 lT_51 rfl rfl (by decide) (by decide) rfl (Nat.le_of_ble_eq_true rfl) (Nat.le_of_ble_eq_true rfl) (fun _ => Or.inl (pr_b (ka_23 hM) (by decide) rfl))) (f_HField_layLines_ok (dep := dep + 0) hM h) rfl ?_
    intro x3 M3 hM3 h
    replace h := hQ3 _ _ h
    refine iq_goto hS J_HField_build_d39 (t := 52) rfl ?_
    exact J1 _ _ _ hM3 (lk_1r (lk_1r l0 (by decide)) (by decide)) (lk_1r (lk_1r l1 (by decide)) (by decide)) (lk_1i lk_1s (by decide)) lk_1s (ed_some h)
theorem f_HField_build_fr {M : im_M} {r : Int32 × im_M} (h : f_HField_build M = some r) : fr 6291456 [] M r.2 := by
  replace h : ed (f_HField_build M) (fun x => x = r) := ⟨r, h, rfl⟩
  unfold f_HField_build at h
  obtain ⟨g2, h⟩ := ed_gd h
  obtain ⟨g12, h⟩ := ed_gd h
  obtain ⟨Q1, hQ1, h⟩ := bd2_ed h
  have J1 : ∀ (y4 : Int32) (M5 : im_M), fr 6291456 [] M M5 → Q1 (y4, M5) → fr 6291456 [] M r.2 := by
    intro y4 M5 hM5 h
    replace h := hQ1 _ _ h
    obtain ⟨g75, h⟩ := ed_gd h
    obtain ⟨Q11, hQ11, h⟩ := bd2_ed h
    have K11 : ∀ (y12 : Int32) (M13 : im_M), fr 6291456 [] M M13 → Q11 (y12, M13) → fr 6291456 [] M r.2 := by
      intro y12 M13 hM13 h
      replace h := hQ11 _ _ h
      obtain ⟨Q14, hQ14, h⟩ := bd1_ed h
      have J14 : ∀ (y22 : Int32), Q14 y22 → fr 6291456 [] M r.2 := by
        intro y22 h
        replace h := hQ14 _ h
        by_cases q284 : y22 = 0
        · replace h := ed_pos q284 h
          exact fr_ret h hM13
        · replace h := ed_neg q284 h
          exact fr_ret h hM13
      by_cases q239 : ¬ (im_i M13 23 2) = 6
      · replace h := ed_pos q239 h
        exact J14 _ (ed_some h)
      · replace h := ed_neg q239 h
        obtain ⟨g251, h⟩ := ed_gd h
        obtain ⟨Q15, hQ15, h⟩ := bd1_ed h
        obtain ⟨x15, e15, h⟩ := h
        replace h := hQ15 _ h
        obtain ⟨Q16, hQ16, h⟩ := bd1_ed h
        have J16 : ∀ (y20 : Int32), Q16 y20 → fr 6291456 [] M r.2 := by
          intro y20 h
          replace h := hQ16 _ h
          exact J14 _ (ed_some h)
        obtain ⟨k17, Q17, hQ17, hk17, h⟩ := jn0_ed h
        have J17 : Q17 () → fr 6291456 [] M r.2 := by
          intro  h
          replace h := hQ17  h
          exact J16 _ (ed_some h)
        by_cases q256 : x15 = 0
        · replace h := ed_pos q256 h
          exact J17  (hk17  h)
        · replace h := ed_neg q256 h
          obtain ⟨g266, h⟩ := ed_gd h
          obtain ⟨Q18, hQ18, h⟩ := bd1_ed h
          obtain ⟨x18, e18, h⟩ := h
          replace h := hQ18 _ h
          by_cases q271 : x18 = 0
          · replace h := ed_pos q271 h
            exact J17  (hk17  h)
          · replace h := ed_neg q271 h
            exact J16 _ (ed_some h)
    obtain ⟨r11, hr11, hq11⟩ := h
    obtain ⟨n11, hn11⟩ := lp_n hr11
    have I11 : ∀ (n : Nat) (x25 : Int32) (x26 : Int32) (M27 : im_M), fr 6291456 [] M M27 → lpn (uc3 (f_HField_build_L95 ((im_i M 17 (Int32.toNatClampNeg 0)) + (im_i M 23 0)) ((im_i M 17 (Int32.toNatClampNeg 1)) + (im_i M 23 1)) y4)) n (x25, x26, M27) = some r11 → fr 6291456 [] M r.2 := by
      intro n
      induction n with
      | zero => intro x25 x26 M27 hM27 hn; exact (lpn_0 hn).elim
      | succ n ih =>
        intro x25 x26 M27 hM27 hn
        have h := lpn_ed3 hn
        unfold f_HField_build_L95 at h
        by_cases q97 : x25 = 0
        · replace h := ed_pos q97 h
          exact K11 _ _ hM27 (lq_r h hq11)
        · replace h := ed_neg q97 h
          by_cases q104 : y4 ≤ x26
          · replace h := ed_pos q104 h
            exact K11 _ _ hM27 (lq_r h hq11)
          · replace h := ed_neg q104 h
            obtain ⟨g139, h⟩ := ed_gd h
            obtain ⟨g161, h⟩ := ed_gd h
            obtain ⟨g175, h⟩ := ed_gd h
            obtain ⟨g189, h⟩ := ed_gd h
            obtain ⟨g198, h⟩ := ed_gd h
            obtain ⟨Q30, hQ30, h⟩ := bd1_ed h
            obtain ⟨x30, e30, h⟩ := h
            replace h := hQ30 _ h
            obtain ⟨Q31, hQ31, h⟩ := bd1_ed h
            have J31 : ∀ (y40 : Int32), Q31 y40 → fr 6291456 [] M r.2 := by
              intro y40 h
              replace h := hQ31 _ h
              exact ih _ _ _ (fr_I (by decide) (fr_I (by decide) (fr_I (by decide) (fr_I (by decide) hM27)))) (lq_l h)
            obtain ⟨k32, Q32, hQ32, hk32, h⟩ := jn0_ed h
            have J32 : Q32 () → fr 6291456 [] M r.2 := by
              intro  h
              replace h := hQ32  h
              exact J31 _ (ed_some h)
            by_cases q202 : x30 = 0
            · replace h := ed_pos q202 h
              exact J32  (hk32  h)
            · replace h := ed_neg q202 h
              obtain ⟨g213, h⟩ := ed_gd h
              obtain ⟨Q33, hQ33, h⟩ := bd1_ed h
              obtain ⟨x33, e33, h⟩ := h
              replace h := hQ33 _ h
              by_cases q217 : x33 = 0
              · replace h := ed_pos q217 h
                exact J32  (hk32  h)
              · replace h := ed_neg q217 h
                exact J31 _ (ed_some h)
    exact I11 n11 _ _ _ (fr_A (by decide) hM5) hn11
  by_cases q26 : ¬ (im_i M 23 2) = 8
  · replace h := ed_pos q26 h
    obtain ⟨Q2, hQ2, h⟩ := bd2_ed h
    obtain ⟨⟨x2, M2⟩, e2, h⟩ := h
    replace h := hQ2 _ _ h
    exact J1 _ _ (fr_tr (fr_mono (by decide) (by decide +kernel) (f_HField_layOthers_fr e2)) fr_refl) (ed_some h)
  · replace h := ed_neg q26 h
    obtain ⟨Q3, hQ3, h⟩ := bd2_ed h
    obtain ⟨⟨x3, M3⟩, e3, h⟩ := h
    replace h := hQ3 _ _ h
    exact J1 _ _ (fr_tr (fr_mono (by decide) (by decide +kernel) (f_HField_layLines_fr e3)) fr_refl) (ed_some h)
noncomputable def f_HSetter_isTooMuch (p0 : Int32) (M : im_M) : Option (Int32) := if ¬ p0 = 22 then if ¬ p0 = 3 then some 0 else jn0 (fun (_ : Unit) => some 1) fun k1 => if 12 < ((im_i M 15 4) + (im_i M 15 12)) then k1 () else if ((im_i M 11 3) + ((im_i M 15 12) * (im_i M 19 3))) ≤ 120 then some 0 else k1 () else if ((im_i M 19 3) + (im_i M 15 16)) ≤ 120 then some 0 else some 1
theorem J_HSetter_isTooMuch_d0 : decode J_HSetter_isTooMuch.2.1 0 = .ok (.iload_n 1, 1) := by decide +kernel
theorem J_HSetter_isTooMuch_d1 : decode J_HSetter_isTooMuch.2.1 1 = .ok (.bipush 22, 2) := by decide +kernel
theorem J_HSetter_isTooMuch_d3 : decode J_HSetter_isTooMuch.2.1 3 = .ok (.if_icmp .ne 26, 3) := by decide +kernel
theorem J_HSetter_isTooMuch_d6 : decode J_HSetter_isTooMuch.2.1 6 = .ok (.aload_n 0, 1) := by decide +kernel
theorem J_HSetter_isTooMuch_d7 : decode J_HSetter_isTooMuch.2.1 7 = .ok (.getfield 40, 3) := by decide +kernel
theorem J_HSetter_isTooMuch_d10 : decode J_HSetter_isTooMuch.2.1 10 = .ok (.getfield 54, 3) := by decide +kernel
theorem J_HSetter_isTooMuch_d13 : decode J_HSetter_isTooMuch.2.1 13 = .ok (.aload_n 0, 1) := by decide +kernel
theorem J_HSetter_isTooMuch_d14 : decode J_HSetter_isTooMuch.2.1 14 = .ok (.getfield 153, 3) := by decide +kernel
theorem J_HSetter_isTooMuch_d17 : decode J_HSetter_isTooMuch.2.1 17 = .ok (.iadd, 1) := by decide +kernel
theorem J_HSetter_isTooMuch_d18 : decode J_HSetter_isTooMuch.2.1 18 = .ok (.bipush 120, 2) := by decide +kernel
theorem J_HSetter_isTooMuch_d20 : decode J_HSetter_isTooMuch.2.1 20 = .ok (.if_icmp .le 7, 3) := by decide +kernel
theorem J_HSetter_isTooMuch_d23 : decode J_HSetter_isTooMuch.2.1 23 = .ok (.iconst 1, 1) := by decide +kernel
theorem J_HSetter_isTooMuch_d24 : decode J_HSetter_isTooMuch.2.1 24 = .ok (.goto 4, 3) := by decide +kernel
theorem J_HSetter_isTooMuch_d27 : decode J_HSetter_isTooMuch.2.1 27 = .ok (.iconst 0, 1) := by decide +kernel
theorem J_HSetter_isTooMuch_d28 : decode J_HSetter_isTooMuch.2.1 28 = .ok (.ireturn, 1) := by decide +kernel
theorem J_HSetter_isTooMuch_d29 : decode J_HSetter_isTooMuch.2.1 29 = .ok (.iload_n 1, 1) := by decide +kernel
theorem J_HSetter_isTooMuch_d30 : decode J_HSetter_isTooMuch.2.1 30 = .ok (.iconst 3, 1) := by decide +kernel
theorem J_HSetter_isTooMuch_d31 : decode J_HSetter_isTooMuch.2.1 31 = .ok (.if_icmp .ne 46, 3) := by decide +kernel
theorem J_HSetter_isTooMuch_d34 : decode J_HSetter_isTooMuch.2.1 34 = .ok (.aload_n 0, 1) := by decide +kernel
theorem J_HSetter_isTooMuch_d35 : decode J_HSetter_isTooMuch.2.1 35 = .ok (.getfield 51, 3) := by decide +kernel
theorem J_HSetter_isTooMuch_d38 : decode J_HSetter_isTooMuch.2.1 38 = .ok (.aload_n 0, 1) := by decide +kernel
theorem J_HSetter_isTooMuch_d39 : decode J_HSetter_isTooMuch.2.1 39 = .ok (.getfield 162, 3) := by decide +kernel
theorem J_HSetter_isTooMuch_d42 : decode J_HSetter_isTooMuch.2.1 42 = .ok (.iadd, 1) := by decide +kernel
theorem J_HSetter_isTooMuch_d43 : decode J_HSetter_isTooMuch.2.1 43 = .ok (.bipush 12, 2) := by decide +kernel
theorem J_HSetter_isTooMuch_d45 : decode J_HSetter_isTooMuch.2.1 45 = .ok (.if_icmp .gt 28, 3) := by decide +kernel
theorem J_HSetter_isTooMuch_d48 : decode J_HSetter_isTooMuch.2.1 48 = .ok (.aload_n 0, 1) := by decide +kernel
theorem J_HSetter_isTooMuch_d49 : decode J_HSetter_isTooMuch.2.1 49 = .ok (.getfield 29, 3) := by decide +kernel
theorem J_HSetter_isTooMuch_d52 : decode J_HSetter_isTooMuch.2.1 52 = .ok (.getfield 54, 3) := by decide +kernel
theorem J_HSetter_isTooMuch_d55 : decode J_HSetter_isTooMuch.2.1 55 = .ok (.aload_n 0, 1) := by decide +kernel
theorem J_HSetter_isTooMuch_d56 : decode J_HSetter_isTooMuch.2.1 56 = .ok (.getfield 162, 3) := by decide +kernel
theorem J_HSetter_isTooMuch_d59 : decode J_HSetter_isTooMuch.2.1 59 = .ok (.aload_n 0, 1) := by decide +kernel
theorem J_HSetter_isTooMuch_d60 : decode J_HSetter_isTooMuch.2.1 60 = .ok (.getfield 40, 3) := by decide +kernel
theorem J_HSetter_isTooMuch_d63 : decode J_HSetter_isTooMuch.2.1 63 = .ok (.getfield 54, 3) := by decide +kernel
theorem J_HSetter_isTooMuch_d66 : decode J_HSetter_isTooMuch.2.1 66 = .ok (.imul, 1) := by decide +kernel
theorem J_HSetter_isTooMuch_d67 : decode J_HSetter_isTooMuch.2.1 67 = .ok (.iadd, 1) := by decide +kernel
theorem J_HSetter_isTooMuch_d68 : decode J_HSetter_isTooMuch.2.1 68 = .ok (.bipush 120, 2) := by decide +kernel
theorem J_HSetter_isTooMuch_d70 : decode J_HSetter_isTooMuch.2.1 70 = .ok (.if_icmp .le 7, 3) := by decide +kernel
theorem J_HSetter_isTooMuch_d73 : decode J_HSetter_isTooMuch.2.1 73 = .ok (.iconst 1, 1) := by decide +kernel
theorem J_HSetter_isTooMuch_d74 : decode J_HSetter_isTooMuch.2.1 74 = .ok (.goto 4, 3) := by decide +kernel
theorem J_HSetter_isTooMuch_d77 : decode J_HSetter_isTooMuch.2.1 77 = .ok (.iconst 0, 1) := by decide +kernel
theorem J_HSetter_isTooMuch_d78 : decode J_HSetter_isTooMuch.2.1 78 = .ok (.ireturn, 1) := by decide +kernel
theorem f_HSetter_isTooMuch_ok {L : Nat} {xs : Nat → Int32} {dep : Nat} {w : Bool} {p0 : Int32} {M : im_M} {Q : Int32 → Prop} (hM : lw_S w M) (h : ed (f_HSetter_isTooMuch p0 M) Q) : ia (tb_G L xs) dep J_HSetter_isTooMuch (rpI M Q) (0, lv_args 0 [.ref 15, .int p0], [], M) := by
  have hS : im_St (tb_G L xs) dep J_HSetter_isTooMuch (ia (tb_G L xs) dep J_HSetter_isTooMuch (rpI M Q)) := ia_St
  unfold f_HSetter_isTooMuch at h
  have l0 : im_lk (lv_args 0 [.ref 15, .int p0]) 0 = some (.ref 15) := rfl
  have l1 : im_lk (lv_args 0 [.ref 15, .int p0]) 1 = some (.int p0) := rfl
  refine iq_iload_n hS 1 J_HSetter_isTooMuch_d0 l1 rfl ?_
  refine iq_bipush hS 3 J_HSetter_isTooMuch_d1 (v := 22) (by decide +kernel) rfl ?_
  refine iq_icmp_ne hS 6 J_HSetter_isTooMuch_d3 (t := 29) rfl (fun q3 => ?_) rfl (fun q3 => ?_)
  · replace h := ed_pos q3 h
    refine iq_iload_n hS 30 J_HSetter_isTooMuch_d29 l1 rfl ?_
    refine iq_iconst hS 31 J_HSetter_isTooMuch_d30 (v := 3) (by decide +kernel) rfl ?_
    refine iq_icmp_ne hS 34 J_HSetter_isTooMuch_d31 (t := 77) rfl (fun q31 => ?_) rfl (fun q31 => ?_)
    · replace h := ed_pos q31 h
      refine iq_iconst hS 78 J_HSetter_isTooMuch_d77 (v := 0) (by decide +kernel) rfl ?_
      exact iq_iret J_HSetter_isTooMuch_d78 rfl rfl ⟨_, rfl, rfl, ed_some h⟩
    · replace h := ed_neg q31 h
      refine iq_aload_n hS 35 J_HSetter_isTooMuch_d34 l0 rfl ?_
      refine iq_getI hS 38 J_HSetter_isTooMuch_d35 lf_8_51 (Or.inl rfl) (ka_15 hM) rfl ?_
      refine iq_aload_n hS 39 J_HSetter_isTooMuch_d38 l0 rfl ?_
      refine iq_getI hS 42 J_HSetter_isTooMuch_d39 lf_8_162 (Or.inl rfl) (ka_15 hM) rfl ?_
      refine iq_iadd hS 43 J_HSetter_isTooMuch_d42 rfl ?_
      refine iq_bipush hS 45 J_HSetter_isTooMuch_d43 (v := 12) (by decide +kernel) rfl ?_
      obtain ⟨k1, Q1, hQ1, hk1, h⟩ := jn0_ed h
      have J1 : ∀  (L' : List (Nat × Value)), Q1 () → ia (tb_G L xs) dep J_HSetter_isTooMuch (rpI M Q) (73, L', [], M) := by
        intro  L'  h
        replace h := hQ1  h
        refine iq_iconst hS 74 J_HSetter_isTooMuch_d73 (v := 1) (by decide +kernel) rfl ?_
        refine iq_goto hS J_HSetter_isTooMuch_d74 (t := 78) rfl ?_
        exact iq_iret J_HSetter_isTooMuch_d78 rfl rfl ⟨_, rfl, rfl, ed_some h⟩
      refine iq_icmp_gt hS 48 J_HSetter_isTooMuch_d45 (t := 73) rfl (fun q45 => ?_) rfl (fun q45 => ?_)
      · replace h := ed_pos q45 h
        exact J1  _  (hk1  h)
      · replace h := ed_neg q45 h
        refine iq_aload_n hS 49 J_HSetter_isTooMuch_d48 l0 rfl ?_
        refine iq_getR hS 52 J_HSetter_isTooMuch_d49 lf_8_29 (Or.inl ⟨_, rfl⟩) (ka_15 hM) (ra_15_1 hM) rfl ?_
        refine iq_getI hS 55 J_HSetter_isTooMuch_d52 lf_8_54 (Or.inl rfl) (ka_11 hM) rfl ?_
        refine iq_aload_n hS 56 J_HSetter_isTooMuch_d55 l0 rfl ?_
        refine iq_getI hS 59 J_HSetter_isTooMuch_d56 lf_8_162 (Or.inl rfl) (ka_15 hM) rfl ?_
        refine iq_aload_n hS 60 J_HSetter_isTooMuch_d59 l0 rfl ?_
        refine iq_getR hS 63 J_HSetter_isTooMuch_d60 lf_8_40 (Or.inl ⟨_, rfl⟩) (ka_15 hM) (ra_15_2 hM) rfl ?_
        refine iq_getI hS 66 J_HSetter_isTooMuch_d63 lf_8_54 (Or.inl rfl) (ka_19 hM) rfl ?_
        refine iq_imul hS 67 J_HSetter_isTooMuch_d66 rfl ?_
        refine iq_iadd hS 68 J_HSetter_isTooMuch_d67 rfl ?_
        refine iq_bipush hS 70 J_HSetter_isTooMuch_d68 (v := 120) (by decide +kernel) rfl ?_
        refine iq_icmp_le hS 73 J_HSetter_isTooMuch_d70 (t := 77) rfl (fun q70 => ?_) rfl (fun q70 => ?_)
        · replace h := ed_pos q70 h
          refine iq_iconst hS 78 J_HSetter_isTooMuch_d77 (v := 0) (by decide +kernel) rfl ?_
          exact iq_iret J_HSetter_isTooMuch_d78 rfl rfl ⟨_, rfl, rfl, ed_some h⟩
        · replace h := ed_neg q70 h
          exact J1  _  (hk1  h)
  · replace h := ed_neg q3 h
    refine iq_aload_n hS 7 J_HSetter_isTooMuch_d6 l0 rfl ?_
    refine iq_getR hS 10 J_HSetter_isTooMuch_d7 lf_8_40 (Or.inl ⟨_, rfl⟩) (ka_15 hM) (ra_15_2 hM) rfl ?_
    refine iq_getI hS 13 J_HSetter_isTooMuch_d10 lf_8_54 (Or.inl rfl) (ka_19 hM) rfl ?_
    refine iq_aload_n hS 14 J_HSetter_isTooMuch_d13 l0 rfl ?_
    refine iq_getI hS 17 J_HSetter_isTooMuch_d14 lf_8_153 (Or.inl rfl) (ka_15 hM) rfl ?_
    refine iq_iadd hS 18 J_HSetter_isTooMuch_d17 rfl ?_
    refine iq_bipush hS 20 J_HSetter_isTooMuch_d18 (v := 120) (by decide +kernel) rfl ?_
    refine iq_icmp_le hS 23 J_HSetter_isTooMuch_d20 (t := 27) rfl (fun q20 => ?_) rfl (fun q20 => ?_)
    · replace h := ed_pos q20 h
      refine iq_iconst hS 28 J_HSetter_isTooMuch_d27 (v := 0) (by decide +kernel) rfl ?_
      exact iq_iret J_HSetter_isTooMuch_d28 rfl rfl ⟨_, rfl, rfl, ed_some h⟩
    · replace h := ed_neg q20 h
      refine iq_iconst hS 24 J_HSetter_isTooMuch_d23 (v := 1) (by decide +kernel) rfl ?_
      refine iq_goto hS J_HSetter_isTooMuch_d24 (t := 28) rfl ?_
      exact iq_iret J_HSetter_isTooMuch_d28 rfl rfl ⟨_, rfl, rfl, ed_some h⟩
noncomputable def f_HSetter_laterFault (p0 : Int32) (M : im_M) : Option (Int32 × im_M) := jn1 (fun (M3 : im_M) => jn1 (fun (M15 : im_M) => jn0 (fun (_ : Unit) => jn0 (fun (_ : Unit) => some (10, (im_setI M15 15 9 ((im_i M15 15 9) + 1)))) fun k21 => if 2000 ≤ (im_i (im_setI M15 15 9 ((im_i M15 15 9) + 1)) 15 9) then k21 () else bd1 (f_HSetter_isTooMuch p0 (im_setI M15 15 9 ((im_i M15 15 9) + 1))) fun (x22 : Int32) => if x22 = 0 then some (0, (im_setI M15 15 9 ((im_i M15 15 9) + 1))) else k21 ()) fun k18 => if ¬ p0 = 7 then k18 () else gd (inb 0 4) <| gd (inb (im_i M15 9 (Int32.toNatClampNeg 0)) 8) <| if (im_i M15 4 (Int32.toNatClampNeg (im_i M15 9 (Int32.toNatClampNeg 0)))) = 0 then some (9, M15) else if ¬ (im_i M15 1 6) = 4 then k18 () else some (9, M15)) fun k6 => if ¬ p0 = 22 then k6 M3 else bd1 (f_HField_cutLines M3) fun (M7 : im_M) => bd1 (f_HField_hasItsData M7) fun (x8 : Int32) => bd2 (if x8 = 0 then some ((-1), M7) else bd2 (f_HField_build M7) fun (x10 : Int32) (M10 : im_M) => some (x10, M10)) fun (y11 : Int32) (M12 : im_M) => if ¬ (im_i (im_setI M12 15 16 y11) 15 16) = (-1) then k6 (im_setI M12 15 16 y11) else some (8, (im_setI M12 15 16 y11))) fun k1 => if ¬ p0 = 0 then k1 M else bd1 (f_HTape_endOfForm M) fun (x2 : Int32) => if ¬ (im_i (im_setI M 15 15 x2) 15 15) = (-1) then k1 (im_setI M 15 15 x2) else some (7, (im_setI M 15 15 x2))
theorem J_HSetter_laterFault_d0 : decode J_HSetter_laterFault.2.1 0 = .ok (.iload_n 1, 1) := by decide +kernel
theorem J_HSetter_laterFault_d1 : decode J_HSetter_laterFault.2.1 1 = .ok (.ifCond .ne 25, 3) := by decide +kernel
theorem J_HSetter_laterFault_d4 : decode J_HSetter_laterFault.2.1 4 = .ok (.aload_n 0, 1) := by decide +kernel
theorem J_HSetter_laterFault_d5 : decode J_HSetter_laterFault.2.1 5 = .ok (.aload_n 0, 1) := by decide +kernel
theorem J_HSetter_laterFault_d6 : decode J_HSetter_laterFault.2.1 6 = .ok (.getfield 25, 3) := by decide +kernel
theorem J_HSetter_laterFault_d9 : decode J_HSetter_laterFault.2.1 9 = .ok (.invokevirtual 137, 3) := by decide +kernel
theorem J_HSetter_laterFault_d12 : decode J_HSetter_laterFault.2.1 12 = .ok (.putfield 140, 3) := by decide +kernel
theorem J_HSetter_laterFault_d15 : decode J_HSetter_laterFault.2.1 15 = .ok (.aload_n 0, 1) := by decide +kernel
theorem J_HSetter_laterFault_d16 : decode J_HSetter_laterFault.2.1 16 = .ok (.getfield 140, 3) := by decide +kernel
theorem J_HSetter_laterFault_d19 : decode J_HSetter_laterFault.2.1 19 = .ok (.iconst (-1), 1) := by decide +kernel
theorem J_HSetter_laterFault_d20 : decode J_HSetter_laterFault.2.1 20 = .ok (.if_icmp .ne 6, 3) := by decide +kernel
theorem J_HSetter_laterFault_d23 : decode J_HSetter_laterFault.2.1 23 = .ok (.bipush 7, 2) := by decide +kernel
theorem J_HSetter_laterFault_d25 : decode J_HSetter_laterFault.2.1 25 = .ok (.ireturn, 1) := by decide +kernel
theorem J_HSetter_laterFault_d26 : decode J_HSetter_laterFault.2.1 26 = .ok (.iload_n 1, 1) := by decide +kernel
theorem J_HSetter_laterFault_d27 : decode J_HSetter_laterFault.2.1 27 = .ok (.bipush 22, 2) := by decide +kernel
theorem J_HSetter_laterFault_d29 : decode J_HSetter_laterFault.2.1 29 = .ok (.if_icmp .ne 58, 3) := by decide +kernel
theorem J_HSetter_laterFault_d32 : decode J_HSetter_laterFault.2.1 32 = .ok (.aload_n 0, 1) := by decide +kernel
theorem J_HSetter_laterFault_d33 : decode J_HSetter_laterFault.2.1 33 = .ok (.getfield 44, 3) := by decide +kernel
theorem J_HSetter_laterFault_d36 : decode J_HSetter_laterFault.2.1 36 = .ok (.invokevirtual 143, 3) := by decide +kernel
theorem J_HSetter_laterFault_d39 : decode J_HSetter_laterFault.2.1 39 = .ok (.aload_n 0, 1) := by decide +kernel
theorem J_HSetter_laterFault_d40 : decode J_HSetter_laterFault.2.1 40 = .ok (.aload_n 0, 1) := by decide +kernel
theorem J_HSetter_laterFault_d41 : decode J_HSetter_laterFault.2.1 41 = .ok (.getfield 44, 3) := by decide +kernel
theorem J_HSetter_laterFault_d44 : decode J_HSetter_laterFault.2.1 44 = .ok (.invokevirtual 146, 3) := by decide +kernel
theorem J_HSetter_laterFault_d47 : decode J_HSetter_laterFault.2.1 47 = .ok (.ifCond .eq 25, 3) := by decide +kernel
theorem J_HSetter_laterFault_d50 : decode J_HSetter_laterFault.2.1 50 = .ok (.aload_n 0, 1) := by decide +kernel
theorem J_HSetter_laterFault_d51 : decode J_HSetter_laterFault.2.1 51 = .ok (.getfield 44, 3) := by decide +kernel
theorem J_HSetter_laterFault_d54 : decode J_HSetter_laterFault.2.1 54 = .ok (.aload_n 0, 1) := by decide +kernel
theorem J_HSetter_laterFault_d55 : decode J_HSetter_laterFault.2.1 55 = .ok (.getfield 40, 3) := by decide +kernel
theorem J_HSetter_laterFault_d58 : decode J_HSetter_laterFault.2.1 58 = .ok (.aload_n 0, 1) := by decide +kernel
theorem J_HSetter_laterFault_d59 : decode J_HSetter_laterFault.2.1 59 = .ok (.getfield 19, 3) := by decide +kernel
theorem J_HSetter_laterFault_d62 : decode J_HSetter_laterFault.2.1 62 = .ok (.aload_n 0, 1) := by decide +kernel
theorem J_HSetter_laterFault_d63 : decode J_HSetter_laterFault.2.1 63 = .ok (.getfield 22, 3) := by decide +kernel
theorem J_HSetter_laterFault_d66 : decode J_HSetter_laterFault.2.1 66 = .ok (.invokevirtual 149, 3) := by decide +kernel
theorem J_HSetter_laterFault_d69 : decode J_HSetter_laterFault.2.1 69 = .ok (.goto 4, 3) := by decide +kernel
theorem J_HSetter_laterFault_d72 : decode J_HSetter_laterFault.2.1 72 = .ok (.iconst (-1), 1) := by decide +kernel
theorem J_HSetter_laterFault_d73 : decode J_HSetter_laterFault.2.1 73 = .ok (.putfield 153, 3) := by decide +kernel
theorem J_HSetter_laterFault_d76 : decode J_HSetter_laterFault.2.1 76 = .ok (.aload_n 0, 1) := by decide +kernel
theorem J_HSetter_laterFault_d77 : decode J_HSetter_laterFault.2.1 77 = .ok (.getfield 153, 3) := by decide +kernel
theorem J_HSetter_laterFault_d80 : decode J_HSetter_laterFault.2.1 80 = .ok (.iconst (-1), 1) := by decide +kernel
theorem J_HSetter_laterFault_d81 : decode J_HSetter_laterFault.2.1 81 = .ok (.if_icmp .ne 6, 3) := by decide +kernel
theorem J_HSetter_laterFault_d84 : decode J_HSetter_laterFault.2.1 84 = .ok (.bipush 8, 2) := by decide +kernel
theorem J_HSetter_laterFault_d86 : decode J_HSetter_laterFault.2.1 86 = .ok (.ireturn, 1) := by decide +kernel
theorem J_HSetter_laterFault_d87 : decode J_HSetter_laterFault.2.1 87 = .ok (.iload_n 1, 1) := by decide +kernel
theorem J_HSetter_laterFault_d88 : decode J_HSetter_laterFault.2.1 88 = .ok (.bipush 7, 2) := by decide +kernel
theorem J_HSetter_laterFault_d90 : decode J_HSetter_laterFault.2.1 90 = .ok (.if_icmp .ne 37, 3) := by decide +kernel
theorem J_HSetter_laterFault_d93 : decode J_HSetter_laterFault.2.1 93 = .ok (.aload_n 0, 1) := by decide +kernel
theorem J_HSetter_laterFault_d94 : decode J_HSetter_laterFault.2.1 94 = .ok (.getfield 25, 3) := by decide +kernel
theorem J_HSetter_laterFault_d97 : decode J_HSetter_laterFault.2.1 97 = .ok (.getfield 156, 3) := by decide +kernel
theorem J_HSetter_laterFault_d100 : decode J_HSetter_laterFault.2.1 100 = .ok (.aload_n 0, 1) := by decide +kernel
theorem J_HSetter_laterFault_d101 : decode J_HSetter_laterFault.2.1 101 = .ok (.getfield 25, 3) := by decide +kernel
theorem J_HSetter_laterFault_d104 : decode J_HSetter_laterFault.2.1 104 = .ok (.getfield 131, 3) := by decide +kernel
theorem J_HSetter_laterFault_d107 : decode J_HSetter_laterFault.2.1 107 = .ok (.iconst 0, 1) := by decide +kernel
theorem J_HSetter_laterFault_d108 : decode J_HSetter_laterFault.2.1 108 = .ok (.iaload, 1) := by decide +kernel
theorem J_HSetter_laterFault_d109 : decode J_HSetter_laterFault.2.1 109 = .ok (.iaload, 1) := by decide +kernel
theorem J_HSetter_laterFault_d110 : decode J_HSetter_laterFault.2.1 110 = .ok (.ifCond .eq 14, 3) := by decide +kernel
theorem J_HSetter_laterFault_d113 : decode J_HSetter_laterFault.2.1 113 = .ok (.aload_n 0, 1) := by decide +kernel
theorem J_HSetter_laterFault_d114 : decode J_HSetter_laterFault.2.1 114 = .ok (.getfield 25, 3) := by decide +kernel
theorem J_HSetter_laterFault_d117 : decode J_HSetter_laterFault.2.1 117 = .ok (.getfield 79, 3) := by decide +kernel
theorem J_HSetter_laterFault_d120 : decode J_HSetter_laterFault.2.1 120 = .ok (.iconst 4, 1) := by decide +kernel
theorem J_HSetter_laterFault_d121 : decode J_HSetter_laterFault.2.1 121 = .ok (.if_icmp .ne 6, 3) := by decide +kernel
theorem J_HSetter_laterFault_d124 : decode J_HSetter_laterFault.2.1 124 = .ok (.bipush 9, 2) := by decide +kernel
theorem J_HSetter_laterFault_d126 : decode J_HSetter_laterFault.2.1 126 = .ok (.ireturn, 1) := by decide +kernel
theorem J_HSetter_laterFault_d127 : decode J_HSetter_laterFault.2.1 127 = .ok (.aload_n 0, 1) := by decide +kernel
theorem J_HSetter_laterFault_d128 : decode J_HSetter_laterFault.2.1 128 = .ok (.dup, 1) := by decide +kernel
theorem J_HSetter_laterFault_d129 : decode J_HSetter_laterFault.2.1 129 = .ok (.getfield 66, 3) := by decide +kernel
theorem J_HSetter_laterFault_d132 : decode J_HSetter_laterFault.2.1 132 = .ok (.iconst 1, 1) := by decide +kernel
theorem J_HSetter_laterFault_d133 : decode J_HSetter_laterFault.2.1 133 = .ok (.iadd, 1) := by decide +kernel
theorem J_HSetter_laterFault_d134 : decode J_HSetter_laterFault.2.1 134 = .ok (.putfield 66, 3) := by decide +kernel
theorem J_HSetter_laterFault_d137 : decode J_HSetter_laterFault.2.1 137 = .ok (.aload_n 0, 1) := by decide +kernel
theorem J_HSetter_laterFault_d138 : decode J_HSetter_laterFault.2.1 138 = .ok (.getfield 66, 3) := by decide +kernel
theorem J_HSetter_laterFault_d141 : decode J_HSetter_laterFault.2.1 141 = .ok (.sipush 2000, 3) := by decide +kernel
theorem J_HSetter_laterFault_d144 : decode J_HSetter_laterFault.2.1 144 = .ok (.if_icmp .ge 11, 3) := by decide +kernel
theorem J_HSetter_laterFault_d147 : decode J_HSetter_laterFault.2.1 147 = .ok (.aload_n 0, 1) := by decide +kernel
theorem J_HSetter_laterFault_d148 : decode J_HSetter_laterFault.2.1 148 = .ok (.iload_n 1, 1) := by decide +kernel
theorem J_HSetter_laterFault_d149 : decode J_HSetter_laterFault.2.1 149 = .ok (.invokevirtual 159, 3) := by decide +kernel
theorem J_HSetter_laterFault_d152 : decode J_HSetter_laterFault.2.1 152 = .ok (.ifCond .eq 8, 3) := by decide +kernel
theorem J_HSetter_laterFault_d155 : decode J_HSetter_laterFault.2.1 155 = .ok (.bipush 10, 2) := by decide +kernel
theorem J_HSetter_laterFault_d157 : decode J_HSetter_laterFault.2.1 157 = .ok (.goto 4, 3) := by decide +kernel
theorem J_HSetter_laterFault_d160 : decode J_HSetter_laterFault.2.1 160 = .ok (.iconst 0, 1) := by decide +kernel
theorem J_HSetter_laterFault_d161 : decode J_HSetter_laterFault.2.1 161 = .ok (.ireturn, 1) := by decide +kernel
theorem f_HSetter_laterFault_ok {L : Nat} {xs : Nat → Int32} {dep : Nat} {w : Bool} {p0 : Int32} {M : im_M} {Q : Int32 × im_M → Prop} (hM : lw_S w M) (h : ed (f_HSetter_laterFault p0 M) Q) : ia (tb_G L xs) (dep + 5) J_HSetter_laterFault (rwI w Q) (0, lv_args 0 [.ref 15, .int p0], [], M) := by
  have hS : im_St (tb_G L xs) (dep + 5) J_HSetter_laterFault (ia (tb_G L xs) (dep + 5) J_HSetter_laterFault (rwI w Q)) := ia_St
  unfold f_HSetter_laterFault at h
  have l0 : im_lk (lv_args 0 [.ref 15, .int p0]) 0 = some (.ref 15) := rfl
  have l1 : im_lk (lv_args 0 [.ref 15, .int p0]) 1 = some (.int p0) := rfl
  refine iq_iload_n hS 1 J_HSetter_laterFault_d0 l1 rfl ?_
  obtain ⟨k1, Q1, hQ1, hk1, h⟩ := jn1_ed h
  have J1 : ∀ (M3 : im_M) (L' : List (Nat × Value)), lw_S w M3 → im_lk L' 0 = some (.ref 15) → im_lk L' 1 = some (.int p0) → Q1 M3 → ia (tb_G L xs) (dep + 5) J_HSetter_laterFault (rwI w Q) (26, L', [], M3) := by
    intro M3 L' hM3 l4 l5 h
    replace h := hQ1 _ h
    refine iq_iload_n hS 27 J_HSetter_laterFault_d26 l5 rfl ?_
    refine iq_bipush hS 29 J_HSetter_laterFault_d27 (v := 22) (by decide +kernel) rfl ?_
    obtain ⟨k6, Q6, hQ6, hk6, h⟩ := jn1_ed h
    have J6 : ∀ (M15 : im_M) (L' : List (Nat × Value)), lw_S w M15 → im_lk L' 0 = some (.ref 15) → im_lk L' 1 = some (.int p0) → Q6 M15 → ia (tb_G L xs) (dep + 5) J_HSetter_laterFault (rwI w Q) (87, L', [], M15) := by
      intro M15 L' hM15 l16 l17 h
      replace h := hQ6 _ h
      refine iq_iload_n hS 88 J_HSetter_laterFault_d87 l17 rfl ?_
      refine iq_bipush hS 90 J_HSetter_laterFault_d88 (v := 7) (by decide +kernel) rfl ?_
      obtain ⟨k18, Q18, hQ18, hk18, h⟩ := jn0_ed h
      have J18 : ∀  (L' : List (Nat × Value)), im_lk L' 0 = some (.ref 15) → im_lk L' 1 = some (.int p0) → Q18 () → ia (tb_G L xs) (dep + 5) J_HSetter_laterFault (rwI w Q) (127, L', [], M15) := by
        intro  L' l19 l20 h
        replace h := hQ18  h
        refine iq_aload_n hS 128 J_HSetter_laterFault_d127 l19 rfl ?_
        refine iq_dup hS 129 J_HSetter_laterFault_d128 rfl rfl ?_
        refine iq_getI hS 132 J_HSetter_laterFault_d129 lf_8_66 (Or.inl rfl) (ka_15 hM15) rfl ?_
        refine iq_iconst hS 133 J_HSetter_laterFault_d132 (v := 1) (by decide +kernel) rfl ?_
        refine iq_iadd hS 134 J_HSetter_laterFault_d133 rfl ?_
        refine iq_putI hS 137 J_HSetter_laterFault_d134 lf_8_66 (Or.inl rfl) rfl (ka_15 hM15) rfl ?_
        refine iq_aload_n hS 138 J_HSetter_laterFault_d137 l19 rfl ?_
        refine iq_getI hS 141 J_HSetter_laterFault_d138 lf_8_66 (Or.inl rfl) (ka_15 (lw_sI hM15)) rfl ?_
        refine iq_sipush hS 144 J_HSetter_laterFault_d141 (v := 2000) (by decide +kernel) rfl ?_
        obtain ⟨k21, Q21, hQ21, hk21, h⟩ := jn0_ed h
        have J21 : ∀  (L' : List (Nat × Value)), Q21 () → ia (tb_G L xs) (dep + 5) J_HSetter_laterFault (rwI w Q) (155, L', [], (im_setI M15 15 9 ((im_i M15 15 9) + 1))) := by
          intro  L'  h
          replace h := hQ21  h
          refine iq_bipush hS 157 J_HSetter_laterFault_d155 (v := 10) (by decide +kernel) rfl ?_
          refine iq_goto hS J_HSetter_laterFault_d157 (t := 161) rfl ?_
          exact iq_iret J_HSetter_laterFault_d161 rfl rfl ⟨_, rfl, (lw_sI hM15), ed_some h⟩
        refine iq_icmp_ge hS 147 J_HSetter_laterFault_d144 (t := 155) rfl (fun q144 => ?_) rfl (fun q144 => ?_)
        · replace h := ed_pos q144 h
          exact J21  _  (hk21  h)
        · replace h := ed_neg q144 h
          refine iq_aload_n hS 148 J_HSetter_laterFault_d147 l19 rfl ?_
          refine iq_iload_n hS 149 J_HSetter_laterFault_d148 l20 rfl ?_
          obtain ⟨Q22, hQ22, h⟩ := bd1_ed h
          refine iq_cpI hS 152 J_HSetter_laterFault_d149 rfl (pr_inst (vs := [_]) lc_8_159 lT_69 rfl rfl (by decide) (by decide) rfl (Nat.le_of_ble_eq_true rfl) (Nat.le_of_ble_eq_true rfl) (fun _ => Or.inl (pr_b (ka_15 (lw_sI hM15)) (by decide) rfl))) (f_HSetter_isTooMuch_ok (dep := dep + 4) (lw_sI hM15) h) rfl ?_
          intro x22 h
          replace h := hQ22 _ h
          refine iq_if_eq hS 155 J_HSetter_laterFault_d152 (t := 160) rfl (fun q152 => ?_) rfl (fun q152 => ?_)
          · replace h := ed_pos q152 h
            refine iq_iconst hS 161 J_HSetter_laterFault_d160 (v := 0) (by decide +kernel) rfl ?_
            exact iq_iret J_HSetter_laterFault_d161 rfl rfl ⟨_, rfl, (lw_sI hM15), ed_some h⟩
          · replace h := ed_neg q152 h
            exact J21  _  (hk21  h)
      refine iq_icmp_ne hS 93 J_HSetter_laterFault_d90 (t := 127) rfl (fun q90 => ?_) rfl (fun q90 => ?_)
      · replace h := ed_pos q90 h
        exact J18  _ l16 l17 (hk18  h)
      · replace h := ed_neg q90 h
        refine iq_aload_n hS 94 J_HSetter_laterFault_d93 l16 rfl ?_
        refine iq_getR hS 97 J_HSetter_laterFault_d94 lf_8_25 (Or.inl ⟨_, rfl⟩) (ka_15 hM15) (ra_15_0 hM15) rfl ?_
        refine iq_getR hS 100 J_HSetter_laterFault_d97 lf_8_156 (Or.inr ⟨_, rfl⟩) (ka_1 hM15) (ra_1_3 hM15) rfl ?_
        refine iq_aload_n hS 101 J_HSetter_laterFault_d100 l16 rfl ?_
        refine iq_getR hS 104 J_HSetter_laterFault_d101 lf_8_25 (Or.inl ⟨_, rfl⟩) (ka_15 hM15) (ra_15_0 hM15) rfl ?_
        refine iq_getR hS 107 J_HSetter_laterFault_d104 lf_8_131 (Or.inr ⟨_, rfl⟩) (ka_1 hM15) (ra_1_9 hM15) rfl ?_
        refine iq_iconst hS 108 J_HSetter_laterFault_d107 (v := 0) (by decide +kernel) rfl ?_
        obtain ⟨g108, h⟩ := ed_gd h
        refine iq_iaload hS 109 J_HSetter_laterFault_d108 ⟨(ka_9 hM15).1, (ka_9 hM15).2, g108.1, ix_lt (kl_9 hM15) g108.2⟩ rfl ?_
        obtain ⟨g109, h⟩ := ed_gd h
        refine iq_iaload hS 110 J_HSetter_laterFault_d109 ⟨(ka_4 hM15).1, (ka_4 hM15).2, g109.1, ix_lt (kl_4 hM15) g109.2⟩ rfl ?_
        refine iq_if_eq hS 113 J_HSetter_laterFault_d110 (t := 124) rfl (fun q110 => ?_) rfl (fun q110 => ?_)
        · replace h := ed_pos q110 h
          refine iq_bipush hS 126 J_HSetter_laterFault_d124 (v := 9) (by decide +kernel) rfl ?_
          exact iq_iret J_HSetter_laterFault_d126 rfl rfl ⟨_, rfl, hM15, ed_some h⟩
        · replace h := ed_neg q110 h
          refine iq_aload_n hS 114 J_HSetter_laterFault_d113 l16 rfl ?_
          refine iq_getR hS 117 J_HSetter_laterFault_d114 lf_8_25 (Or.inl ⟨_, rfl⟩) (ka_15 hM15) (ra_15_0 hM15) rfl ?_
          refine iq_getI hS 120 J_HSetter_laterFault_d117 lf_8_79 (Or.inl rfl) (ka_1 hM15) rfl ?_
          refine iq_iconst hS 121 J_HSetter_laterFault_d120 (v := 4) (by decide +kernel) rfl ?_
          refine iq_icmp_ne hS 124 J_HSetter_laterFault_d121 (t := 127) rfl (fun q121 => ?_) rfl (fun q121 => ?_)
          · replace h := ed_pos q121 h
            exact J18  _ l16 l17 (hk18  h)
          · replace h := ed_neg q121 h
            refine iq_bipush hS 126 J_HSetter_laterFault_d124 (v := 9) (by decide +kernel) rfl ?_
            exact iq_iret J_HSetter_laterFault_d126 rfl rfl ⟨_, rfl, hM15, ed_some h⟩
    refine iq_icmp_ne hS 32 J_HSetter_laterFault_d29 (t := 87) rfl (fun q29 => ?_) rfl (fun q29 => ?_)
    · replace h := ed_pos q29 h
      exact J6 _ _ hM3 l4 l5 (hk6 _ h)
    · replace h := ed_neg q29 h
      refine iq_aload_n hS 33 J_HSetter_laterFault_d32 l4 rfl ?_
      refine iq_getR hS 36 J_HSetter_laterFault_d33 lf_8_44 (Or.inl ⟨_, rfl⟩) (ka_15 hM3) (ra_15_3 hM3) rfl ?_
      obtain ⟨Q7, hQ7, h⟩ := bd1_ed h
      refine iq_cwV hS 39 J_HSetter_laterFault_d36 rfl (pr_inst (vs := []) lc_8_143 lT_43 rfl rfl (by decide) (by decide) rfl (Nat.le_of_ble_eq_true rfl) (Nat.le_of_ble_eq_true rfl) (fun _ => Or.inl (pr_b (ka_23 hM3) (by decide) rfl))) (f_HField_cutLines_ok (dep := dep + 3) hM3 h) rfl ?_
      intro M7 hM7 h
      replace h := hQ7 _ h
      refine iq_aload_n hS 40 J_HSetter_laterFault_d39 l4 rfl ?_
      refine iq_aload_n hS 41 J_HSetter_laterFault_d40 l4 rfl ?_
      refine iq_getR hS 44 J_HSetter_laterFault_d41 lf_8_44 (Or.inl ⟨_, rfl⟩) (ka_15 hM7) (ra_15_3 hM7) rfl ?_
      obtain ⟨Q8, hQ8, h⟩ := bd1_ed h
      refine iq_cpI hS 47 J_HSetter_laterFault_d44 rfl (pr_inst (vs := []) lc_8_146 lT_47 rfl rfl (by decide) (by decide) rfl (Nat.le_of_ble_eq_true rfl) (Nat.le_of_ble_eq_true rfl) (fun _ => Or.inl (pr_b (ka_23 hM7) (by decide) rfl))) (f_HField_hasItsData_ok (dep := dep + 2) hM7 h) rfl ?_
      intro x8 h
      replace h := hQ8 _ h
      obtain ⟨Q9, hQ9, h⟩ := bd2_ed h
      have J9 : ∀ (y11 : Int32) (M12 : im_M) (L' : List (Nat × Value)), lw_S w M12 → im_lk L' 0 = some (.ref 15) → im_lk L' 1 = some (.int p0) → Q9 (y11, M12) → ia (tb_G L xs) (dep + 5) J_HSetter_laterFault (rwI w Q) (73, L', [.int y11, .ref 15], M12) := by
        intro y11 M12 L' hM12 l13 l14 h
        replace h := hQ9 _ _ h
        refine iq_putI hS 76 J_HSetter_laterFault_d73 lf_8_153 (Or.inl rfl) rfl (ka_15 hM12) rfl ?_
        refine iq_aload_n hS 77 J_HSetter_laterFault_d76 l13 rfl ?_
        refine iq_getI hS 80 J_HSetter_laterFault_d77 lf_8_153 (Or.inl rfl) (ka_15 (lw_sI hM12)) rfl ?_
        refine iq_iconst hS 81 J_HSetter_laterFault_d80 (v := (-1)) (by decide +kernel) rfl ?_
        refine iq_icmp_ne hS 84 J_HSetter_laterFault_d81 (t := 87) rfl (fun q81 => ?_) rfl (fun q81 => ?_)
        · replace h := ed_pos q81 h
          exact J6 _ _ (lw_sI hM12) l13 l14 (hk6 _ h)
        · replace h := ed_neg q81 h
          refine iq_bipush hS 86 J_HSetter_laterFault_d84 (v := 8) (by decide +kernel) rfl ?_
          exact iq_iret J_HSetter_laterFault_d86 rfl rfl ⟨_, rfl, (lw_sI hM12), ed_some h⟩
      refine iq_if_eq hS 50 J_HSetter_laterFault_d47 (t := 72) rfl (fun q47 => ?_) rfl (fun q47 => ?_)
      · replace h := ed_pos q47 h
        refine iq_iconst hS 73 J_HSetter_laterFault_d72 (v := (-1)) (by decide +kernel) rfl ?_
        exact J9 _ _ _ hM7 l4 l5 (ed_some h)
      · replace h := ed_neg q47 h
        refine iq_aload_n hS 51 J_HSetter_laterFault_d50 l4 rfl ?_
        refine iq_getR hS 54 J_HSetter_laterFault_d51 lf_8_44 (Or.inl ⟨_, rfl⟩) (ka_15 hM7) (ra_15_3 hM7) rfl ?_
        refine iq_aload_n hS 55 J_HSetter_laterFault_d54 l4 rfl ?_
        refine iq_getR hS 58 J_HSetter_laterFault_d55 lf_8_40 (Or.inl ⟨_, rfl⟩) (ka_15 hM7) (ra_15_2 hM7) rfl ?_
        refine iq_aload_n hS 59 J_HSetter_laterFault_d58 l4 rfl ?_
        refine iq_getR hS 62 J_HSetter_laterFault_d59 lf_8_19 (Or.inr ⟨_, rfl⟩) (ka_15 hM7) (ra_15_13 hM7) rfl ?_
        refine iq_aload_n hS 63 J_HSetter_laterFault_d62 l4 rfl ?_
        refine iq_getR hS 66 J_HSetter_laterFault_d63 lf_8_22 (Or.inr ⟨_, rfl⟩) (ka_15 hM7) (ra_15_14 hM7) rfl ?_
        obtain ⟨Q10, hQ10, h⟩ := bd2_ed h
        refine iq_cwI hS 69 J_HSetter_laterFault_d66 rfl (pr_inst (vs := [_, _, _]) lc_8_149 lT_50 rfl rfl (by decide) (by decide) rfl (Nat.le_of_ble_eq_true rfl) (Nat.le_of_ble_eq_true rfl) (fun _ => Or.inl (pr_b (ka_23 hM7) (by decide) rfl))) (f_HField_build_ok (dep := dep + 0) hM7 h) rfl ?_
        intro x10 M10 hM10 h
        replace h := hQ10 _ _ h
        refine iq_goto hS J_HSetter_laterFault_d69 (t := 73) rfl ?_
        exact J9 _ _ _ hM10 l4 l5 (ed_some h)
  refine iq_if_ne hS 4 J_HSetter_laterFault_d1 (t := 26) rfl (fun q1 => ?_) rfl (fun q1 => ?_)
  · replace h := ed_pos q1 h
    exact J1 _ _ hM l0 l1 (hk1 _ h)
  · replace h := ed_neg q1 h
    refine iq_aload_n hS 5 J_HSetter_laterFault_d4 l0 rfl ?_
    refine iq_aload_n hS 6 J_HSetter_laterFault_d5 l0 rfl ?_
    refine iq_getR hS 9 J_HSetter_laterFault_d6 lf_8_25 (Or.inl ⟨_, rfl⟩) (ka_15 hM) (ra_15_0 hM) rfl ?_
    obtain ⟨Q2, hQ2, h⟩ := bd1_ed h
    refine iq_cpI hS 12 J_HSetter_laterFault_d9 rfl (pr_inst (vs := []) lc_8_137 lT_42 rfl rfl (by decide) (by decide) rfl (Nat.le_of_ble_eq_true rfl) (Nat.le_of_ble_eq_true rfl) (fun _ => Or.inl (pr_b (ka_1 hM) (by decide) rfl))) (f_HTape_endOfForm_ok (dep := dep + 4) hM h) rfl ?_
    intro x2 h
    replace h := hQ2 _ h
    refine iq_putI hS 15 J_HSetter_laterFault_d12 lf_8_140 (Or.inl rfl) rfl (ka_15 hM) rfl ?_
    refine iq_aload_n hS 16 J_HSetter_laterFault_d15 l0 rfl ?_
    refine iq_getI hS 19 J_HSetter_laterFault_d16 lf_8_140 (Or.inl rfl) (ka_15 (lw_sI hM)) rfl ?_
    refine iq_iconst hS 20 J_HSetter_laterFault_d19 (v := (-1)) (by decide +kernel) rfl ?_
    refine iq_icmp_ne hS 23 J_HSetter_laterFault_d20 (t := 26) rfl (fun q20 => ?_) rfl (fun q20 => ?_)
    · replace h := ed_pos q20 h
      exact J1 _ _ (lw_sI hM) l0 l1 (hk1 _ h)
    · replace h := ed_neg q20 h
      refine iq_bipush hS 25 J_HSetter_laterFault_d23 (v := 7) (by decide +kernel) rfl ?_
      exact iq_iret J_HSetter_laterFault_d25 rfl rfl ⟨_, rfl, (lw_sI hM), ed_some h⟩
theorem f_HSetter_laterFault_fr {p0 : Int32} {M : im_M} {r : Int32 × im_M} (h : f_HSetter_laterFault p0 M = some r) : fr 207618048 [(15, 9), (15, 15), (15, 16), (23, 9)] M r.2 := by
  replace h : ed (f_HSetter_laterFault p0 M) (fun x => x = r) := ⟨r, h, rfl⟩
  unfold f_HSetter_laterFault at h
  obtain ⟨k1, Q1, hQ1, hk1, h⟩ := jn1_ed h
  have J1 : ∀ (M3 : im_M), fr 207618048 [(15, 9), (15, 15), (15, 16), (23, 9)] M M3 → Q1 M3 → fr 207618048 [(15, 9), (15, 15), (15, 16), (23, 9)] M r.2 := by
    intro M3 hM3 h
    replace h := hQ1 _ h
    obtain ⟨k6, Q6, hQ6, hk6, h⟩ := jn1_ed h
    have J6 : ∀ (M15 : im_M), fr 207618048 [(15, 9), (15, 15), (15, 16), (23, 9)] M M15 → Q6 M15 → fr 207618048 [(15, 9), (15, 15), (15, 16), (23, 9)] M r.2 := by
      intro M15 hM15 h
      replace h := hQ6 _ h
      obtain ⟨k18, Q18, hQ18, hk18, h⟩ := jn0_ed h
      have J18 : Q18 () → fr 207618048 [(15, 9), (15, 15), (15, 16), (23, 9)] M r.2 := by
        intro  h
        replace h := hQ18  h
        obtain ⟨k21, Q21, hQ21, hk21, h⟩ := jn0_ed h
        have J21 : Q21 () → fr 207618048 [(15, 9), (15, 15), (15, 16), (23, 9)] M r.2 := by
          intro  h
          replace h := hQ21  h
          exact fr_ret h (fr_F (by decide) hM15)
        by_cases q144 : 2000 ≤ (im_i (im_setI M15 15 9 ((im_i M15 15 9) + 1)) 15 9)
        · replace h := ed_pos q144 h
          exact J21  (hk21  h)
        · replace h := ed_neg q144 h
          obtain ⟨Q22, hQ22, h⟩ := bd1_ed h
          obtain ⟨x22, e22, h⟩ := h
          replace h := hQ22 _ h
          by_cases q152 : x22 = 0
          · replace h := ed_pos q152 h
            exact fr_ret h (fr_F (by decide) hM15)
          · replace h := ed_neg q152 h
            exact J21  (hk21  h)
      by_cases q90 : ¬ p0 = 7
      · replace h := ed_pos q90 h
        exact J18  (hk18  h)
      · replace h := ed_neg q90 h
        obtain ⟨g108, h⟩ := ed_gd h
        obtain ⟨g109, h⟩ := ed_gd h
        by_cases q110 : (im_i M15 4 (Int32.toNatClampNeg (im_i M15 9 (Int32.toNatClampNeg 0)))) = 0
        · replace h := ed_pos q110 h
          exact fr_ret h hM15
        · replace h := ed_neg q110 h
          by_cases q121 : ¬ (im_i M15 1 6) = 4
          · replace h := ed_pos q121 h
            exact J18  (hk18  h)
          · replace h := ed_neg q121 h
            exact fr_ret h hM15
    by_cases q29 : ¬ p0 = 22
    · replace h := ed_pos q29 h
      exact J6 _ hM3 (hk6 _ h)
    · replace h := ed_neg q29 h
      obtain ⟨Q7, hQ7, h⟩ := bd1_ed h
      obtain ⟨M7, e7, h⟩ := h
      replace h := hQ7 _ h
      obtain ⟨Q8, hQ8, h⟩ := bd1_ed h
      obtain ⟨x8, e8, h⟩ := h
      replace h := hQ8 _ h
      obtain ⟨Q9, hQ9, h⟩ := bd2_ed h
      have J9 : ∀ (y11 : Int32) (M12 : im_M), fr 207618048 [(15, 9), (15, 15), (15, 16), (23, 9)] M M12 → Q9 (y11, M12) → fr 207618048 [(15, 9), (15, 15), (15, 16), (23, 9)] M r.2 := by
        intro y11 M12 hM12 h
        replace h := hQ9 _ _ h
        by_cases q81 : ¬ (im_i (im_setI M12 15 16 y11) 15 16) = (-1)
        · replace h := ed_pos q81 h
          exact J6 _ (fr_F (by decide) hM12) (hk6 _ h)
        · replace h := ed_neg q81 h
          exact fr_ret h (fr_F (by decide) hM12)
      by_cases q47 : x8 = 0
      · replace h := ed_pos q47 h
        exact J9 _ _ (fr_tr (fr_mono (by decide) (by decide +kernel) (f_HField_cutLines_fr e7)) hM3) (ed_some h)
      · replace h := ed_neg q47 h
        obtain ⟨Q10, hQ10, h⟩ := bd2_ed h
        obtain ⟨⟨x10, M10⟩, e10, h⟩ := h
        replace h := hQ10 _ _ h
        exact J9 _ _ (fr_tr (fr_mono (by decide) (by decide +kernel) (f_HField_build_fr e10)) (fr_tr (fr_mono (by decide) (by decide +kernel) (f_HField_cutLines_fr e7)) hM3)) (ed_some h)
  by_cases q1 : ¬ p0 = 0
  · replace h := ed_pos q1 h
    exact J1 _ fr_refl (hk1 _ h)
  · replace h := ed_neg q1 h
    obtain ⟨Q2, hQ2, h⟩ := bd1_ed h
    obtain ⟨x2, e2, h⟩ := h
    replace h := hQ2 _ h
    by_cases q20 : ¬ (im_i (im_setI M 15 15 x2) 15 15) = (-1)
    · replace h := ed_pos q20 h
      exact J1 _ (fr_F (by decide) fr_refl) (hk1 _ h)
    · replace h := ed_neg q20 h
      exact fr_ret h (fr_F (by decide) fr_refl)
noncomputable def f_HTape_keepForm (p0 : Int32) (p1 : Int32) (M : im_M) : Option (im_M) := gd (inb 0 5) <| gd (inb 0 5) <| gd (cpy (im_i M 8 (Int32.toNatClampNeg 0)) 4096 (p0 * 400) 3200 (p1 - (im_i M 8 (Int32.toNatClampNeg 0)))) <| gd (inb p0 8) <| gd (inb 0 5) <| some (im_setI (im_setI (im_setA M 3 (va_cpy (im_i M 2) (im_i M 3) (Int32.toNatClampNeg (im_i M 8 (Int32.toNatClampNeg 0))) (Int32.toNatClampNeg (p0 * 400)) (Int32.toNatClampNeg (p1 - (im_i M 8 (Int32.toNatClampNeg 0)))))) 4 (Int32.toNatClampNeg p0) (p1 - (im_i M 8 (Int32.toNatClampNeg 0)))) 8 (Int32.toNatClampNeg 0) (p1 + 2))
theorem J_HTape_keepForm_d0 : decode J_HTape_keepForm.2.1 0 = .ok (.iload_n 2, 1) := by decide +kernel
theorem J_HTape_keepForm_d1 : decode J_HTape_keepForm.2.1 1 = .ok (.aload_n 0, 1) := by decide +kernel
theorem J_HTape_keepForm_d2 : decode J_HTape_keepForm.2.1 2 = .ok (.getfield 31, 3) := by decide +kernel
theorem J_HTape_keepForm_d5 : decode J_HTape_keepForm.2.1 5 = .ok (.iconst 0, 1) := by decide +kernel
theorem J_HTape_keepForm_d6 : decode J_HTape_keepForm.2.1 6 = .ok (.iaload, 1) := by decide +kernel
theorem J_HTape_keepForm_d7 : decode J_HTape_keepForm.2.1 7 = .ok (.isub, 1) := by decide +kernel
theorem J_HTape_keepForm_d8 : decode J_HTape_keepForm.2.1 8 = .ok (.istore_n 3, 1) := by decide +kernel
theorem J_HTape_keepForm_d9 : decode J_HTape_keepForm.2.1 9 = .ok (.aload_n 0, 1) := by decide +kernel
theorem J_HTape_keepForm_d10 : decode J_HTape_keepForm.2.1 10 = .ok (.getfield 11, 3) := by decide +kernel
theorem J_HTape_keepForm_d13 : decode J_HTape_keepForm.2.1 13 = .ok (.aload_n 0, 1) := by decide +kernel
theorem J_HTape_keepForm_d14 : decode J_HTape_keepForm.2.1 14 = .ok (.getfield 31, 3) := by decide +kernel
theorem J_HTape_keepForm_d17 : decode J_HTape_keepForm.2.1 17 = .ok (.iconst 0, 1) := by decide +kernel
theorem J_HTape_keepForm_d18 : decode J_HTape_keepForm.2.1 18 = .ok (.iaload, 1) := by decide +kernel
theorem J_HTape_keepForm_d19 : decode J_HTape_keepForm.2.1 19 = .ok (.aload_n 0, 1) := by decide +kernel
theorem J_HTape_keepForm_d20 : decode J_HTape_keepForm.2.1 20 = .ok (.getfield 15, 3) := by decide +kernel
theorem J_HTape_keepForm_d23 : decode J_HTape_keepForm.2.1 23 = .ok (.iload_n 1, 1) := by decide +kernel
theorem J_HTape_keepForm_d24 : decode J_HTape_keepForm.2.1 24 = .ok (.sipush 400, 3) := by decide +kernel
theorem J_HTape_keepForm_d27 : decode J_HTape_keepForm.2.1 27 = .ok (.imul, 1) := by decide +kernel
theorem J_HTape_keepForm_d28 : decode J_HTape_keepForm.2.1 28 = .ok (.iload_n 3, 1) := by decide +kernel
theorem J_HTape_keepForm_d29 : decode J_HTape_keepForm.2.1 29 = .ok (.invokestatic 71, 3) := by decide +kernel
theorem J_HTape_keepForm_d32 : decode J_HTape_keepForm.2.1 32 = .ok (.aload_n 0, 1) := by decide +kernel
theorem J_HTape_keepForm_d33 : decode J_HTape_keepForm.2.1 33 = .ok (.getfield 18, 3) := by decide +kernel
theorem J_HTape_keepForm_d36 : decode J_HTape_keepForm.2.1 36 = .ok (.iload_n 1, 1) := by decide +kernel
theorem J_HTape_keepForm_d37 : decode J_HTape_keepForm.2.1 37 = .ok (.iload_n 3, 1) := by decide +kernel
theorem J_HTape_keepForm_d38 : decode J_HTape_keepForm.2.1 38 = .ok (.iastore, 1) := by decide +kernel
theorem J_HTape_keepForm_d39 : decode J_HTape_keepForm.2.1 39 = .ok (.aload_n 0, 1) := by decide +kernel
theorem J_HTape_keepForm_d40 : decode J_HTape_keepForm.2.1 40 = .ok (.getfield 31, 3) := by decide +kernel
theorem J_HTape_keepForm_d43 : decode J_HTape_keepForm.2.1 43 = .ok (.iconst 0, 1) := by decide +kernel
theorem J_HTape_keepForm_d44 : decode J_HTape_keepForm.2.1 44 = .ok (.iload_n 2, 1) := by decide +kernel
theorem J_HTape_keepForm_d45 : decode J_HTape_keepForm.2.1 45 = .ok (.iconst 2, 1) := by decide +kernel
theorem J_HTape_keepForm_d46 : decode J_HTape_keepForm.2.1 46 = .ok (.iadd, 1) := by decide +kernel
theorem J_HTape_keepForm_d47 : decode J_HTape_keepForm.2.1 47 = .ok (.iastore, 1) := by decide +kernel
theorem J_HTape_keepForm_d48 : decode J_HTape_keepForm.2.1 48 = .ok (.return_, 1) := by decide +kernel
theorem f_HTape_keepForm_ok {L : Nat} {xs : Nat → Int32} {dep : Nat} {w : Bool} {p0 : Int32} {p1 : Int32} {M : im_M} {Q : im_M → Prop} (hM : lw_S w M) (h : ed (f_HTape_keepForm p0 p1 M) Q) : ia (tb_G L xs) dep J_HTape_keepForm (rwV w Q) (0, lv_args 0 [.ref 1, .int p0, .int p1], [], M) := by
  have hS : im_St (tb_G L xs) dep J_HTape_keepForm (ia (tb_G L xs) dep J_HTape_keepForm (rwV w Q)) := ia_St
  unfold f_HTape_keepForm at h
  have l0 : im_lk (lv_args 0 [.ref 1, .int p0, .int p1]) 0 = some (.ref 1) := rfl
  have l1 : im_lk (lv_args 0 [.ref 1, .int p0, .int p1]) 1 = some (.int p0) := rfl
  have l2 : im_lk (lv_args 0 [.ref 1, .int p0, .int p1]) 2 = some (.int p1) := rfl
  refine iq_iload_n hS 1 J_HTape_keepForm_d0 l2 rfl ?_
  refine iq_aload_n hS 2 J_HTape_keepForm_d1 l0 rfl ?_
  refine iq_getR hS 5 J_HTape_keepForm_d2 lf_10_31 (Or.inr ⟨_, rfl⟩) (ka_1 hM) (ra_1_8 hM) rfl ?_
  refine iq_iconst hS 6 J_HTape_keepForm_d5 (v := 0) (by decide +kernel) rfl ?_
  obtain ⟨g6, h⟩ := ed_gd h
  refine iq_iaload hS 7 J_HTape_keepForm_d6 ⟨(ka_8 hM).1, (ka_8 hM).2, g6.1, ix_lt (kl_8 hM) g6.2⟩ rfl ?_
  refine iq_isub hS 8 J_HTape_keepForm_d7 rfl ?_
  refine iq_istore_n hS 9 J_HTape_keepForm_d8 (by decide) rfl ?_
  refine iq_aload_n hS 10 J_HTape_keepForm_d9 (lk_1r l0 (by decide)) rfl ?_
  refine iq_getR hS 13 J_HTape_keepForm_d10 lf_10_11 (Or.inr ⟨_, rfl⟩) (ka_1 hM) (ra_1_0 hM) rfl ?_
  refine iq_aload_n hS 14 J_HTape_keepForm_d13 (lk_1r l0 (by decide)) rfl ?_
  refine iq_getR hS 17 J_HTape_keepForm_d14 lf_10_31 (Or.inr ⟨_, rfl⟩) (ka_1 hM) (ra_1_8 hM) rfl ?_
  refine iq_iconst hS 18 J_HTape_keepForm_d17 (v := 0) (by decide +kernel) rfl ?_
  obtain ⟨g18, h⟩ := ed_gd h
  refine iq_iaload hS 19 J_HTape_keepForm_d18 ⟨(ka_8 hM).1, (ka_8 hM).2, g18.1, ix_lt (kl_8 hM) g18.2⟩ rfl ?_
  refine iq_aload_n hS 20 J_HTape_keepForm_d19 (lk_1r l0 (by decide)) rfl ?_
  refine iq_getR hS 23 J_HTape_keepForm_d20 lf_10_15 (Or.inr ⟨_, rfl⟩) (ka_1 hM) (ra_1_2 hM) rfl ?_
  refine iq_iload_n hS 24 J_HTape_keepForm_d23 (lk_1i l1 (by decide)) rfl ?_
  refine iq_sipush hS 27 J_HTape_keepForm_d24 (v := 400) (by decide +kernel) rfl ?_
  refine iq_imul hS 28 J_HTape_keepForm_d27 rfl ?_
  refine iq_iload_n hS 29 J_HTape_keepForm_d28 lk_1s rfl ?_
  obtain ⟨g29, h⟩ := ed_gd h
  refine iq_cpy hS 32 J_HTape_keepForm_d29 (ga_of (by decide +kernel)) (ka_3 hM) (ka_2 hM) (by decide) (kl_2 hM) (kl_3 hM) g29 (Nat.le_of_ble_eq_true rfl) rfl ?_
  refine iq_aload_n hS 33 J_HTape_keepForm_d32 (lk_1r l0 (by decide)) rfl ?_
  refine iq_getR hS 36 J_HTape_keepForm_d33 lf_10_18 (Or.inr ⟨_, rfl⟩) (ka_1 (lw_sA hM)) (ra_1_3 (lw_sA hM)) rfl ?_
  refine iq_iload_n hS 37 J_HTape_keepForm_d36 (lk_1i l1 (by decide)) rfl ?_
  refine iq_iload_n hS 38 J_HTape_keepForm_d37 lk_1s rfl ?_
  obtain ⟨g38, h⟩ := ed_gd h
  refine iq_iastore hS 39 J_HTape_keepForm_d38 ⟨(ka_4 (lw_sA hM)).1, (ka_4 (lw_sA hM)).2, g38.1, ix_lt (kl_4 (lw_sA hM)) g38.2⟩ rfl ?_
  refine iq_aload_n hS 40 J_HTape_keepForm_d39 (lk_1r l0 (by decide)) rfl ?_
  refine iq_getR hS 43 J_HTape_keepForm_d40 lf_10_31 (Or.inr ⟨_, rfl⟩) (ka_1 (lw_sI (lw_sA hM))) (ra_1_8 (lw_sI (lw_sA hM))) rfl ?_
  refine iq_iconst hS 44 J_HTape_keepForm_d43 (v := 0) (by decide +kernel) rfl ?_
  refine iq_iload_n hS 45 J_HTape_keepForm_d44 (lk_1i l2 (by decide)) rfl ?_
  refine iq_iconst hS 46 J_HTape_keepForm_d45 (v := 2) (by decide +kernel) rfl ?_
  refine iq_iadd hS 47 J_HTape_keepForm_d46 rfl ?_
  obtain ⟨g47, h⟩ := ed_gd h
  refine iq_iastore hS 48 J_HTape_keepForm_d47 ⟨(ka_8 (lw_sI (lw_sA hM))).1, (ka_8 (lw_sI (lw_sA hM))).2, g47.1, ix_lt (kl_8 (lw_sI (lw_sA hM))) g47.2⟩ rfl ?_
  exact iq_ret J_HTape_keepForm_d48 rfl ⟨rfl, (lw_sI (lw_sI (lw_sA hM))), ed_some h⟩
theorem f_HTape_keepForm_fr {p0 : Int32} {p1 : Int32} {M : im_M} {r : im_M} (h : f_HTape_keepForm p0 p1 M = some r) : fr 280 [] M r := by
  replace h : ed (f_HTape_keepForm p0 p1 M) (fun x => x = r) := ⟨r, h, rfl⟩
  unfold f_HTape_keepForm at h
  obtain ⟨g6, h⟩ := ed_gd h
  obtain ⟨g18, h⟩ := ed_gd h
  obtain ⟨g29, h⟩ := ed_gd h
  obtain ⟨g38, h⟩ := ed_gd h
  obtain ⟨g47, h⟩ := ed_gd h
  exact fr_retV h (fr_I (by decide) (fr_I (by decide) (fr_A (by decide) fr_refl)))
noncomputable def f_HField_clear (M : im_M) : Option (im_M) := some (im_setI (im_setI (im_setI (im_setI (im_setI (im_setI (im_setI M 23 0 0) 23 1 0) 23 2 (-1)) 23 4 0) 23 5 0) 23 6 0) 23 8 0)
theorem J_HField_clear_d0 : decode J_HField_clear.2.1 0 = .ok (.aload_n 0, 1) := by decide +kernel
theorem J_HField_clear_d1 : decode J_HField_clear.2.1 1 = .ok (.iconst 0, 1) := by decide +kernel
theorem J_HField_clear_d2 : decode J_HField_clear.2.1 2 = .ok (.putfield 27, 3) := by decide +kernel
theorem J_HField_clear_d5 : decode J_HField_clear.2.1 5 = .ok (.aload_n 0, 1) := by decide +kernel
theorem J_HField_clear_d6 : decode J_HField_clear.2.1 6 = .ok (.iconst 0, 1) := by decide +kernel
theorem J_HField_clear_d7 : decode J_HField_clear.2.1 7 = .ok (.putfield 31, 3) := by decide +kernel
theorem J_HField_clear_d10 : decode J_HField_clear.2.1 10 = .ok (.aload_n 0, 1) := by decide +kernel
theorem J_HField_clear_d11 : decode J_HField_clear.2.1 11 = .ok (.iconst (-1), 1) := by decide +kernel
theorem J_HField_clear_d12 : decode J_HField_clear.2.1 12 = .ok (.putfield 34, 3) := by decide +kernel
theorem J_HField_clear_d15 : decode J_HField_clear.2.1 15 = .ok (.aload_n 0, 1) := by decide +kernel
theorem J_HField_clear_d16 : decode J_HField_clear.2.1 16 = .ok (.iconst 0, 1) := by decide +kernel
theorem J_HField_clear_d17 : decode J_HField_clear.2.1 17 = .ok (.putfield 37, 3) := by decide +kernel
theorem J_HField_clear_d20 : decode J_HField_clear.2.1 20 = .ok (.aload_n 0, 1) := by decide +kernel
theorem J_HField_clear_d21 : decode J_HField_clear.2.1 21 = .ok (.iconst 0, 1) := by decide +kernel
theorem J_HField_clear_d22 : decode J_HField_clear.2.1 22 = .ok (.putfield 41, 3) := by decide +kernel
theorem J_HField_clear_d25 : decode J_HField_clear.2.1 25 = .ok (.aload_n 0, 1) := by decide +kernel
theorem J_HField_clear_d26 : decode J_HField_clear.2.1 26 = .ok (.iconst 0, 1) := by decide +kernel
theorem J_HField_clear_d27 : decode J_HField_clear.2.1 27 = .ok (.putfield 44, 3) := by decide +kernel
theorem J_HField_clear_d30 : decode J_HField_clear.2.1 30 = .ok (.aload_n 0, 1) := by decide +kernel
theorem J_HField_clear_d31 : decode J_HField_clear.2.1 31 = .ok (.iconst 0, 1) := by decide +kernel
theorem J_HField_clear_d32 : decode J_HField_clear.2.1 32 = .ok (.putfield 47, 3) := by decide +kernel
theorem J_HField_clear_d35 : decode J_HField_clear.2.1 35 = .ok (.return_, 1) := by decide +kernel
theorem f_HField_clear_ok {L : Nat} {xs : Nat → Int32} {dep : Nat} {w : Bool} {M : im_M} {Q : im_M → Prop} (hM : lw_S w M) (h : ed (f_HField_clear M) Q) : ia (tb_G L xs) dep J_HField_clear (rwV w Q) (0, lv_args 0 [.ref 23], [], M) := by
  have hS : im_St (tb_G L xs) dep J_HField_clear (ia (tb_G L xs) dep J_HField_clear (rwV w Q)) := ia_St
  unfold f_HField_clear at h
  have l0 : im_lk (lv_args 0 [.ref 23]) 0 = some (.ref 23) := rfl
  refine iq_aload_n hS 1 J_HField_clear_d0 l0 rfl ?_
  refine iq_iconst hS 2 J_HField_clear_d1 (v := 0) (by decide +kernel) rfl ?_
  refine iq_putI hS 5 J_HField_clear_d2 lf_2_27 (Or.inl rfl) rfl (ka_23 hM) rfl ?_
  refine iq_aload_n hS 6 J_HField_clear_d5 l0 rfl ?_
  refine iq_iconst hS 7 J_HField_clear_d6 (v := 0) (by decide +kernel) rfl ?_
  refine iq_putI hS 10 J_HField_clear_d7 lf_2_31 (Or.inl rfl) rfl (ka_23 (lw_sI hM)) rfl ?_
  refine iq_aload_n hS 11 J_HField_clear_d10 l0 rfl ?_
  refine iq_iconst hS 12 J_HField_clear_d11 (v := (-1)) (by decide +kernel) rfl ?_
  refine iq_putI hS 15 J_HField_clear_d12 lf_2_34 (Or.inl rfl) rfl (ka_23 (lw_sI (lw_sI hM))) rfl ?_
  refine iq_aload_n hS 16 J_HField_clear_d15 l0 rfl ?_
  refine iq_iconst hS 17 J_HField_clear_d16 (v := 0) (by decide +kernel) rfl ?_
  refine iq_putZ hS 20 J_HField_clear_d17 lf_2_37 (Or.inl rfl) rfl (ka_23 (lw_sI (lw_sI (lw_sI hM)))) (Or.inl rfl) rfl ?_
  refine iq_aload_n hS 21 J_HField_clear_d20 l0 rfl ?_
  refine iq_iconst hS 22 J_HField_clear_d21 (v := 0) (by decide +kernel) rfl ?_
  refine iq_putZ hS 25 J_HField_clear_d22 lf_2_41 (Or.inl rfl) rfl (ka_23 (lw_sI (lw_sI (lw_sI (lw_sI hM))))) (Or.inl rfl) rfl ?_
  refine iq_aload_n hS 26 J_HField_clear_d25 l0 rfl ?_
  refine iq_iconst hS 27 J_HField_clear_d26 (v := 0) (by decide +kernel) rfl ?_
  refine iq_putI hS 30 J_HField_clear_d27 lf_2_44 (Or.inl rfl) rfl (ka_23 (lw_sI (lw_sI (lw_sI (lw_sI (lw_sI hM)))))) rfl ?_
  refine iq_aload_n hS 31 J_HField_clear_d30 l0 rfl ?_
  refine iq_iconst hS 32 J_HField_clear_d31 (v := 0) (by decide +kernel) rfl ?_
  refine iq_putI hS 35 J_HField_clear_d32 lf_2_47 (Or.inl rfl) rfl (ka_23 (lw_sI (lw_sI (lw_sI (lw_sI (lw_sI (lw_sI hM))))))) rfl ?_
  exact iq_ret J_HField_clear_d35 rfl ⟨rfl, (lw_sI (lw_sI (lw_sI (lw_sI (lw_sI (lw_sI (lw_sI hM))))))), ed_some h⟩
theorem f_HField_clear_fr {M : im_M} {r : im_M} (h : f_HField_clear M = some r) : fr 0 [(23, 0), (23, 1), (23, 2), (23, 4), (23, 5), (23, 6), (23, 8)] M r := by
  replace h : ed (f_HField_clear M) (fun x => x = r) := ⟨r, h, rfl⟩
  unfold f_HField_clear at h
  exact fr_retV h (fr_F (by decide) (fr_F (by decide) (fr_F (by decide) (fr_F (by decide) (fr_F (by decide) (fr_F (by decide) (fr_F (by decide) fr_refl)))))))
noncomputable def f_HSetter_beginLabel (M : im_M) : Option (im_M) := gd (inb 0 4) <| gd (inb 1 4) <| gd (inb 0 2) <| gd (inb 1 2) <| gd (inb 0 4) <| gd (inb 1 4) <| gd (inb 2 4) <| gd (inb 3 4) <| bd1 (f_HField_clear (im_setI (im_setI (im_setI (im_setI (im_setI (im_setI (im_setI (im_setI (im_setI (im_setI (im_setI M 15 8 1) 15 10 (im_i (im_setI M 15 8 1) 9 (Int32.toNatClampNeg 0))) 15 11 (im_i (im_setI (im_setI M 15 8 1) 15 10 (im_i (im_setI M 15 8 1) 9 (Int32.toNatClampNeg 0))) 9 (Int32.toNatClampNeg 1))) 15 12 1) 17 (Int32.toNatClampNeg 0) 0) 17 (Int32.toNatClampNeg 1) 0) 18 (Int32.toNatClampNeg 0) 0) 18 (Int32.toNatClampNeg 1) 1) 18 (Int32.toNatClampNeg 2) 1) 18 (Int32.toNatClampNeg 3) 0) 19 3 0)) fun (M1 : im_M) => some M1
theorem J_HSetter_beginLabel_d0 : decode J_HSetter_beginLabel.2.1 0 = .ok (.aload_n 0, 1) := by decide +kernel
theorem J_HSetter_beginLabel_d1 : decode J_HSetter_beginLabel.2.1 1 = .ok (.iconst 1, 1) := by decide +kernel
theorem J_HSetter_beginLabel_d2 : decode J_HSetter_beginLabel.2.1 2 = .ok (.putfield 62, 3) := by decide +kernel
theorem J_HSetter_beginLabel_d5 : decode J_HSetter_beginLabel.2.1 5 = .ok (.aload_n 0, 1) := by decide +kernel
theorem J_HSetter_beginLabel_d6 : decode J_HSetter_beginLabel.2.1 6 = .ok (.aload_n 0, 1) := by decide +kernel
theorem J_HSetter_beginLabel_d7 : decode J_HSetter_beginLabel.2.1 7 = .ok (.getfield 25, 3) := by decide +kernel
theorem J_HSetter_beginLabel_d10 : decode J_HSetter_beginLabel.2.1 10 = .ok (.getfield 131, 3) := by decide +kernel
theorem J_HSetter_beginLabel_d13 : decode J_HSetter_beginLabel.2.1 13 = .ok (.iconst 0, 1) := by decide +kernel
theorem J_HSetter_beginLabel_d14 : decode J_HSetter_beginLabel.2.1 14 = .ok (.iaload, 1) := by decide +kernel
theorem J_HSetter_beginLabel_d15 : decode J_HSetter_beginLabel.2.1 15 = .ok (.putfield 232, 3) := by decide +kernel
theorem J_HSetter_beginLabel_d18 : decode J_HSetter_beginLabel.2.1 18 = .ok (.aload_n 0, 1) := by decide +kernel
theorem J_HSetter_beginLabel_d19 : decode J_HSetter_beginLabel.2.1 19 = .ok (.aload_n 0, 1) := by decide +kernel
theorem J_HSetter_beginLabel_d20 : decode J_HSetter_beginLabel.2.1 20 = .ok (.getfield 25, 3) := by decide +kernel
theorem J_HSetter_beginLabel_d23 : decode J_HSetter_beginLabel.2.1 23 = .ok (.getfield 131, 3) := by decide +kernel
theorem J_HSetter_beginLabel_d26 : decode J_HSetter_beginLabel.2.1 26 = .ok (.iconst 1, 1) := by decide +kernel
theorem J_HSetter_beginLabel_d27 : decode J_HSetter_beginLabel.2.1 27 = .ok (.iaload, 1) := by decide +kernel
theorem J_HSetter_beginLabel_d28 : decode J_HSetter_beginLabel.2.1 28 = .ok (.putfield 235, 3) := by decide +kernel
theorem J_HSetter_beginLabel_d31 : decode J_HSetter_beginLabel.2.1 31 = .ok (.aload_n 0, 1) := by decide +kernel
theorem J_HSetter_beginLabel_d32 : decode J_HSetter_beginLabel.2.1 32 = .ok (.iconst 1, 1) := by decide +kernel
theorem J_HSetter_beginLabel_d33 : decode J_HSetter_beginLabel.2.1 33 = .ok (.putfield 162, 3) := by decide +kernel
theorem J_HSetter_beginLabel_d36 : decode J_HSetter_beginLabel.2.1 36 = .ok (.aload_n 0, 1) := by decide +kernel
theorem J_HSetter_beginLabel_d37 : decode J_HSetter_beginLabel.2.1 37 = .ok (.getfield 19, 3) := by decide +kernel
theorem J_HSetter_beginLabel_d40 : decode J_HSetter_beginLabel.2.1 40 = .ok (.iconst 0, 1) := by decide +kernel
theorem J_HSetter_beginLabel_d41 : decode J_HSetter_beginLabel.2.1 41 = .ok (.iconst 0, 1) := by decide +kernel
theorem J_HSetter_beginLabel_d42 : decode J_HSetter_beginLabel.2.1 42 = .ok (.iastore, 1) := by decide +kernel
theorem J_HSetter_beginLabel_d43 : decode J_HSetter_beginLabel.2.1 43 = .ok (.aload_n 0, 1) := by decide +kernel
theorem J_HSetter_beginLabel_d44 : decode J_HSetter_beginLabel.2.1 44 = .ok (.getfield 19, 3) := by decide +kernel
theorem J_HSetter_beginLabel_d47 : decode J_HSetter_beginLabel.2.1 47 = .ok (.iconst 1, 1) := by decide +kernel
theorem J_HSetter_beginLabel_d48 : decode J_HSetter_beginLabel.2.1 48 = .ok (.iconst 0, 1) := by decide +kernel
theorem J_HSetter_beginLabel_d49 : decode J_HSetter_beginLabel.2.1 49 = .ok (.iastore, 1) := by decide +kernel
theorem J_HSetter_beginLabel_d50 : decode J_HSetter_beginLabel.2.1 50 = .ok (.aload_n 0, 1) := by decide +kernel
theorem J_HSetter_beginLabel_d51 : decode J_HSetter_beginLabel.2.1 51 = .ok (.getfield 22, 3) := by decide +kernel
theorem J_HSetter_beginLabel_d54 : decode J_HSetter_beginLabel.2.1 54 = .ok (.iconst 0, 1) := by decide +kernel
theorem J_HSetter_beginLabel_d55 : decode J_HSetter_beginLabel.2.1 55 = .ok (.iconst 0, 1) := by decide +kernel
theorem J_HSetter_beginLabel_d56 : decode J_HSetter_beginLabel.2.1 56 = .ok (.iastore, 1) := by decide +kernel
theorem J_HSetter_beginLabel_d57 : decode J_HSetter_beginLabel.2.1 57 = .ok (.aload_n 0, 1) := by decide +kernel
theorem J_HSetter_beginLabel_d58 : decode J_HSetter_beginLabel.2.1 58 = .ok (.getfield 22, 3) := by decide +kernel
theorem J_HSetter_beginLabel_d61 : decode J_HSetter_beginLabel.2.1 61 = .ok (.iconst 1, 1) := by decide +kernel
theorem J_HSetter_beginLabel_d62 : decode J_HSetter_beginLabel.2.1 62 = .ok (.iconst 1, 1) := by decide +kernel
theorem J_HSetter_beginLabel_d63 : decode J_HSetter_beginLabel.2.1 63 = .ok (.iastore, 1) := by decide +kernel
theorem J_HSetter_beginLabel_d64 : decode J_HSetter_beginLabel.2.1 64 = .ok (.aload_n 0, 1) := by decide +kernel
theorem J_HSetter_beginLabel_d65 : decode J_HSetter_beginLabel.2.1 65 = .ok (.getfield 22, 3) := by decide +kernel
theorem J_HSetter_beginLabel_d68 : decode J_HSetter_beginLabel.2.1 68 = .ok (.iconst 2, 1) := by decide +kernel
theorem J_HSetter_beginLabel_d69 : decode J_HSetter_beginLabel.2.1 69 = .ok (.iconst 1, 1) := by decide +kernel
theorem J_HSetter_beginLabel_d70 : decode J_HSetter_beginLabel.2.1 70 = .ok (.iastore, 1) := by decide +kernel
theorem J_HSetter_beginLabel_d71 : decode J_HSetter_beginLabel.2.1 71 = .ok (.aload_n 0, 1) := by decide +kernel
theorem J_HSetter_beginLabel_d72 : decode J_HSetter_beginLabel.2.1 72 = .ok (.getfield 22, 3) := by decide +kernel
theorem J_HSetter_beginLabel_d75 : decode J_HSetter_beginLabel.2.1 75 = .ok (.iconst 3, 1) := by decide +kernel
theorem J_HSetter_beginLabel_d76 : decode J_HSetter_beginLabel.2.1 76 = .ok (.iconst 0, 1) := by decide +kernel
theorem J_HSetter_beginLabel_d77 : decode J_HSetter_beginLabel.2.1 77 = .ok (.iastore, 1) := by decide +kernel
theorem J_HSetter_beginLabel_d78 : decode J_HSetter_beginLabel.2.1 78 = .ok (.aload_n 0, 1) := by decide +kernel
theorem J_HSetter_beginLabel_d79 : decode J_HSetter_beginLabel.2.1 79 = .ok (.getfield 40, 3) := by decide +kernel
theorem J_HSetter_beginLabel_d82 : decode J_HSetter_beginLabel.2.1 82 = .ok (.iconst 0, 1) := by decide +kernel
theorem J_HSetter_beginLabel_d83 : decode J_HSetter_beginLabel.2.1 83 = .ok (.putfield 54, 3) := by decide +kernel
theorem J_HSetter_beginLabel_d86 : decode J_HSetter_beginLabel.2.1 86 = .ok (.aload_n 0, 1) := by decide +kernel
theorem J_HSetter_beginLabel_d87 : decode J_HSetter_beginLabel.2.1 87 = .ok (.getfield 44, 3) := by decide +kernel
theorem J_HSetter_beginLabel_d90 : decode J_HSetter_beginLabel.2.1 90 = .ok (.invokevirtual 222, 3) := by decide +kernel
theorem J_HSetter_beginLabel_d93 : decode J_HSetter_beginLabel.2.1 93 = .ok (.return_, 1) := by decide +kernel
theorem f_HSetter_beginLabel_ok {L : Nat} {xs : Nat → Int32} {dep : Nat} {w : Bool} {M : im_M} {Q : im_M → Prop} (hM : lw_S w M) (h : ed (f_HSetter_beginLabel M) Q) : ia (tb_G L xs) (dep + 1) J_HSetter_beginLabel (rwV w Q) (0, lv_args 0 [.ref 15], [], M) := by
  have hS : im_St (tb_G L xs) (dep + 1) J_HSetter_beginLabel (ia (tb_G L xs) (dep + 1) J_HSetter_beginLabel (rwV w Q)) := ia_St
  unfold f_HSetter_beginLabel at h
  have l0 : im_lk (lv_args 0 [.ref 15]) 0 = some (.ref 15) := rfl
  refine iq_aload_n hS 1 J_HSetter_beginLabel_d0 l0 rfl ?_
  refine iq_iconst hS 2 J_HSetter_beginLabel_d1 (v := 1) (by decide +kernel) rfl ?_
  refine iq_putZ hS 5 J_HSetter_beginLabel_d2 lf_8_62 (Or.inl rfl) rfl (ka_15 hM) (Or.inr rfl) rfl ?_
  refine iq_aload_n hS 6 J_HSetter_beginLabel_d5 l0 rfl ?_
  refine iq_aload_n hS 7 J_HSetter_beginLabel_d6 l0 rfl ?_
  refine iq_getR hS 10 J_HSetter_beginLabel_d7 lf_8_25 (Or.inl ⟨_, rfl⟩) (ka_15 (lw_sI hM)) (ra_15_0 (lw_sI hM)) rfl ?_
  refine iq_getR hS 13 J_HSetter_beginLabel_d10 lf_8_131 (Or.inr ⟨_, rfl⟩) (ka_1 (lw_sI hM)) (ra_1_9 (lw_sI hM)) rfl ?_
  refine iq_iconst hS 14 J_HSetter_beginLabel_d13 (v := 0) (by decide +kernel) rfl ?_
  obtain ⟨g14, h⟩ := ed_gd h
  refine iq_iaload hS 15 J_HSetter_beginLabel_d14 ⟨(ka_9 (lw_sI hM)).1, (ka_9 (lw_sI hM)).2, g14.1, ix_lt (kl_9 (lw_sI hM)) g14.2⟩ rfl ?_
  refine iq_putI hS 18 J_HSetter_beginLabel_d15 lf_8_232 (Or.inl rfl) rfl (ka_15 (lw_sI hM)) rfl ?_
  refine iq_aload_n hS 19 J_HSetter_beginLabel_d18 l0 rfl ?_
  refine iq_aload_n hS 20 J_HSetter_beginLabel_d19 l0 rfl ?_
  refine iq_getR hS 23 J_HSetter_beginLabel_d20 lf_8_25 (Or.inl ⟨_, rfl⟩) (ka_15 (lw_sI (lw_sI hM))) (ra_15_0 (lw_sI (lw_sI hM))) rfl ?_
  refine iq_getR hS 26 J_HSetter_beginLabel_d23 lf_8_131 (Or.inr ⟨_, rfl⟩) (ka_1 (lw_sI (lw_sI hM))) (ra_1_9 (lw_sI (lw_sI hM))) rfl ?_
  refine iq_iconst hS 27 J_HSetter_beginLabel_d26 (v := 1) (by decide +kernel) rfl ?_
  obtain ⟨g27, h⟩ := ed_gd h
  refine iq_iaload hS 28 J_HSetter_beginLabel_d27 ⟨(ka_9 (lw_sI (lw_sI hM))).1, (ka_9 (lw_sI (lw_sI hM))).2, g27.1, ix_lt (kl_9 (lw_sI (lw_sI hM))) g27.2⟩ rfl ?_
  refine iq_putI hS 31 J_HSetter_beginLabel_d28 lf_8_235 (Or.inl rfl) rfl (ka_15 (lw_sI (lw_sI hM))) rfl ?_
  refine iq_aload_n hS 32 J_HSetter_beginLabel_d31 l0 rfl ?_
  refine iq_iconst hS 33 J_HSetter_beginLabel_d32 (v := 1) (by decide +kernel) rfl ?_
  refine iq_putI hS 36 J_HSetter_beginLabel_d33 lf_8_162 (Or.inl rfl) rfl (ka_15 (lw_sI (lw_sI (lw_sI hM)))) rfl ?_
  refine iq_aload_n hS 37 J_HSetter_beginLabel_d36 l0 rfl ?_
  refine iq_getR hS 40 J_HSetter_beginLabel_d37 lf_8_19 (Or.inr ⟨_, rfl⟩) (ka_15 (lw_sI (lw_sI (lw_sI (lw_sI hM))))) (ra_15_13 (lw_sI (lw_sI (lw_sI (lw_sI hM))))) rfl ?_
  refine iq_iconst hS 41 J_HSetter_beginLabel_d40 (v := 0) (by decide +kernel) rfl ?_
  refine iq_iconst hS 42 J_HSetter_beginLabel_d41 (v := 0) (by decide +kernel) rfl ?_
  obtain ⟨g42, h⟩ := ed_gd h
  refine iq_iastore hS 43 J_HSetter_beginLabel_d42 ⟨(ka_17 (lw_sI (lw_sI (lw_sI (lw_sI hM))))).1, (ka_17 (lw_sI (lw_sI (lw_sI (lw_sI hM))))).2, g42.1, ix_lt (kl_17 (lw_sI (lw_sI (lw_sI (lw_sI hM))))) g42.2⟩ rfl ?_
  refine iq_aload_n hS 44 J_HSetter_beginLabel_d43 l0 rfl ?_
  refine iq_getR hS 47 J_HSetter_beginLabel_d44 lf_8_19 (Or.inr ⟨_, rfl⟩) (ka_15 (lw_sI (lw_sI (lw_sI (lw_sI (lw_sI hM)))))) (ra_15_13 (lw_sI (lw_sI (lw_sI (lw_sI (lw_sI hM)))))) rfl ?_
  refine iq_iconst hS 48 J_HSetter_beginLabel_d47 (v := 1) (by decide +kernel) rfl ?_
  refine iq_iconst hS 49 J_HSetter_beginLabel_d48 (v := 0) (by decide +kernel) rfl ?_
  obtain ⟨g49, h⟩ := ed_gd h
  refine iq_iastore hS 50 J_HSetter_beginLabel_d49 ⟨(ka_17 (lw_sI (lw_sI (lw_sI (lw_sI (lw_sI hM)))))).1, (ka_17 (lw_sI (lw_sI (lw_sI (lw_sI (lw_sI hM)))))).2, g49.1, ix_lt (kl_17 (lw_sI (lw_sI (lw_sI (lw_sI (lw_sI hM)))))) g49.2⟩ rfl ?_
  refine iq_aload_n hS 51 J_HSetter_beginLabel_d50 l0 rfl ?_
  refine iq_getR hS 54 J_HSetter_beginLabel_d51 lf_8_22 (Or.inr ⟨_, rfl⟩) (ka_15 (lw_sI (lw_sI (lw_sI (lw_sI (lw_sI (lw_sI hM))))))) (ra_15_14 (lw_sI (lw_sI (lw_sI (lw_sI (lw_sI (lw_sI hM))))))) rfl ?_
  refine iq_iconst hS 55 J_HSetter_beginLabel_d54 (v := 0) (by decide +kernel) rfl ?_
  refine iq_iconst hS 56 J_HSetter_beginLabel_d55 (v := 0) (by decide +kernel) rfl ?_
  obtain ⟨g56, h⟩ := ed_gd h
  refine iq_iastore hS 57 J_HSetter_beginLabel_d56 ⟨(ka_18 (lw_sI (lw_sI (lw_sI (lw_sI (lw_sI (lw_sI hM))))))).1, (ka_18 (lw_sI (lw_sI (lw_sI (lw_sI (lw_sI (lw_sI hM))))))).2, g56.1, ix_lt (kl_18 (lw_sI (lw_sI (lw_sI (lw_sI (lw_sI (lw_sI hM))))))) g56.2⟩ rfl ?_
  refine iq_aload_n hS 58 J_HSetter_beginLabel_d57 l0 rfl ?_
  refine iq_getR hS 61 J_HSetter_beginLabel_d58 lf_8_22 (Or.inr ⟨_, rfl⟩) (ka_15 (lw_sI (lw_sI (lw_sI (lw_sI (lw_sI (lw_sI (lw_sI hM)))))))) (ra_15_14 (lw_sI (lw_sI (lw_sI (lw_sI (lw_sI (lw_sI (lw_sI hM)))))))) rfl ?_
  refine iq_iconst hS 62 J_HSetter_beginLabel_d61 (v := 1) (by decide +kernel) rfl ?_
  refine iq_iconst hS 63 J_HSetter_beginLabel_d62 (v := 1) (by decide +kernel) rfl ?_
  obtain ⟨g63, h⟩ := ed_gd h
  refine iq_iastore hS 64 J_HSetter_beginLabel_d63 ⟨(ka_18 (lw_sI (lw_sI (lw_sI (lw_sI (lw_sI (lw_sI (lw_sI hM)))))))).1, (ka_18 (lw_sI (lw_sI (lw_sI (lw_sI (lw_sI (lw_sI (lw_sI hM)))))))).2, g63.1, ix_lt (kl_18 (lw_sI (lw_sI (lw_sI (lw_sI (lw_sI (lw_sI (lw_sI hM)))))))) g63.2⟩ rfl ?_
  refine iq_aload_n hS 65 J_HSetter_beginLabel_d64 l0 rfl ?_
  refine iq_getR hS 68 J_HSetter_beginLabel_d65 lf_8_22 (Or.inr ⟨_, rfl⟩) (ka_15 (lw_sI (lw_sI (lw_sI (lw_sI (lw_sI (lw_sI (lw_sI (lw_sI hM))))))))) (ra_15_14 (lw_sI (lw_sI (lw_sI (lw_sI (lw_sI (lw_sI (lw_sI (lw_sI hM))))))))) rfl ?_
  refine iq_iconst hS 69 J_HSetter_beginLabel_d68 (v := 2) (by decide +kernel) rfl ?_
  refine iq_iconst hS 70 J_HSetter_beginLabel_d69 (v := 1) (by decide +kernel) rfl ?_
  obtain ⟨g70, h⟩ := ed_gd h
  refine iq_iastore hS 71 J_HSetter_beginLabel_d70 ⟨(ka_18 (lw_sI (lw_sI (lw_sI (lw_sI (lw_sI (lw_sI (lw_sI (lw_sI hM))))))))).1, (ka_18 (lw_sI (lw_sI (lw_sI (lw_sI (lw_sI (lw_sI (lw_sI (lw_sI hM))))))))).2, g70.1, ix_lt (kl_18 (lw_sI (lw_sI (lw_sI (lw_sI (lw_sI (lw_sI (lw_sI (lw_sI hM))))))))) g70.2⟩ rfl ?_
  refine iq_aload_n hS 72 J_HSetter_beginLabel_d71 l0 rfl ?_
  refine iq_getR hS 75 J_HSetter_beginLabel_d72 lf_8_22 (Or.inr ⟨_, rfl⟩) (ka_15 (lw_sI (lw_sI (lw_sI (lw_sI (lw_sI (lw_sI (lw_sI (lw_sI (lw_sI hM)))))))))) (ra_15_14 (lw_sI (lw_sI (lw_sI (lw_sI (lw_sI (lw_sI (lw_sI (lw_sI (lw_sI hM)))))))))) rfl ?_
  refine iq_iconst hS 76 J_HSetter_beginLabel_d75 (v := 3) (by decide +kernel) rfl ?_
  refine iq_iconst hS 77 J_HSetter_beginLabel_d76 (v := 0) (by decide +kernel) rfl ?_
  obtain ⟨g77, h⟩ := ed_gd h
  refine iq_iastore hS 78 J_HSetter_beginLabel_d77 ⟨(ka_18 (lw_sI (lw_sI (lw_sI (lw_sI (lw_sI (lw_sI (lw_sI (lw_sI (lw_sI hM)))))))))).1, (ka_18 (lw_sI (lw_sI (lw_sI (lw_sI (lw_sI (lw_sI (lw_sI (lw_sI (lw_sI hM)))))))))).2, g77.1, ix_lt (kl_18 (lw_sI (lw_sI (lw_sI (lw_sI (lw_sI (lw_sI (lw_sI (lw_sI (lw_sI hM)))))))))) g77.2⟩ rfl ?_
  refine iq_aload_n hS 79 J_HSetter_beginLabel_d78 l0 rfl ?_
  refine iq_getR hS 82 J_HSetter_beginLabel_d79 lf_8_40 (Or.inl ⟨_, rfl⟩) (ka_15 (lw_sI (lw_sI (lw_sI (lw_sI (lw_sI (lw_sI (lw_sI (lw_sI (lw_sI (lw_sI hM))))))))))) (ra_15_2 (lw_sI (lw_sI (lw_sI (lw_sI (lw_sI (lw_sI (lw_sI (lw_sI (lw_sI (lw_sI hM))))))))))) rfl ?_
  refine iq_iconst hS 83 J_HSetter_beginLabel_d82 (v := 0) (by decide +kernel) rfl ?_
  refine iq_putI hS 86 J_HSetter_beginLabel_d83 lf_8_54 (Or.inl rfl) rfl (ka_19 (lw_sI (lw_sI (lw_sI (lw_sI (lw_sI (lw_sI (lw_sI (lw_sI (lw_sI (lw_sI hM))))))))))) rfl ?_
  refine iq_aload_n hS 87 J_HSetter_beginLabel_d86 l0 rfl ?_
  refine iq_getR hS 90 J_HSetter_beginLabel_d87 lf_8_44 (Or.inl ⟨_, rfl⟩) (ka_15 (lw_sI (lw_sI (lw_sI (lw_sI (lw_sI (lw_sI (lw_sI (lw_sI (lw_sI (lw_sI (lw_sI hM)))))))))))) (ra_15_3 (lw_sI (lw_sI (lw_sI (lw_sI (lw_sI (lw_sI (lw_sI (lw_sI (lw_sI (lw_sI (lw_sI hM)))))))))))) rfl ?_
  obtain ⟨Q1, hQ1, h⟩ := bd1_ed h
  refine iq_cwV hS 93 J_HSetter_beginLabel_d90 rfl (pr_inst (vs := []) lc_8_222 lT_73 rfl rfl (by decide) (by decide) rfl (Nat.le_of_ble_eq_true rfl) (Nat.le_of_ble_eq_true rfl) (fun _ => Or.inl (pr_b (ka_23 (lw_sI (lw_sI (lw_sI (lw_sI (lw_sI (lw_sI (lw_sI (lw_sI (lw_sI (lw_sI (lw_sI hM)))))))))))) (by decide) rfl))) (f_HField_clear_ok (dep := dep + 0) (lw_sI (lw_sI (lw_sI (lw_sI (lw_sI (lw_sI (lw_sI (lw_sI (lw_sI (lw_sI (lw_sI hM))))))))))) h) rfl ?_
  intro M1 hM1 h
  replace h := hQ1 _ h
  exact iq_ret J_HSetter_beginLabel_d93 rfl ⟨rfl, hM1, ed_some h⟩
theorem f_HSetter_beginLabel_fr {M : im_M} {r : im_M} (h : f_HSetter_beginLabel M = some r) : fr 393216 [(15, 8), (15, 10), (15, 11), (15, 12), (19, 3), (23, 0), (23, 1), (23, 2), (23, 4), (23, 5), (23, 6), (23, 8)] M r := by
  replace h : ed (f_HSetter_beginLabel M) (fun x => x = r) := ⟨r, h, rfl⟩
  unfold f_HSetter_beginLabel at h
  obtain ⟨g14, h⟩ := ed_gd h
  obtain ⟨g27, h⟩ := ed_gd h
  obtain ⟨g42, h⟩ := ed_gd h
  obtain ⟨g49, h⟩ := ed_gd h
  obtain ⟨g56, h⟩ := ed_gd h
  obtain ⟨g63, h⟩ := ed_gd h
  obtain ⟨g70, h⟩ := ed_gd h
  obtain ⟨g77, h⟩ := ed_gd h
  obtain ⟨Q1, hQ1, h⟩ := bd1_ed h
  obtain ⟨M1, e1, h⟩ := h
  replace h := hQ1 _ h
  exact fr_retV h (fr_tr (fr_mono (by decide) (by decide +kernel) (f_HField_clear_fr e1)) (fr_F (by decide) (fr_I (by decide) (fr_I (by decide) (fr_I (by decide) (fr_I (by decide) (fr_I (by decide) (fr_I (by decide) (fr_F (by decide) (fr_F (by decide) (fr_F (by decide) (fr_F (by decide) fr_refl))))))))))))
noncomputable def f_HTape_keepVariable (p0 : Int32) (M : im_M) : Option (im_M) := gd (cpy 0 200 (p0 * 200) 2000 (im_i M 1 11)) <| gd (inb p0 10) <| some (im_setI (im_setA M 5 (va_cpy (im_i M 10) (im_i M 5) (Int32.toNatClampNeg 0) (Int32.toNatClampNeg (p0 * 200)) (Int32.toNatClampNeg (im_i M 1 11)))) 6 (Int32.toNatClampNeg p0) (im_i (im_setA M 5 (va_cpy (im_i M 10) (im_i M 5) (Int32.toNatClampNeg 0) (Int32.toNatClampNeg (p0 * 200)) (Int32.toNatClampNeg (im_i M 1 11)))) 1 11))
theorem J_HTape_keepVariable_d0 : decode J_HTape_keepVariable.2.1 0 = .ok (.aload_n 0, 1) := by decide +kernel
theorem J_HTape_keepVariable_d1 : decode J_HTape_keepVariable.2.1 1 = .ok (.getfield 37, 3) := by decide +kernel
theorem J_HTape_keepVariable_d4 : decode J_HTape_keepVariable.2.1 4 = .ok (.iconst 0, 1) := by decide +kernel
theorem J_HTape_keepVariable_d5 : decode J_HTape_keepVariable.2.1 5 = .ok (.aload_n 0, 1) := by decide +kernel
theorem J_HTape_keepVariable_d6 : decode J_HTape_keepVariable.2.1 6 = .ok (.getfield 22, 3) := by decide +kernel
theorem J_HTape_keepVariable_d9 : decode J_HTape_keepVariable.2.1 9 = .ok (.iload_n 1, 1) := by decide +kernel
theorem J_HTape_keepVariable_d10 : decode J_HTape_keepVariable.2.1 10 = .ok (.sipush 200, 3) := by decide +kernel
theorem J_HTape_keepVariable_d13 : decode J_HTape_keepVariable.2.1 13 = .ok (.imul, 1) := by decide +kernel
theorem J_HTape_keepVariable_d14 : decode J_HTape_keepVariable.2.1 14 = .ok (.aload_n 0, 1) := by decide +kernel
theorem J_HTape_keepVariable_d15 : decode J_HTape_keepVariable.2.1 15 = .ok (.getfield 61, 3) := by decide +kernel
theorem J_HTape_keepVariable_d18 : decode J_HTape_keepVariable.2.1 18 = .ok (.invokestatic 71, 3) := by decide +kernel
theorem J_HTape_keepVariable_d21 : decode J_HTape_keepVariable.2.1 21 = .ok (.aload_n 0, 1) := by decide +kernel
theorem J_HTape_keepVariable_d22 : decode J_HTape_keepVariable.2.1 22 = .ok (.getfield 25, 3) := by decide +kernel
theorem J_HTape_keepVariable_d25 : decode J_HTape_keepVariable.2.1 25 = .ok (.iload_n 1, 1) := by decide +kernel
theorem J_HTape_keepVariable_d26 : decode J_HTape_keepVariable.2.1 26 = .ok (.aload_n 0, 1) := by decide +kernel
theorem J_HTape_keepVariable_d27 : decode J_HTape_keepVariable.2.1 27 = .ok (.getfield 61, 3) := by decide +kernel
theorem J_HTape_keepVariable_d30 : decode J_HTape_keepVariable.2.1 30 = .ok (.iastore, 1) := by decide +kernel
theorem J_HTape_keepVariable_d31 : decode J_HTape_keepVariable.2.1 31 = .ok (.return_, 1) := by decide +kernel
theorem f_HTape_keepVariable_ok {L : Nat} {xs : Nat → Int32} {dep : Nat} {w : Bool} {p0 : Int32} {M : im_M} {Q : im_M → Prop} (hM : lw_S w M) (h : ed (f_HTape_keepVariable p0 M) Q) : ia (tb_G L xs) dep J_HTape_keepVariable (rwV w Q) (0, lv_args 0 [.ref 1, .int p0], [], M) := by
  have hS : im_St (tb_G L xs) dep J_HTape_keepVariable (ia (tb_G L xs) dep J_HTape_keepVariable (rwV w Q)) := ia_St
  unfold f_HTape_keepVariable at h
  have l0 : im_lk (lv_args 0 [.ref 1, .int p0]) 0 = some (.ref 1) := rfl
  have l1 : im_lk (lv_args 0 [.ref 1, .int p0]) 1 = some (.int p0) := rfl
  refine iq_aload_n hS 1 J_HTape_keepVariable_d0 l0 rfl ?_
  refine iq_getR hS 4 J_HTape_keepVariable_d1 lf_10_37 (Or.inr ⟨_, rfl⟩) (ka_1 hM) (ra_1_10 hM) rfl ?_
  refine iq_iconst hS 5 J_HTape_keepVariable_d4 (v := 0) (by decide +kernel) rfl ?_
  refine iq_aload_n hS 6 J_HTape_keepVariable_d5 l0 rfl ?_
  refine iq_getR hS 9 J_HTape_keepVariable_d6 lf_10_22 (Or.inr ⟨_, rfl⟩) (ka_1 hM) (ra_1_4 hM) rfl ?_
  refine iq_iload_n hS 10 J_HTape_keepVariable_d9 l1 rfl ?_
  refine iq_sipush hS 13 J_HTape_keepVariable_d10 (v := 200) (by decide +kernel) rfl ?_
  refine iq_imul hS 14 J_HTape_keepVariable_d13 rfl ?_
  refine iq_aload_n hS 15 J_HTape_keepVariable_d14 l0 rfl ?_
  refine iq_getI hS 18 J_HTape_keepVariable_d15 lf_10_61 (Or.inl rfl) (ka_1 hM) rfl ?_
  obtain ⟨g18, h⟩ := ed_gd h
  refine iq_cpy hS 21 J_HTape_keepVariable_d18 (ga_of (by decide +kernel)) (ka_5 hM) (ka_10 hM) (by decide) (kl_10 hM) (kl_5 hM) g18 (Nat.le_of_ble_eq_true rfl) rfl ?_
  refine iq_aload_n hS 22 J_HTape_keepVariable_d21 l0 rfl ?_
  refine iq_getR hS 25 J_HTape_keepVariable_d22 lf_10_25 (Or.inr ⟨_, rfl⟩) (ka_1 (lw_sA hM)) (ra_1_5 (lw_sA hM)) rfl ?_
  refine iq_iload_n hS 26 J_HTape_keepVariable_d25 l1 rfl ?_
  refine iq_aload_n hS 27 J_HTape_keepVariable_d26 l0 rfl ?_
  refine iq_getI hS 30 J_HTape_keepVariable_d27 lf_10_61 (Or.inl rfl) (ka_1 (lw_sA hM)) rfl ?_
  obtain ⟨g30, h⟩ := ed_gd h
  refine iq_iastore hS 31 J_HTape_keepVariable_d30 ⟨(ka_6 (lw_sA hM)).1, (ka_6 (lw_sA hM)).2, g30.1, ix_lt (kl_6 (lw_sA hM)) g30.2⟩ rfl ?_
  exact iq_ret J_HTape_keepVariable_d31 rfl ⟨rfl, (lw_sI (lw_sA hM)), ed_some h⟩
theorem f_HTape_keepVariable_fr {p0 : Int32} {M : im_M} {r : im_M} (h : f_HTape_keepVariable p0 M = some r) : fr 96 [] M r := by
  replace h : ed (f_HTape_keepVariable p0 M) (fun x => x = r) := ⟨r, h, rfl⟩
  unfold f_HTape_keepVariable at h
  obtain ⟨g18, h⟩ := ed_gd h
  obtain ⟨g30, h⟩ := ed_gd h
  exact fr_retV h (fr_I (by decide) (fr_A (by decide) fr_refl))
noncomputable def f_HOrders_value (p0 : Int32) (p1 : Int32) (M : im_M) : Option (Int32) := gd (inb ((p0 * 14) + p1) 1960) <| some (im_i M 21 (Int32.toNatClampNeg ((p0 * 14) + p1)))
theorem f_HOrders_value_ok {L : Nat} {xs : Nat → Int32} {dep : Nat} {w : Bool} {p0 : Int32} {p1 : Int32} {M : im_M} {Q : Int32 → Prop} (hM : lw_S w M) (h : ed (f_HOrders_value p0 p1 M) Q) : ia (tb_G L xs) dep J_HOrders_value (rpI M Q) (0, lv_args 0 [.ref 19, .int p0, .int p1], [], M) := by
  have hS : im_St (tb_G L xs) dep J_HOrders_value (ia (tb_G L xs) dep J_HOrders_value (rpI M Q)) := ia_St
  unfold f_HOrders_value at h
  have l0 : im_lk (lv_args 0 [.ref 19, .int p0, .int p1]) 0 = some (.ref 19) := rfl
  have l1 : im_lk (lv_args 0 [.ref 19, .int p0, .int p1]) 1 = some (.int p0) := rfl
  have l2 : im_lk (lv_args 0 [.ref 19, .int p0, .int p1]) 2 = some (.int p1) := rfl
  refine iq_aload_n hS 1 J_HOrders_value_d0 l0 rfl ?_
  refine iq_getR hS 4 J_HOrders_value_d1 lf_5_13 (Or.inr ⟨_, rfl⟩) (ka_19 hM) (ra_19_0 hM) rfl ?_
  refine iq_iload_n hS 5 J_HOrders_value_d4 l1 rfl ?_
  refine iq_bipush hS 7 J_HOrders_value_d5 (v := 14) (by decide +kernel) rfl ?_
  refine iq_imul hS 8 J_HOrders_value_d7 rfl ?_
  refine iq_iload_n hS 9 J_HOrders_value_d8 l2 rfl ?_
  refine iq_iadd hS 10 J_HOrders_value_d9 rfl ?_
  obtain ⟨g10, h⟩ := ed_gd h
  refine iq_iaload hS 11 J_HOrders_value_d10 ⟨(ka_21 hM).1, (ka_21 hM).2, g10.1, ix_lt (kl_21 hM) g10.2⟩ rfl ?_
  exact iq_iret J_HOrders_value_d11 rfl rfl ⟨_, rfl, rfl, ed_some h⟩
noncomputable def f_Math_floorMod (p0 : Int64) (p1 : Int64) (M : im_M) : Option (Int64) := gd (¬ p1 = (0 : Int64)) <| if 0 ≤ (lg_cmp (p0 ^^^ p1) 0) then some (p0 - p0 / p1 * p1) else if (lg_cmp (p0 - p0 / p1 * p1) 0) = 0 then some (p0 - p0 / p1 * p1) else some ((p0 - p0 / p1 * p1) + p1)
theorem J_Math_floorMod_d0 : decode J_Math_floorMod.2.1 0 = .ok (.lload_n 0, 1) := by decide +kernel
theorem J_Math_floorMod_d1 : decode J_Math_floorMod.2.1 1 = .ok (.lload_n 2, 1) := by decide +kernel
theorem J_Math_floorMod_d2 : decode J_Math_floorMod.2.1 2 = .ok (.lrem, 1) := by decide +kernel
theorem J_Math_floorMod_d3 : decode J_Math_floorMod.2.1 3 = .ok (.lstore 4, 2) := by decide +kernel
theorem J_Math_floorMod_d5 : decode J_Math_floorMod.2.1 5 = .ok (.lload_n 0, 1) := by decide +kernel
theorem J_Math_floorMod_d6 : decode J_Math_floorMod.2.1 6 = .ok (.lload_n 2, 1) := by decide +kernel
theorem J_Math_floorMod_d7 : decode J_Math_floorMod.2.1 7 = .ok (.lxor, 1) := by decide +kernel
theorem J_Math_floorMod_d8 : decode J_Math_floorMod.2.1 8 = .ok (.lconst 0, 1) := by decide +kernel
theorem J_Math_floorMod_d9 : decode J_Math_floorMod.2.1 9 = .ok (.lcmp, 1) := by decide +kernel
theorem J_Math_floorMod_d10 : decode J_Math_floorMod.2.1 10 = .ok (.ifCond .ge 15, 3) := by decide +kernel
theorem J_Math_floorMod_d13 : decode J_Math_floorMod.2.1 13 = .ok (.lload 4, 2) := by decide +kernel
theorem J_Math_floorMod_d15 : decode J_Math_floorMod.2.1 15 = .ok (.lconst 0, 1) := by decide +kernel
theorem J_Math_floorMod_d16 : decode J_Math_floorMod.2.1 16 = .ok (.lcmp, 1) := by decide +kernel
theorem J_Math_floorMod_d17 : decode J_Math_floorMod.2.1 17 = .ok (.ifCond .eq 8, 3) := by decide +kernel
theorem J_Math_floorMod_d20 : decode J_Math_floorMod.2.1 20 = .ok (.lload 4, 2) := by decide +kernel
theorem J_Math_floorMod_d22 : decode J_Math_floorMod.2.1 22 = .ok (.lload_n 2, 1) := by decide +kernel
theorem J_Math_floorMod_d23 : decode J_Math_floorMod.2.1 23 = .ok (.ladd, 1) := by decide +kernel
theorem J_Math_floorMod_d24 : decode J_Math_floorMod.2.1 24 = .ok (.lreturn, 1) := by decide +kernel
theorem J_Math_floorMod_d25 : decode J_Math_floorMod.2.1 25 = .ok (.lload 4, 2) := by decide +kernel
theorem J_Math_floorMod_d27 : decode J_Math_floorMod.2.1 27 = .ok (.lreturn, 1) := by decide +kernel
theorem f_Math_floorMod_ok {L : Nat} {xs : Nat → Int32} {dep : Nat} {w : Bool} {p0 : Int64} {p1 : Int64} {M : im_M} {Q : Int64 → Prop} (hM : lw_S w M) (h : ed (f_Math_floorMod p0 p1 M) Q) : ia (tb_G L xs) dep J_Math_floorMod (rpL M Q) (0, lv_args 0 [.long p0, .long p1], [], M) := by
  have hS : im_St (tb_G L xs) dep J_Math_floorMod (ia (tb_G L xs) dep J_Math_floorMod (rpL M Q)) := ia_St
  unfold f_Math_floorMod at h
  have l0 : im_lk (lv_args 0 [.long p0, .long p1]) 0 = some (.long p0) := rfl
  have l2 : im_lk (lv_args 0 [.long p0, .long p1]) 2 = some (.long p1) := rfl
  refine iq_lload_n hS 1 J_Math_floorMod_d0 l0 rfl ?_
  refine iq_lload_n hS 2 J_Math_floorMod_d1 l2 rfl ?_
  obtain ⟨g2, h⟩ := ed_gd h
  refine iq_lrem hS 3 J_Math_floorMod_d2 g2 rfl ?_
  refine iq_lstore hS 5 J_Math_floorMod_d3 (by decide) rfl ?_
  refine iq_lload_n hS 6 J_Math_floorMod_d5 (lk_2l l0 (by decide) (by decide) (by decide)) rfl ?_
  refine iq_lload_n hS 7 J_Math_floorMod_d6 (lk_2l l2 (by decide) (by decide) (by decide)) rfl ?_
  refine iq_lxor hS 8 J_Math_floorMod_d7 rfl ?_
  refine iq_lconst hS 9 J_Math_floorMod_d8 (v := 0) (by decide +kernel) rfl ?_
  refine iq_lcmp hS 10 J_Math_floorMod_d9 rfl ?_
  refine iq_if_ge hS 13 J_Math_floorMod_d10 (t := 25) rfl (fun q10 => ?_) rfl (fun q10 => ?_)
  · replace h := ed_pos q10 h
    refine iq_lload hS 27 J_Math_floorMod_d25 lk_2s rfl ?_
    exact iq_lret J_Math_floorMod_d27 rfl ⟨_, rfl, rfl, ed_some h⟩
  · replace h := ed_neg q10 h
    refine iq_lload hS 15 J_Math_floorMod_d13 lk_2s rfl ?_
    refine iq_lconst hS 16 J_Math_floorMod_d15 (v := 0) (by decide +kernel) rfl ?_
    refine iq_lcmp hS 17 J_Math_floorMod_d16 rfl ?_
    refine iq_if_eq hS 20 J_Math_floorMod_d17 (t := 25) rfl (fun q17 => ?_) rfl (fun q17 => ?_)
    · replace h := ed_pos q17 h
      refine iq_lload hS 27 J_Math_floorMod_d25 lk_2s rfl ?_
      exact iq_lret J_Math_floorMod_d27 rfl ⟨_, rfl, rfl, ed_some h⟩
    · replace h := ed_neg q17 h
      refine iq_lload hS 22 J_Math_floorMod_d20 lk_2s rfl ?_
      refine iq_lload_n hS 23 J_Math_floorMod_d22 (lk_2l l2 (by decide) (by decide) (by decide)) rfl ?_
      refine iq_ladd hS 24 J_Math_floorMod_d23 rfl ?_
      exact iq_lret J_Math_floorMod_d24 rfl ⟨_, rfl, rfl, ed_some h⟩
