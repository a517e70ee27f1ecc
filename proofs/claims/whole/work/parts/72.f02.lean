/-! METHODS AS FUNCTIONS -/
noncomputable def f_HOrders_number (p0 : Int32) (p1 : Int32) (p2 : Int32) (p3 : Int32) (M : im_M) : Option (im_M) := gd (inb ((p0 * 14) + 5) 1960) <| gd (inb ((p0 * 14) + 6) 1960) <| gd (inb ((p0 * 14) + 7) 1960) <| some (im_setI (im_setI (im_setI M 21 (Int32.toNatClampNeg ((p0 * 14) + 5)) p1) 21 (Int32.toNatClampNeg ((p0 * 14) + 6)) p2) 21 (Int32.toNatClampNeg ((p0 * 14) + 7)) p3)
theorem J_HOrders_number_d0 : decode J_HOrders_number.2.1 0 = .ok (.aload_n 0, 1) := by decide +kernel
theorem J_HOrders_number_d1 : decode J_HOrders_number.2.1 1 = .ok (.getfield 13, 3) := by decide +kernel
theorem J_HOrders_number_d4 : decode J_HOrders_number.2.1 4 = .ok (.iload_n 1, 1) := by decide +kernel
theorem J_HOrders_number_d5 : decode J_HOrders_number.2.1 5 = .ok (.bipush 14, 2) := by decide +kernel
theorem J_HOrders_number_d7 : decode J_HOrders_number.2.1 7 = .ok (.imul, 1) := by decide +kernel
theorem J_HOrders_number_d8 : decode J_HOrders_number.2.1 8 = .ok (.iconst 5, 1) := by decide +kernel
theorem J_HOrders_number_d9 : decode J_HOrders_number.2.1 9 = .ok (.iadd, 1) := by decide +kernel
theorem J_HOrders_number_d10 : decode J_HOrders_number.2.1 10 = .ok (.iload_n 2, 1) := by decide +kernel
theorem J_HOrders_number_d11 : decode J_HOrders_number.2.1 11 = .ok (.iastore, 1) := by decide +kernel
theorem J_HOrders_number_d12 : decode J_HOrders_number.2.1 12 = .ok (.aload_n 0, 1) := by decide +kernel
theorem J_HOrders_number_d13 : decode J_HOrders_number.2.1 13 = .ok (.getfield 13, 3) := by decide +kernel
theorem J_HOrders_number_d16 : decode J_HOrders_number.2.1 16 = .ok (.iload_n 1, 1) := by decide +kernel
theorem J_HOrders_number_d17 : decode J_HOrders_number.2.1 17 = .ok (.bipush 14, 2) := by decide +kernel
theorem J_HOrders_number_d19 : decode J_HOrders_number.2.1 19 = .ok (.imul, 1) := by decide +kernel
theorem J_HOrders_number_d20 : decode J_HOrders_number.2.1 20 = .ok (.bipush 6, 2) := by decide +kernel
theorem J_HOrders_number_d22 : decode J_HOrders_number.2.1 22 = .ok (.iadd, 1) := by decide +kernel
theorem J_HOrders_number_d23 : decode J_HOrders_number.2.1 23 = .ok (.iload_n 3, 1) := by decide +kernel
theorem J_HOrders_number_d24 : decode J_HOrders_number.2.1 24 = .ok (.iastore, 1) := by decide +kernel
theorem J_HOrders_number_d25 : decode J_HOrders_number.2.1 25 = .ok (.aload_n 0, 1) := by decide +kernel
theorem J_HOrders_number_d26 : decode J_HOrders_number.2.1 26 = .ok (.getfield 13, 3) := by decide +kernel
theorem J_HOrders_number_d29 : decode J_HOrders_number.2.1 29 = .ok (.iload_n 1, 1) := by decide +kernel
theorem J_HOrders_number_d30 : decode J_HOrders_number.2.1 30 = .ok (.bipush 14, 2) := by decide +kernel
theorem J_HOrders_number_d32 : decode J_HOrders_number.2.1 32 = .ok (.imul, 1) := by decide +kernel
theorem J_HOrders_number_d33 : decode J_HOrders_number.2.1 33 = .ok (.bipush 7, 2) := by decide +kernel
theorem J_HOrders_number_d35 : decode J_HOrders_number.2.1 35 = .ok (.iadd, 1) := by decide +kernel
theorem J_HOrders_number_d36 : decode J_HOrders_number.2.1 36 = .ok (.iload 4, 2) := by decide +kernel
theorem J_HOrders_number_d38 : decode J_HOrders_number.2.1 38 = .ok (.iastore, 1) := by decide +kernel
theorem J_HOrders_number_d39 : decode J_HOrders_number.2.1 39 = .ok (.return_, 1) := by decide +kernel
theorem f_HOrders_number_ok {L : Nat} {xs : Nat → Int32} {dep : Nat} {w : Bool} {p0 : Int32} {p1 : Int32} {p2 : Int32} {p3 : Int32} {M : im_M} {Q : im_M → Prop} (hM : lw_S w M) (h : ed (f_HOrders_number p0 p1 p2 p3 M) Q) : ia (tb_G L xs) dep J_HOrders_number (rwV w Q) (0, lv_args 0 [.ref 19, .int p0, .int p1, .int p2, .int p3], [], M) := by
  have hS : im_St (tb_G L xs) dep J_HOrders_number (ia (tb_G L xs) dep J_HOrders_number (rwV w Q)) := ia_St
  unfold f_HOrders_number at h
  have l0 : im_lk (lv_args 0 [.ref 19, .int p0, .int p1, .int p2, .int p3]) 0 = some (.ref 19) := rfl
  have l1 : im_lk (lv_args 0 [.ref 19, .int p0, .int p1, .int p2, .int p3]) 1 = some (.int p0) := rfl
  have l2 : im_lk (lv_args 0 [.ref 19, .int p0, .int p1, .int p2, .int p3]) 2 = some (.int p1) := rfl
  have l3 : im_lk (lv_args 0 [.ref 19, .int p0, .int p1, .int p2, .int p3]) 3 = some (.int p2) := rfl
  have l4 : im_lk (lv_args 0 [.ref 19, .int p0, .int p1, .int p2, .int p3]) 4 = some (.int p3) := rfl
  refine iq_aload_n hS 1 J_HOrders_number_d0 l0 rfl ?_
  refine iq_getR hS 4 J_HOrders_number_d1 lf_5_13 (Or.inr ⟨_, rfl⟩) (ka_19 hM) (ra_19_0 hM) rfl ?_
  refine iq_iload_n hS 5 J_HOrders_number_d4 l1 rfl ?_
  refine iq_bipush hS 7 J_HOrders_number_d5 (v := 14) (by decide +kernel) rfl ?_
  refine iq_imul hS 8 J_HOrders_number_d7 rfl ?_
  refine iq_iconst hS 9 J_HOrders_number_d8 (v := 5) (by decide +kernel) rfl ?_
  refine iq_iadd hS 10 J_HOrders_number_d9 rfl ?_
  refine iq_iload_n hS 11 J_HOrders_number_d10 l2 rfl ?_
  obtain ⟨g11, h⟩ := ed_gd h
  refine iq_iastore hS 12 J_HOrders_number_d11 ⟨(ka_21 hM).1, (ka_21 hM).2, g11.1, ix_lt (kl_21 hM) g11.2⟩ rfl ?_
  refine iq_aload_n hS 13 J_HOrders_number_d12 l0 rfl ?_
  refine iq_getR hS 16 J_HOrders_number_d13 lf_5_13 (Or.inr ⟨_, rfl⟩) (ka_19 hM) (ra_19_0 hM) rfl ?_
  refine iq_iload_n hS 17 J_HOrders_number_d16 l1 rfl ?_
  refine iq_bipush hS 19 J_HOrders_number_d17 (v := 14) (by decide +kernel) rfl ?_
  refine iq_imul hS 20 J_HOrders_number_d19 rfl ?_
  refine iq_bipush hS 22 J_HOrders_number_d20 (v := 6) (by decide +kernel) rfl ?_
  refine iq_iadd hS 23 J_HOrders_number_d22 rfl ?_
  refine iq_iload_n hS 24 J_HOrders_number_d23 l3 rfl ?_
  obtain ⟨g24, h⟩ := ed_gd h
  refine iq_iastore hS 25 J_HOrders_number_d24 ⟨(ka_21 hM).1, (ka_21 hM).2, g24.1, ix_lt (kl_21 hM) g24.2⟩ rfl ?_
  refine iq_aload_n hS 26 J_HOrders_number_d25 l0 rfl ?_
  refine iq_getR hS 29 J_HOrders_number_d26 lf_5_13 (Or.inr ⟨_, rfl⟩) (ka_19 hM) (ra_19_0 hM) rfl ?_
  refine iq_iload_n hS 30 J_HOrders_number_d29 l1 rfl ?_
  refine iq_bipush hS 32 J_HOrders_number_d30 (v := 14) (by decide +kernel) rfl ?_
  refine iq_imul hS 33 J_HOrders_number_d32 rfl ?_
  refine iq_bipush hS 35 J_HOrders_number_d33 (v := 7) (by decide +kernel) rfl ?_
  refine iq_iadd hS 36 J_HOrders_number_d35 rfl ?_
  refine iq_iload hS 38 J_HOrders_number_d36 l4 rfl ?_
  obtain ⟨g38, h⟩ := ed_gd h
  refine iq_iastore hS 39 J_HOrders_number_d38 ⟨(ka_21 hM).1, (ka_21 hM).2, g38.1, ix_lt (kl_21 hM) g38.2⟩ rfl ?_
  exact iq_ret J_HOrders_number_d39 rfl ⟨rfl, hM, ed_some h⟩
noncomputable def f_HOrders_slice (p0 : Int32) (p1 : Int32) (p2 : Int32) (p3 : Int32) (M : im_M) : Option (im_M) := gd (inb ((p0 * 14) + 10) 1960) <| gd (inb ((p0 * 14) + 9) 1960) <| gd (inb ((p0 * 14) + 8) 1960) <| some (im_setI (im_setI (im_setI M 21 (Int32.toNatClampNeg ((p0 * 14) + 10)) p1) 21 (Int32.toNatClampNeg ((p0 * 14) + 9)) p2) 21 (Int32.toNatClampNeg ((p0 * 14) + 8)) p3)
theorem J_HOrders_slice_d0 : decode J_HOrders_slice.2.1 0 = .ok (.aload_n 0, 1) := by decide +kernel
theorem J_HOrders_slice_d1 : decode J_HOrders_slice.2.1 1 = .ok (.getfield 13, 3) := by decide +kernel
theorem J_HOrders_slice_d4 : decode J_HOrders_slice.2.1 4 = .ok (.iload_n 1, 1) := by decide +kernel
theorem J_HOrders_slice_d5 : decode J_HOrders_slice.2.1 5 = .ok (.bipush 14, 2) := by decide +kernel
theorem J_HOrders_slice_d7 : decode J_HOrders_slice.2.1 7 = .ok (.imul, 1) := by decide +kernel
theorem J_HOrders_slice_d8 : decode J_HOrders_slice.2.1 8 = .ok (.bipush 10, 2) := by decide +kernel
theorem J_HOrders_slice_d10 : decode J_HOrders_slice.2.1 10 = .ok (.iadd, 1) := by decide +kernel
theorem J_HOrders_slice_d11 : decode J_HOrders_slice.2.1 11 = .ok (.iload_n 2, 1) := by decide +kernel
theorem J_HOrders_slice_d12 : decode J_HOrders_slice.2.1 12 = .ok (.iastore, 1) := by decide +kernel
theorem J_HOrders_slice_d13 : decode J_HOrders_slice.2.1 13 = .ok (.aload_n 0, 1) := by decide +kernel
theorem J_HOrders_slice_d14 : decode J_HOrders_slice.2.1 14 = .ok (.getfield 13, 3) := by decide +kernel
theorem J_HOrders_slice_d17 : decode J_HOrders_slice.2.1 17 = .ok (.iload_n 1, 1) := by decide +kernel
theorem J_HOrders_slice_d18 : decode J_HOrders_slice.2.1 18 = .ok (.bipush 14, 2) := by decide +kernel
theorem J_HOrders_slice_d20 : decode J_HOrders_slice.2.1 20 = .ok (.imul, 1) := by decide +kernel
theorem J_HOrders_slice_d21 : decode J_HOrders_slice.2.1 21 = .ok (.bipush 9, 2) := by decide +kernel
theorem J_HOrders_slice_d23 : decode J_HOrders_slice.2.1 23 = .ok (.iadd, 1) := by decide +kernel
theorem J_HOrders_slice_d24 : decode J_HOrders_slice.2.1 24 = .ok (.iload_n 3, 1) := by decide +kernel
theorem J_HOrders_slice_d25 : decode J_HOrders_slice.2.1 25 = .ok (.iastore, 1) := by decide +kernel
theorem J_HOrders_slice_d26 : decode J_HOrders_slice.2.1 26 = .ok (.aload_n 0, 1) := by decide +kernel
theorem J_HOrders_slice_d27 : decode J_HOrders_slice.2.1 27 = .ok (.getfield 13, 3) := by decide +kernel
theorem J_HOrders_slice_d30 : decode J_HOrders_slice.2.1 30 = .ok (.iload_n 1, 1) := by decide +kernel
theorem J_HOrders_slice_d31 : decode J_HOrders_slice.2.1 31 = .ok (.bipush 14, 2) := by decide +kernel
theorem J_HOrders_slice_d33 : decode J_HOrders_slice.2.1 33 = .ok (.imul, 1) := by decide +kernel
theorem J_HOrders_slice_d34 : decode J_HOrders_slice.2.1 34 = .ok (.bipush 8, 2) := by decide +kernel
theorem J_HOrders_slice_d36 : decode J_HOrders_slice.2.1 36 = .ok (.iadd, 1) := by decide +kernel
theorem J_HOrders_slice_d37 : decode J_HOrders_slice.2.1 37 = .ok (.iload 4, 2) := by decide +kernel
theorem J_HOrders_slice_d39 : decode J_HOrders_slice.2.1 39 = .ok (.iastore, 1) := by decide +kernel
theorem J_HOrders_slice_d40 : decode J_HOrders_slice.2.1 40 = .ok (.return_, 1) := by decide +kernel
theorem f_HOrders_slice_ok {L : Nat} {xs : Nat → Int32} {dep : Nat} {w : Bool} {p0 : Int32} {p1 : Int32} {p2 : Int32} {p3 : Int32} {M : im_M} {Q : im_M → Prop} (hM : lw_S w M) (h : ed (f_HOrders_slice p0 p1 p2 p3 M) Q) : ia (tb_G L xs) dep J_HOrders_slice (rwV w Q) (0, lv_args 0 [.ref 19, .int p0, .int p1, .int p2, .int p3], [], M) := by
  have hS : im_St (tb_G L xs) dep J_HOrders_slice (ia (tb_G L xs) dep J_HOrders_slice (rwV w Q)) := ia_St
  unfold f_HOrders_slice at h
  have l0 : im_lk (lv_args 0 [.ref 19, .int p0, .int p1, .int p2, .int p3]) 0 = some (.ref 19) := rfl
  have l1 : im_lk (lv_args 0 [.ref 19, .int p0, .int p1, .int p2, .int p3]) 1 = some (.int p0) := rfl
  have l2 : im_lk (lv_args 0 [.ref 19, .int p0, .int p1, .int p2, .int p3]) 2 = some (.int p1) := rfl
  have l3 : im_lk (lv_args 0 [.ref 19, .int p0, .int p1, .int p2, .int p3]) 3 = some (.int p2) := rfl
  have l4 : im_lk (lv_args 0 [.ref 19, .int p0, .int p1, .int p2, .int p3]) 4 = some (.int p3) := rfl
  refine iq_aload_n hS 1 J_HOrders_slice_d0 l0 rfl ?_
  refine iq_getR hS 4 J_HOrders_slice_d1 lf_5_13 (Or.inr ⟨_, rfl⟩) (ka_19 hM) (ra_19_0 hM) rfl ?_
  refine iq_iload_n hS 5 J_HOrders_slice_d4 l1 rfl ?_
  refine iq_bipush hS 7 J_HOrders_slice_d5 (v := 14) (by decide +kernel) rfl ?_
  refine iq_imul hS 8 J_HOrders_slice_d7 rfl ?_
  refine iq_bipush hS 10 J_HOrders_slice_d8 (v := 10) (by decide +kernel) rfl ?_
  refine iq_iadd hS 11 J_HOrders_slice_d10 rfl ?_
  refine iq_iload_n hS 12 J_HOrders_slice_d11 l2 rfl ?_
  obtain ⟨g12, h⟩ := ed_gd h
  refine iq_iastore hS 13 J_HOrders_slice_d12 ⟨(ka_21 hM).1, (ka_21 hM).2, g12.1, ix_lt (kl_21 hM) g12.2⟩ rfl ?_
  refine iq_aload_n hS 14 J_HOrders_slice_d13 l0 rfl ?_
  refine iq_getR hS 17 J_HOrders_slice_d14 lf_5_13 (Or.inr ⟨_, rfl⟩) (ka_19 hM) (ra_19_0 hM) rfl ?_
  refine iq_iload_n hS 18 J_HOrders_slice_d17 l1 rfl ?_
  refine iq_bipush hS 20 J_HOrders_slice_d18 (v := 14) (by decide +kernel) rfl ?_
  refine iq_imul hS 21 J_HOrders_slice_d20 rfl ?_
  refine iq_bipush hS 23 J_HOrders_slice_d21 (v := 9) (by decide +kernel) rfl ?_
  refine iq_iadd hS 24 J_HOrders_slice_d23 rfl ?_
  refine iq_iload_n hS 25 J_HOrders_slice_d24 l3 rfl ?_
  obtain ⟨g25, h⟩ := ed_gd h
  refine iq_iastore hS 26 J_HOrders_slice_d25 ⟨(ka_21 hM).1, (ka_21 hM).2, g25.1, ix_lt (kl_21 hM) g25.2⟩ rfl ?_
  refine iq_aload_n hS 27 J_HOrders_slice_d26 l0 rfl ?_
  refine iq_getR hS 30 J_HOrders_slice_d27 lf_5_13 (Or.inr ⟨_, rfl⟩) (ka_19 hM) (ra_19_0 hM) rfl ?_
  refine iq_iload_n hS 31 J_HOrders_slice_d30 l1 rfl ?_
  refine iq_bipush hS 33 J_HOrders_slice_d31 (v := 14) (by decide +kernel) rfl ?_
  refine iq_imul hS 34 J_HOrders_slice_d33 rfl ?_
  refine iq_bipush hS 36 J_HOrders_slice_d34 (v := 8) (by decide +kernel) rfl ?_
  refine iq_iadd hS 37 J_HOrders_slice_d36 rfl ?_
  refine iq_iload hS 39 J_HOrders_slice_d37 l4 rfl ?_
  obtain ⟨g39, h⟩ := ed_gd h
  refine iq_iastore hS 40 J_HOrders_slice_d39 ⟨(ka_21 hM).1, (ka_21 hM).2, g39.1, ix_lt (kl_21 hM) g39.2⟩ rfl ?_
  exact iq_ret J_HOrders_slice_d40 rfl ⟨rfl, hM, ed_some h⟩
noncomputable def f_HOrders_move (p0 : Int32) (p1 : Int32) (p2 : Int32) (M : im_M) : Option (im_M) := gd (inb ((p0 * 14) + 3) 1960) <| gd (inb ((p0 * 14) + 1) 1960) <| gd (inb ((p0 * 14) + 1) 1960) <| gd (inb ((p0 * 14) + 2) 1960) <| gd (inb ((p0 * 14) + 2) 1960) <| some (im_setI (im_setI M 21 (Int32.toNatClampNeg ((p0 * 14) + 1)) ((im_i M 21 (Int32.toNatClampNeg ((p0 * 14) + 1))) + ((if ¬ (im_i M 21 (Int32.toNatClampNeg ((p0 * 14) + 3))) = 0 then (if ¬ (im_i M 21 (Int32.toNatClampNeg ((p0 * 14) + 3))) = 1 then (if ¬ (im_i M 21 (Int32.toNatClampNeg ((p0 * 14) + 3))) = 2 then p2 else (-p1)) else (-p2)) else p1) : Int32))) 21 (Int32.toNatClampNeg ((p0 * 14) + 2)) ((im_i (im_setI M 21 (Int32.toNatClampNeg ((p0 * 14) + 1)) ((im_i M 21 (Int32.toNatClampNeg ((p0 * 14) + 1))) + ((if ¬ (im_i M 21 (Int32.toNatClampNeg ((p0 * 14) + 3))) = 0 then (if ¬ (im_i M 21 (Int32.toNatClampNeg ((p0 * 14) + 3))) = 1 then (if ¬ (im_i M 21 (Int32.toNatClampNeg ((p0 * 14) + 3))) = 2 then p2 else (-p1)) else (-p2)) else p1) : Int32))) 21 (Int32.toNatClampNeg ((p0 * 14) + 2))) + ((if ¬ (im_i M 21 (Int32.toNatClampNeg ((p0 * 14) + 3))) = 0 then (if ¬ (im_i M 21 (Int32.toNatClampNeg ((p0 * 14) + 3))) = 1 then (if ¬ (im_i M 21 (Int32.toNatClampNeg ((p0 * 14) + 3))) = 2 then (-p1) else (-p2)) else p1) else p2) : Int32)))
theorem J_HOrders_move_d0 : decode J_HOrders_move.2.1 0 = .ok (.iload_n 1, 1) := by decide +kernel
theorem J_HOrders_move_d1 : decode J_HOrders_move.2.1 1 = .ok (.bipush 14, 2) := by decide +kernel
theorem J_HOrders_move_d3 : decode J_HOrders_move.2.1 3 = .ok (.imul, 1) := by decide +kernel
theorem J_HOrders_move_d4 : decode J_HOrders_move.2.1 4 = .ok (.istore 4, 2) := by decide +kernel
theorem J_HOrders_move_d6 : decode J_HOrders_move.2.1 6 = .ok (.aload_n 0, 1) := by decide +kernel
theorem J_HOrders_move_d7 : decode J_HOrders_move.2.1 7 = .ok (.getfield 13, 3) := by decide +kernel
theorem J_HOrders_move_d10 : decode J_HOrders_move.2.1 10 = .ok (.iload 4, 2) := by decide +kernel
theorem J_HOrders_move_d12 : decode J_HOrders_move.2.1 12 = .ok (.iconst 3, 1) := by decide +kernel
theorem J_HOrders_move_d13 : decode J_HOrders_move.2.1 13 = .ok (.iadd, 1) := by decide +kernel
theorem J_HOrders_move_d14 : decode J_HOrders_move.2.1 14 = .ok (.iaload, 1) := by decide +kernel
theorem J_HOrders_move_d15 : decode J_HOrders_move.2.1 15 = .ok (.istore 5, 2) := by decide +kernel
theorem J_HOrders_move_d17 : decode J_HOrders_move.2.1 17 = .ok (.aload_n 0, 1) := by decide +kernel
theorem J_HOrders_move_d18 : decode J_HOrders_move.2.1 18 = .ok (.getfield 13, 3) := by decide +kernel
theorem J_HOrders_move_d21 : decode J_HOrders_move.2.1 21 = .ok (.iload 4, 2) := by decide +kernel
theorem J_HOrders_move_d23 : decode J_HOrders_move.2.1 23 = .ok (.iconst 1, 1) := by decide +kernel
theorem J_HOrders_move_d24 : decode J_HOrders_move.2.1 24 = .ok (.iadd, 1) := by decide +kernel
theorem J_HOrders_move_d25 : decode J_HOrders_move.2.1 25 = .ok (.dup2, 1) := by decide +kernel
theorem J_HOrders_move_d26 : decode J_HOrders_move.2.1 26 = .ok (.iaload, 1) := by decide +kernel
theorem J_HOrders_move_d27 : decode J_HOrders_move.2.1 27 = .ok (.iload 5, 2) := by decide +kernel
theorem J_HOrders_move_d29 : decode J_HOrders_move.2.1 29 = .ok (.ifCond .ne 7, 3) := by decide +kernel
theorem J_HOrders_move_d32 : decode J_HOrders_move.2.1 32 = .ok (.iload_n 2, 1) := by decide +kernel
theorem J_HOrders_move_d33 : decode J_HOrders_move.2.1 33 = .ok (.goto 26, 3) := by decide +kernel
theorem J_HOrders_move_d36 : decode J_HOrders_move.2.1 36 = .ok (.iload 5, 2) := by decide +kernel
theorem J_HOrders_move_d38 : decode J_HOrders_move.2.1 38 = .ok (.iconst 1, 1) := by decide +kernel
theorem J_HOrders_move_d39 : decode J_HOrders_move.2.1 39 = .ok (.if_icmp .ne 8, 3) := by decide +kernel
theorem J_HOrders_move_d42 : decode J_HOrders_move.2.1 42 = .ok (.iload_n 3, 1) := by decide +kernel
theorem J_HOrders_move_d43 : decode J_HOrders_move.2.1 43 = .ok (.ineg, 1) := by decide +kernel
theorem J_HOrders_move_d44 : decode J_HOrders_move.2.1 44 = .ok (.goto 15, 3) := by decide +kernel
theorem J_HOrders_move_d47 : decode J_HOrders_move.2.1 47 = .ok (.iload 5, 2) := by decide +kernel
theorem J_HOrders_move_d49 : decode J_HOrders_move.2.1 49 = .ok (.iconst 2, 1) := by decide +kernel
theorem J_HOrders_move_d50 : decode J_HOrders_move.2.1 50 = .ok (.if_icmp .ne 8, 3) := by decide +kernel
theorem J_HOrders_move_d53 : decode J_HOrders_move.2.1 53 = .ok (.iload_n 2, 1) := by decide +kernel
theorem J_HOrders_move_d54 : decode J_HOrders_move.2.1 54 = .ok (.ineg, 1) := by decide +kernel
theorem J_HOrders_move_d55 : decode J_HOrders_move.2.1 55 = .ok (.goto 4, 3) := by decide +kernel
theorem J_HOrders_move_d58 : decode J_HOrders_move.2.1 58 = .ok (.iload_n 3, 1) := by decide +kernel
theorem J_HOrders_move_d59 : decode J_HOrders_move.2.1 59 = .ok (.iadd, 1) := by decide +kernel
theorem J_HOrders_move_d60 : decode J_HOrders_move.2.1 60 = .ok (.iastore, 1) := by decide +kernel
theorem J_HOrders_move_d61 : decode J_HOrders_move.2.1 61 = .ok (.aload_n 0, 1) := by decide +kernel
theorem J_HOrders_move_d62 : decode J_HOrders_move.2.1 62 = .ok (.getfield 13, 3) := by decide +kernel
theorem J_HOrders_move_d65 : decode J_HOrders_move.2.1 65 = .ok (.iload 4, 2) := by decide +kernel
theorem J_HOrders_move_d67 : decode J_HOrders_move.2.1 67 = .ok (.iconst 2, 1) := by decide +kernel
theorem J_HOrders_move_d68 : decode J_HOrders_move.2.1 68 = .ok (.iadd, 1) := by decide +kernel
theorem J_HOrders_move_d69 : decode J_HOrders_move.2.1 69 = .ok (.dup2, 1) := by decide +kernel
theorem J_HOrders_move_d70 : decode J_HOrders_move.2.1 70 = .ok (.iaload, 1) := by decide +kernel
theorem J_HOrders_move_d71 : decode J_HOrders_move.2.1 71 = .ok (.iload 5, 2) := by decide +kernel
theorem J_HOrders_move_d73 : decode J_HOrders_move.2.1 73 = .ok (.ifCond .ne 7, 3) := by decide +kernel
theorem J_HOrders_move_d76 : decode J_HOrders_move.2.1 76 = .ok (.iload_n 3, 1) := by decide +kernel
theorem J_HOrders_move_d77 : decode J_HOrders_move.2.1 77 = .ok (.goto 26, 3) := by decide +kernel
theorem J_HOrders_move_d80 : decode J_HOrders_move.2.1 80 = .ok (.iload 5, 2) := by decide +kernel
theorem J_HOrders_move_d82 : decode J_HOrders_move.2.1 82 = .ok (.iconst 1, 1) := by decide +kernel
theorem J_HOrders_move_d83 : decode J_HOrders_move.2.1 83 = .ok (.if_icmp .ne 7, 3) := by decide +kernel
theorem J_HOrders_move_d86 : decode J_HOrders_move.2.1 86 = .ok (.iload_n 2, 1) := by decide +kernel
theorem J_HOrders_move_d87 : decode J_HOrders_move.2.1 87 = .ok (.goto 16, 3) := by decide +kernel
theorem J_HOrders_move_d90 : decode J_HOrders_move.2.1 90 = .ok (.iload 5, 2) := by decide +kernel
theorem J_HOrders_move_d92 : decode J_HOrders_move.2.1 92 = .ok (.iconst 2, 1) := by decide +kernel
theorem J_HOrders_move_d93 : decode J_HOrders_move.2.1 93 = .ok (.if_icmp .ne 8, 3) := by decide +kernel
theorem J_HOrders_move_d96 : decode J_HOrders_move.2.1 96 = .ok (.iload_n 3, 1) := by decide +kernel
theorem J_HOrders_move_d97 : decode J_HOrders_move.2.1 97 = .ok (.ineg, 1) := by decide +kernel
theorem J_HOrders_move_d98 : decode J_HOrders_move.2.1 98 = .ok (.goto 5, 3) := by decide +kernel
theorem J_HOrders_move_d101 : decode J_HOrders_move.2.1 101 = .ok (.iload_n 2, 1) := by decide +kernel
theorem J_HOrders_move_d102 : decode J_HOrders_move.2.1 102 = .ok (.ineg, 1) := by decide +kernel
theorem J_HOrders_move_d103 : decode J_HOrders_move.2.1 103 = .ok (.iadd, 1) := by decide +kernel
theorem J_HOrders_move_d104 : decode J_HOrders_move.2.1 104 = .ok (.iastore, 1) := by decide +kernel
theorem J_HOrders_move_d105 : decode J_HOrders_move.2.1 105 = .ok (.return_, 1) := by decide +kernel
theorem f_HOrders_move_ok {L : Nat} {xs : Nat → Int32} {dep : Nat} {w : Bool} {p0 : Int32} {p1 : Int32} {p2 : Int32} {M : im_M} {Q : im_M → Prop} (hM : lw_S w M) (h : ed (f_HOrders_move p0 p1 p2 M) Q) : ia (tb_G L xs) dep J_HOrders_move (rwV w Q) (0, lv_args 0 [.ref 19, .int p0, .int p1, .int p2], [], M) := by
  have hS : im_St (tb_G L xs) dep J_HOrders_move (ia (tb_G L xs) dep J_HOrders_move (rwV w Q)) := ia_St
  unfold f_HOrders_move at h
  have l0 : im_lk (lv_args 0 [.ref 19, .int p0, .int p1, .int p2]) 0 = some (.ref 19) := rfl
  have l1 : im_lk (lv_args 0 [.ref 19, .int p0, .int p1, .int p2]) 1 = some (.int p0) := rfl
  have l2 : im_lk (lv_args 0 [.ref 19, .int p0, .int p1, .int p2]) 2 = some (.int p1) := rfl
  have l3 : im_lk (lv_args 0 [.ref 19, .int p0, .int p1, .int p2]) 3 = some (.int p2) := rfl
  refine iq_iload_n hS 1 J_HOrders_move_d0 l1 rfl ?_
  refine iq_bipush hS 3 J_HOrders_move_d1 (v := 14) (by decide +kernel) rfl ?_
  refine iq_imul hS 4 J_HOrders_move_d3 rfl ?_
  refine iq_istore hS 6 J_HOrders_move_d4 (by decide) rfl ?_
  refine iq_aload_n hS 7 J_HOrders_move_d6 (lk_1r l0 (by decide)) rfl ?_
  refine iq_getR hS 10 J_HOrders_move_d7 lf_5_13 (Or.inr ⟨_, rfl⟩) (ka_19 hM) (ra_19_0 hM) rfl ?_
  refine iq_iload hS 12 J_HOrders_move_d10 lk_1s rfl ?_
  refine iq_iconst hS 13 J_HOrders_move_d12 (v := 3) (by decide +kernel) rfl ?_
  refine iq_iadd hS 14 J_HOrders_move_d13 rfl ?_
  obtain ⟨g14, h⟩ := ed_gd h
  refine iq_iaload hS 15 J_HOrders_move_d14 ⟨(ka_21 hM).1, (ka_21 hM).2, g14.1, ix_lt (kl_21 hM) g14.2⟩ rfl ?_
  refine iq_istore hS 17 J_HOrders_move_d15 (by decide) rfl ?_
  refine iq_aload_n hS 18 J_HOrders_move_d17 (lk_1r (lk_1r l0 (by decide)) (by decide)) rfl ?_
  refine iq_getR hS 21 J_HOrders_move_d18 lf_5_13 (Or.inr ⟨_, rfl⟩) (ka_19 hM) (ra_19_0 hM) rfl ?_
  refine iq_iload hS 23 J_HOrders_move_d21 (lk_1i lk_1s (by decide)) rfl ?_
  refine iq_iconst hS 24 J_HOrders_move_d23 (v := 1) (by decide +kernel) rfl ?_
  refine iq_iadd hS 25 J_HOrders_move_d24 rfl ?_
  refine iq_dup2 hS 26 J_HOrders_move_d25 rfl rfl rfl ?_
  obtain ⟨g26, h⟩ := ed_gd h
  refine iq_iaload hS 27 J_HOrders_move_d26 ⟨(ka_21 hM).1, (ka_21 hM).2, g26.1, ix_lt (kl_21 hM) g26.2⟩ rfl ?_
  refine iq_iload hS 29 J_HOrders_move_d27 lk_1s rfl ?_
  have J1 : ∀ (z2 : Int32) (L' : List (Nat × Value)), z2 = ((if ¬ (im_i M 21 (Int32.toNatClampNeg ((p0 * 14) + 3))) = 0 then (if ¬ (im_i M 21 (Int32.toNatClampNeg ((p0 * 14) + 3))) = 1 then (if ¬ (im_i M 21 (Int32.toNatClampNeg ((p0 * 14) + 3))) = 2 then p2 else (-p1)) else (-p2)) else p1) : Int32) → im_lk L' 0 = some (.ref 19) → im_lk L' 2 = some (.int p1) → im_lk L' 3 = some (.int p2) → im_lk L' 4 = some (.int (p0 * 14)) → im_lk L' 5 = some (.int (im_i M 21 (Int32.toNatClampNeg ((p0 * 14) + 3)))) → ia (tb_G L xs) dep J_HOrders_move (rwV w Q) (59, L', [.int z2, .int (im_i M 21 (Int32.toNatClampNeg ((p0 * 14) + 1))), .int ((p0 * 14) + 1), .ref 21], M) := by
    intro z2 L' e3 l4 l5 l6 l7 l8
    subst e3
    refine iq_iadd hS 60 J_HOrders_move_d59 rfl ?_
    obtain ⟨g60, h⟩ := ed_gd h
    refine iq_iastore hS 61 J_HOrders_move_d60 ⟨(ka_21 hM).1, (ka_21 hM).2, g60.1, ix_lt (kl_21 hM) g60.2⟩ rfl ?_
    refine iq_aload_n hS 62 J_HOrders_move_d61 l4 rfl ?_
    refine iq_getR hS 65 J_HOrders_move_d62 lf_5_13 (Or.inr ⟨_, rfl⟩) (ka_19 hM) (ra_19_0 hM) rfl ?_
    refine iq_iload hS 67 J_HOrders_move_d65 l7 rfl ?_
    refine iq_iconst hS 68 J_HOrders_move_d67 (v := 2) (by decide +kernel) rfl ?_
    refine iq_iadd hS 69 J_HOrders_move_d68 rfl ?_
    refine iq_dup2 hS 70 J_HOrders_move_d69 rfl rfl rfl ?_
    obtain ⟨g70, h⟩ := ed_gd h
    refine iq_iaload hS 71 J_HOrders_move_d70 ⟨(ka_21 hM).1, (ka_21 hM).2, g70.1, ix_lt (kl_21 hM) g70.2⟩ rfl ?_
    refine iq_iload hS 73 J_HOrders_move_d71 l8 rfl ?_
    have J9 : ∀ (z10 : Int32) (L' : List (Nat × Value)), z10 = ((if ¬ (im_i M 21 (Int32.toNatClampNeg ((p0 * 14) + 3))) = 0 then (if ¬ (im_i M 21 (Int32.toNatClampNeg ((p0 * 14) + 3))) = 1 then (if ¬ (im_i M 21 (Int32.toNatClampNeg ((p0 * 14) + 3))) = 2 then (-p1) else (-p2)) else p1) else p2) : Int32) → ia (tb_G L xs) dep J_HOrders_move (rwV w Q) (103, L', [.int z10, .int (im_i (im_setI M 21 (Int32.toNatClampNeg ((p0 * 14) + 1)) ((im_i M 21 (Int32.toNatClampNeg ((p0 * 14) + 1))) + ((if ¬ (im_i M 21 (Int32.toNatClampNeg ((p0 * 14) + 3))) = 0 then (if ¬ (im_i M 21 (Int32.toNatClampNeg ((p0 * 14) + 3))) = 1 then (if ¬ (im_i M 21 (Int32.toNatClampNeg ((p0 * 14) + 3))) = 2 then p2 else (-p1)) else (-p2)) else p1) : Int32))) 21 (Int32.toNatClampNeg ((p0 * 14) + 2))), .int ((p0 * 14) + 2), .ref 21], (im_setI M 21 (Int32.toNatClampNeg ((p0 * 14) + 1)) ((im_i M 21 (Int32.toNatClampNeg ((p0 * 14) + 1))) + ((if ¬ (im_i M 21 (Int32.toNatClampNeg ((p0 * 14) + 3))) = 0 then (if ¬ (im_i M 21 (Int32.toNatClampNeg ((p0 * 14) + 3))) = 1 then (if ¬ (im_i M 21 (Int32.toNatClampNeg ((p0 * 14) + 3))) = 2 then p2 else (-p1)) else (-p2)) else p1) : Int32)))) := by
      intro z10 L' e11 
      subst e11
      refine iq_iadd hS 104 J_HOrders_move_d103 rfl ?_
      obtain ⟨g104, h⟩ := ed_gd h
      refine iq_iastore hS 105 J_HOrders_move_d104 ⟨(ka_21 hM).1, (ka_21 hM).2, g104.1, ix_lt (kl_21 hM) g104.2⟩ rfl ?_
      exact iq_ret J_HOrders_move_d105 rfl ⟨rfl, hM, ed_some h⟩
    refine iq_if_ne hS 76 J_HOrders_move_d73 (t := 80) rfl (fun q73 => ?_) rfl (fun q73 => ?_)
    · refine iq_iload hS 82 J_HOrders_move_d80 l8 rfl ?_
      refine iq_iconst hS 83 J_HOrders_move_d82 (v := 1) (by decide +kernel) rfl ?_
      refine iq_icmp_ne hS 86 J_HOrders_move_d83 (t := 90) rfl (fun q83 => ?_) rfl (fun q83 => ?_)
      · refine iq_iload hS 92 J_HOrders_move_d90 l8 rfl ?_
        refine iq_iconst hS 93 J_HOrders_move_d92 (v := 2) (by decide +kernel) rfl ?_
        refine iq_icmp_ne hS 96 J_HOrders_move_d93 (t := 101) rfl (fun q93 => ?_) rfl (fun q93 => ?_)
        · refine iq_iload_n hS 102 J_HOrders_move_d101 l5 rfl ?_
          refine iq_ineg hS 103 J_HOrders_move_d102 rfl ?_
          exact J9 _ _ (by rw [if_pos q73, if_pos q83, if_pos q93]) 
        · refine iq_iload_n hS 97 J_HOrders_move_d96 l6 rfl ?_
          refine iq_ineg hS 98 J_HOrders_move_d97 rfl ?_
          refine iq_goto hS J_HOrders_move_d98 (t := 103) rfl ?_
          exact J9 _ _ (by rw [if_pos q73, if_pos q83, if_neg q93]) 
      · refine iq_iload_n hS 87 J_HOrders_move_d86 l5 rfl ?_
        refine iq_goto hS J_HOrders_move_d87 (t := 103) rfl ?_
        exact J9 _ _ (by rw [if_pos q73, if_neg q83]) 
    · refine iq_iload_n hS 77 J_HOrders_move_d76 l6 rfl ?_
      refine iq_goto hS J_HOrders_move_d77 (t := 103) rfl ?_
      exact J9 _ _ (by rw [if_neg q73]) 
  refine iq_if_ne hS 32 J_HOrders_move_d29 (t := 36) rfl (fun q29 => ?_) rfl (fun q29 => ?_)
  · refine iq_iload hS 38 J_HOrders_move_d36 lk_1s rfl ?_
    refine iq_iconst hS 39 J_HOrders_move_d38 (v := 1) (by decide +kernel) rfl ?_
    refine iq_icmp_ne hS 42 J_HOrders_move_d39 (t := 47) rfl (fun q39 => ?_) rfl (fun q39 => ?_)
    · refine iq_iload hS 49 J_HOrders_move_d47 lk_1s rfl ?_
      refine iq_iconst hS 50 J_HOrders_move_d49 (v := 2) (by decide +kernel) rfl ?_
      refine iq_icmp_ne hS 53 J_HOrders_move_d50 (t := 58) rfl (fun q50 => ?_) rfl (fun q50 => ?_)
      · refine iq_iload_n hS 59 J_HOrders_move_d58 (lk_1i (lk_1i l3 (by decide)) (by decide)) rfl ?_
        exact J1 _ _ (by rw [if_pos q29, if_pos q39, if_pos q50]) (lk_1r (lk_1r l0 (by decide)) (by decide)) (lk_1i (lk_1i l2 (by decide)) (by decide)) (lk_1i (lk_1i l3 (by decide)) (by decide)) (lk_1i lk_1s (by decide)) lk_1s
      · refine iq_iload_n hS 54 J_HOrders_move_d53 (lk_1i (lk_1i l2 (by decide)) (by decide)) rfl ?_
        refine iq_ineg hS 55 J_HOrders_move_d54 rfl ?_
        refine iq_goto hS J_HOrders_move_d55 (t := 59) rfl ?_
        exact J1 _ _ (by rw [if_pos q29, if_pos q39, if_neg q50]) (lk_1r (lk_1r l0 (by decide)) (by decide)) (lk_1i (lk_1i l2 (by decide)) (by decide)) (lk_1i (lk_1i l3 (by decide)) (by decide)) (lk_1i lk_1s (by decide)) lk_1s
    · refine iq_iload_n hS 43 J_HOrders_move_d42 (lk_1i (lk_1i l3 (by decide)) (by decide)) rfl ?_
      refine iq_ineg hS 44 J_HOrders_move_d43 rfl ?_
      refine iq_goto hS J_HOrders_move_d44 (t := 59) rfl ?_
      exact J1 _ _ (by rw [if_pos q29, if_neg q39]) (lk_1r (lk_1r l0 (by decide)) (by decide)) (lk_1i (lk_1i l2 (by decide)) (by decide)) (lk_1i (lk_1i l3 (by decide)) (by decide)) (lk_1i lk_1s (by decide)) lk_1s
  · refine iq_iload_n hS 33 J_HOrders_move_d32 (lk_1i (lk_1i l2 (by decide)) (by decide)) rfl ?_
    refine iq_goto hS J_HOrders_move_d33 (t := 59) rfl ?_
    exact J1 _ _ (by rw [if_neg q29]) (lk_1r (lk_1r l0 (by decide)) (by decide)) (lk_1i (lk_1i l2 (by decide)) (by decide)) (lk_1i (lk_1i l3 (by decide)) (by decide)) (lk_1i lk_1s (by decide)) lk_1s
noncomputable def f_HField_layOthers (p1 : Int32) (p2 : Int32) (M : im_M) : Option (Int32 × im_M) := bd1 (if ((if (im_i M 23 2) = 1 then 1 else (if ¬ (im_i M 23 2) = 2 then 0 else 1)) : Int32) = 0 then jn0 (fun (_ : Unit) => gd (inb 3 4) <| some (im_i M 24 (Int32.toNatClampNeg 3))) fun k3 => if (im_i M 23 2) = 0 then k3 () else if ¬ (im_i M 23 2) = 3 then some 0 else k3 () else gd (inb 2 4) <| some (im_i M 24 (Int32.toNatClampNeg 2))) fun (y11 : Int32) => bd1 (f_HOrders_lay (im_i M 19 3) (im_i M 23 2) p1 p2 y11 M) fun (M19 : im_M) => gd (inb 0 4) <| bd1 (if ¬ (im_i M19 23 2) = 7 then gd (inb 1 4) <| some (im_i M19 24 (Int32.toNatClampNeg 1)) else some 0) fun (y21 : Int32) => bd1 (jn0 (fun (_ : Unit) => some 0) fun k31 => if ¬ ((if (im_i M 23 2) = 1 then 1 else (if ¬ (im_i M 23 2) = 2 then 0 else 1)) : Int32) = 0 then k31 () else if ¬ (im_i M19 23 2) = 7 then gd (inb 2 4) <| some (im_i M19 24 (Int32.toNatClampNeg 2)) else k31 ()) fun (y39 : Int32) => bd1 (f_HOrders_number (im_i M 19 3) (im_i M19 24 (Int32.toNatClampNeg 0)) y21 y39 M19) fun (M47 : im_M) => bd1 (if 3 < (im_i M47 23 2) then if ¬ (im_i M47 23 2) = 7 then some 0 else some ((im_i M47 23 8) / 2) else some (im_i M47 23 8)) fun (y49 : Int32) => bd1 (f_HOrders_slice (im_i M 19 3) (im_i M 19 3) 0 y49 M47) fun (M57 : im_M) => if ¬ (im_i M57 23 2) = 1 then some (1, M57) else gd (inb 3 4) <| if ¬ (im_i M57 24 (Int32.toNatClampNeg 3)) = 0 then bd1 (f_HOrders_lay ((im_i M 19 3) + 1) 0 p1 p2 y11 M57) fun (M58 : im_M) => gd (inb 1 4) <| bd1 (f_HOrders_move ((im_i M 19 3) + 1) 0 ((im_i M58 24 (Int32.toNatClampNeg 1)) + 3) M58) fun (M59 : im_M) => gd (inb 0 4) <| gd (inb 1 4) <| gd (inb 2 4) <| bd1 (f_HOrders_number ((im_i M 19 3) + 1) (im_i M59 18 (Int32.toNatClampNeg 0)) (im_i M59 18 (Int32.toNatClampNeg 1)) (im_i M59 18 (Int32.toNatClampNeg 2)) M59) fun (M60 : im_M) => bd1 (f_HOrders_slice ((im_i M 19 3) + 1) (im_i M 19 3) 0 (im_i M60 23 8) M60) fun (M61 : im_M) => some (2, M61) else some (1, M57)
theorem J_HField_layOthers_d0 : decode J_HField_layOthers.2.1 0 = .ok (.aload_n 1, 1) := by decide +kernel
theorem J_HField_layOthers_d1 : decode J_HField_layOthers.2.1 1 = .ok (.getfield 81, 3) := by decide +kernel
theorem J_HField_layOthers_d4 : decode J_HField_layOthers.2.1 4 = .ok (.istore 5, 2) := by decide +kernel
theorem J_HField_layOthers_d6 : decode J_HField_layOthers.2.1 6 = .ok (.aload_n 0, 1) := by decide +kernel
theorem J_HField_layOthers_d7 : decode J_HField_layOthers.2.1 7 = .ok (.getfield 34, 3) := by decide +kernel
theorem J_HField_layOthers_d10 : decode J_HField_layOthers.2.1 10 = .ok (.iconst 1, 1) := by decide +kernel
theorem J_HField_layOthers_d11 : decode J_HField_layOthers.2.1 11 = .ok (.if_icmp .eq 11, 3) := by decide +kernel
theorem J_HField_layOthers_d14 : decode J_HField_layOthers.2.1 14 = .ok (.aload_n 0, 1) := by decide +kernel
theorem J_HField_layOthers_d15 : decode J_HField_layOthers.2.1 15 = .ok (.getfield 34, 3) := by decide +kernel
theorem J_HField_layOthers_d18 : decode J_HField_layOthers.2.1 18 = .ok (.iconst 2, 1) := by decide +kernel
theorem J_HField_layOthers_d19 : decode J_HField_layOthers.2.1 19 = .ok (.if_icmp .ne 7, 3) := by decide +kernel
theorem J_HField_layOthers_d22 : decode J_HField_layOthers.2.1 22 = .ok (.iconst 1, 1) := by decide +kernel
theorem J_HField_layOthers_d23 : decode J_HField_layOthers.2.1 23 = .ok (.goto 4, 3) := by decide +kernel
theorem J_HField_layOthers_d26 : decode J_HField_layOthers.2.1 26 = .ok (.iconst 0, 1) := by decide +kernel
theorem J_HField_layOthers_d27 : decode J_HField_layOthers.2.1 27 = .ok (.istore 6, 2) := by decide +kernel
theorem J_HField_layOthers_d29 : decode J_HField_layOthers.2.1 29 = .ok (.iload 6, 2) := by decide +kernel
theorem J_HField_layOthers_d31 : decode J_HField_layOthers.2.1 31 = .ok (.ifCond .eq 12, 3) := by decide +kernel
theorem J_HField_layOthers_d34 : decode J_HField_layOthers.2.1 34 = .ok (.aload_n 0, 1) := by decide +kernel
theorem J_HField_layOthers_d35 : decode J_HField_layOthers.2.1 35 = .ok (.getfield 9, 3) := by decide +kernel
theorem J_HField_layOthers_d38 : decode J_HField_layOthers.2.1 38 = .ok (.iconst 2, 1) := by decide +kernel
theorem J_HField_layOthers_d39 : decode J_HField_layOthers.2.1 39 = .ok (.iaload, 1) := by decide +kernel
theorem J_HField_layOthers_d40 : decode J_HField_layOthers.2.1 40 = .ok (.goto 28, 3) := by decide +kernel
theorem J_HField_layOthers_d43 : decode J_HField_layOthers.2.1 43 = .ok (.aload_n 0, 1) := by decide +kernel
theorem J_HField_layOthers_d44 : decode J_HField_layOthers.2.1 44 = .ok (.getfield 34, 3) := by decide +kernel
theorem J_HField_layOthers_d47 : decode J_HField_layOthers.2.1 47 = .ok (.ifCond .eq 11, 3) := by decide +kernel
theorem J_HField_layOthers_d50 : decode J_HField_layOthers.2.1 50 = .ok (.aload_n 0, 1) := by decide +kernel
theorem J_HField_layOthers_d51 : decode J_HField_layOthers.2.1 51 = .ok (.getfield 34, 3) := by decide +kernel
theorem J_HField_layOthers_d54 : decode J_HField_layOthers.2.1 54 = .ok (.iconst 3, 1) := by decide +kernel
theorem J_HField_layOthers_d55 : decode J_HField_layOthers.2.1 55 = .ok (.if_icmp .ne 12, 3) := by decide +kernel
theorem J_HField_layOthers_d58 : decode J_HField_layOthers.2.1 58 = .ok (.aload_n 0, 1) := by decide +kernel
theorem J_HField_layOthers_d59 : decode J_HField_layOthers.2.1 59 = .ok (.getfield 9, 3) := by decide +kernel
theorem J_HField_layOthers_d62 : decode J_HField_layOthers.2.1 62 = .ok (.iconst 3, 1) := by decide +kernel
theorem J_HField_layOthers_d63 : decode J_HField_layOthers.2.1 63 = .ok (.iaload, 1) := by decide +kernel
theorem J_HField_layOthers_d64 : decode J_HField_layOthers.2.1 64 = .ok (.goto 4, 3) := by decide +kernel
theorem J_HField_layOthers_d67 : decode J_HField_layOthers.2.1 67 = .ok (.iconst 0, 1) := by decide +kernel
theorem J_HField_layOthers_d68 : decode J_HField_layOthers.2.1 68 = .ok (.istore 7, 2) := by decide +kernel
theorem J_HField_layOthers_d70 : decode J_HField_layOthers.2.1 70 = .ok (.aload_n 1, 1) := by decide +kernel
theorem J_HField_layOthers_d71 : decode J_HField_layOthers.2.1 71 = .ok (.iload 5, 2) := by decide +kernel
theorem J_HField_layOthers_d73 : decode J_HField_layOthers.2.1 73 = .ok (.aload_n 0, 1) := by decide +kernel
theorem J_HField_layOthers_d74 : decode J_HField_layOthers.2.1 74 = .ok (.getfield 34, 3) := by decide +kernel
theorem J_HField_layOthers_d77 : decode J_HField_layOthers.2.1 77 = .ok (.iload_n 2, 1) := by decide +kernel
theorem J_HField_layOthers_d78 : decode J_HField_layOthers.2.1 78 = .ok (.iload_n 3, 1) := by decide +kernel
theorem J_HField_layOthers_d79 : decode J_HField_layOthers.2.1 79 = .ok (.iload 7, 2) := by decide +kernel
theorem J_HField_layOthers_d81 : decode J_HField_layOthers.2.1 81 = .ok (.invokevirtual 90, 3) := by decide +kernel
theorem J_HField_layOthers_d84 : decode J_HField_layOthers.2.1 84 = .ok (.aload_n 1, 1) := by decide +kernel
theorem J_HField_layOthers_d85 : decode J_HField_layOthers.2.1 85 = .ok (.iload 5, 2) := by decide +kernel
theorem J_HField_layOthers_d87 : decode J_HField_layOthers.2.1 87 = .ok (.aload_n 0, 1) := by decide +kernel
theorem J_HField_layOthers_d88 : decode J_HField_layOthers.2.1 88 = .ok (.getfield 9, 3) := by decide +kernel
theorem J_HField_layOthers_d91 : decode J_HField_layOthers.2.1 91 = .ok (.iconst 0, 1) := by decide +kernel
theorem J_HField_layOthers_d92 : decode J_HField_layOthers.2.1 92 = .ok (.iaload, 1) := by decide +kernel
theorem J_HField_layOthers_d93 : decode J_HField_layOthers.2.1 93 = .ok (.aload_n 0, 1) := by decide +kernel
theorem J_HField_layOthers_d94 : decode J_HField_layOthers.2.1 94 = .ok (.getfield 34, 3) := by decide +kernel
theorem J_HField_layOthers_d97 : decode J_HField_layOthers.2.1 97 = .ok (.bipush 7, 2) := by decide +kernel
theorem J_HField_layOthers_d99 : decode J_HField_layOthers.2.1 99 = .ok (.if_icmp .ne 7, 3) := by decide +kernel
theorem J_HField_layOthers_d102 : decode J_HField_layOthers.2.1 102 = .ok (.iconst 0, 1) := by decide +kernel
theorem J_HField_layOthers_d103 : decode J_HField_layOthers.2.1 103 = .ok (.goto 9, 3) := by decide +kernel
theorem J_HField_layOthers_d106 : decode J_HField_layOthers.2.1 106 = .ok (.aload_n 0, 1) := by decide +kernel
theorem J_HField_layOthers_d107 : decode J_HField_layOthers.2.1 107 = .ok (.getfield 9, 3) := by decide +kernel
theorem J_HField_layOthers_d110 : decode J_HField_layOthers.2.1 110 = .ok (.iconst 1, 1) := by decide +kernel
theorem J_HField_layOthers_d111 : decode J_HField_layOthers.2.1 111 = .ok (.iaload, 1) := by decide +kernel
theorem J_HField_layOthers_d112 : decode J_HField_layOthers.2.1 112 = .ok (.iload 6, 2) := by decide +kernel
theorem J_HField_layOthers_d114 : decode J_HField_layOthers.2.1 114 = .ok (.ifCond .ne 12, 3) := by decide +kernel
theorem J_HField_layOthers_d117 : decode J_HField_layOthers.2.1 117 = .ok (.aload_n 0, 1) := by decide +kernel
theorem J_HField_layOthers_d118 : decode J_HField_layOthers.2.1 118 = .ok (.getfield 34, 3) := by decide +kernel
theorem J_HField_layOthers_d121 : decode J_HField_layOthers.2.1 121 = .ok (.bipush 7, 2) := by decide +kernel
theorem J_HField_layOthers_d123 : decode J_HField_layOthers.2.1 123 = .ok (.if_icmp .ne 7, 3) := by decide +kernel
theorem J_HField_layOthers_d126 : decode J_HField_layOthers.2.1 126 = .ok (.iconst 0, 1) := by decide +kernel
theorem J_HField_layOthers_d127 : decode J_HField_layOthers.2.1 127 = .ok (.goto 9, 3) := by decide +kernel
theorem J_HField_layOthers_d130 : decode J_HField_layOthers.2.1 130 = .ok (.aload_n 0, 1) := by decide +kernel
theorem J_HField_layOthers_d131 : decode J_HField_layOthers.2.1 131 = .ok (.getfield 9, 3) := by decide +kernel
theorem J_HField_layOthers_d134 : decode J_HField_layOthers.2.1 134 = .ok (.iconst 2, 1) := by decide +kernel
theorem J_HField_layOthers_d135 : decode J_HField_layOthers.2.1 135 = .ok (.iaload, 1) := by decide +kernel
theorem J_HField_layOthers_d136 : decode J_HField_layOthers.2.1 136 = .ok (.invokevirtual 94, 3) := by decide +kernel
theorem J_HField_layOthers_d139 : decode J_HField_layOthers.2.1 139 = .ok (.aload_n 1, 1) := by decide +kernel
theorem J_HField_layOthers_d140 : decode J_HField_layOthers.2.1 140 = .ok (.iload 5, 2) := by decide +kernel
theorem J_HField_layOthers_d142 : decode J_HField_layOthers.2.1 142 = .ok (.iload 5, 2) := by decide +kernel
theorem J_HField_layOthers_d144 : decode J_HField_layOthers.2.1 144 = .ok (.iconst 0, 1) := by decide +kernel
theorem J_HField_layOthers_d145 : decode J_HField_layOthers.2.1 145 = .ok (.aload_n 0, 1) := by decide +kernel
theorem J_HField_layOthers_d146 : decode J_HField_layOthers.2.1 146 = .ok (.getfield 34, 3) := by decide +kernel
theorem J_HField_layOthers_d149 : decode J_HField_layOthers.2.1 149 = .ok (.iconst 3, 1) := by decide +kernel
theorem J_HField_layOthers_d150 : decode J_HField_layOthers.2.1 150 = .ok (.if_icmp .gt 10, 3) := by decide +kernel
theorem J_HField_layOthers_d153 : decode J_HField_layOthers.2.1 153 = .ok (.aload_n 0, 1) := by decide +kernel
theorem J_HField_layOthers_d154 : decode J_HField_layOthers.2.1 154 = .ok (.getfield 47, 3) := by decide +kernel
theorem J_HField_layOthers_d157 : decode J_HField_layOthers.2.1 157 = .ok (.goto 22, 3) := by decide +kernel
theorem J_HField_layOthers_d160 : decode J_HField_layOthers.2.1 160 = .ok (.aload_n 0, 1) := by decide +kernel
theorem J_HField_layOthers_d161 : decode J_HField_layOthers.2.1 161 = .ok (.getfield 34, 3) := by decide +kernel
theorem J_HField_layOthers_d164 : decode J_HField_layOthers.2.1 164 = .ok (.bipush 7, 2) := by decide +kernel
theorem J_HField_layOthers_d166 : decode J_HField_layOthers.2.1 166 = .ok (.if_icmp .ne 12, 3) := by decide +kernel
theorem J_HField_layOthers_d169 : decode J_HField_layOthers.2.1 169 = .ok (.aload_n 0, 1) := by decide +kernel
theorem J_HField_layOthers_d170 : decode J_HField_layOthers.2.1 170 = .ok (.getfield 47, 3) := by decide +kernel
theorem J_HField_layOthers_d173 : decode J_HField_layOthers.2.1 173 = .ok (.iconst 2, 1) := by decide +kernel
theorem J_HField_layOthers_d174 : decode J_HField_layOthers.2.1 174 = .ok (.idiv, 1) := by decide +kernel
theorem J_HField_layOthers_d175 : decode J_HField_layOthers.2.1 175 = .ok (.goto 4, 3) := by decide +kernel
theorem J_HField_layOthers_d178 : decode J_HField_layOthers.2.1 178 = .ok (.iconst 0, 1) := by decide +kernel
theorem J_HField_layOthers_d179 : decode J_HField_layOthers.2.1 179 = .ok (.invokevirtual 98, 3) := by decide +kernel
theorem J_HField_layOthers_d182 : decode J_HField_layOthers.2.1 182 = .ok (.aload_n 0, 1) := by decide +kernel
theorem J_HField_layOthers_d183 : decode J_HField_layOthers.2.1 183 = .ok (.getfield 34, 3) := by decide +kernel
theorem J_HField_layOthers_d186 : decode J_HField_layOthers.2.1 186 = .ok (.iconst 1, 1) := by decide +kernel
theorem J_HField_layOthers_d187 : decode J_HField_layOthers.2.1 187 = .ok (.if_icmp .ne 12, 3) := by decide +kernel
theorem J_HField_layOthers_d190 : decode J_HField_layOthers.2.1 190 = .ok (.aload_n 0, 1) := by decide +kernel
theorem J_HField_layOthers_d191 : decode J_HField_layOthers.2.1 191 = .ok (.getfield 9, 3) := by decide +kernel
theorem J_HField_layOthers_d194 : decode J_HField_layOthers.2.1 194 = .ok (.iconst 3, 1) := by decide +kernel
theorem J_HField_layOthers_d195 : decode J_HField_layOthers.2.1 195 = .ok (.iaload, 1) := by decide +kernel
theorem J_HField_layOthers_d196 : decode J_HField_layOthers.2.1 196 = .ok (.ifCond .ne 5, 3) := by decide +kernel
theorem J_HField_layOthers_d199 : decode J_HField_layOthers.2.1 199 = .ok (.iconst 1, 1) := by decide +kernel
theorem J_HField_layOthers_d200 : decode J_HField_layOthers.2.1 200 = .ok (.ireturn, 1) := by decide +kernel
theorem J_HField_layOthers_d201 : decode J_HField_layOthers.2.1 201 = .ok (.aload_n 1, 1) := by decide +kernel
theorem J_HField_layOthers_d202 : decode J_HField_layOthers.2.1 202 = .ok (.iload 5, 2) := by decide +kernel
theorem J_HField_layOthers_d204 : decode J_HField_layOthers.2.1 204 = .ok (.iconst 1, 1) := by decide +kernel
theorem J_HField_layOthers_d205 : decode J_HField_layOthers.2.1 205 = .ok (.iadd, 1) := by decide +kernel
theorem J_HField_layOthers_d206 : decode J_HField_layOthers.2.1 206 = .ok (.iconst 0, 1) := by decide +kernel
theorem J_HField_layOthers_d207 : decode J_HField_layOthers.2.1 207 = .ok (.iload_n 2, 1) := by decide +kernel
theorem J_HField_layOthers_d208 : decode J_HField_layOthers.2.1 208 = .ok (.iload_n 3, 1) := by decide +kernel
theorem J_HField_layOthers_d209 : decode J_HField_layOthers.2.1 209 = .ok (.iload 7, 2) := by decide +kernel
theorem J_HField_layOthers_d211 : decode J_HField_layOthers.2.1 211 = .ok (.invokevirtual 90, 3) := by decide +kernel
theorem J_HField_layOthers_d214 : decode J_HField_layOthers.2.1 214 = .ok (.aload_n 1, 1) := by decide +kernel
theorem J_HField_layOthers_d215 : decode J_HField_layOthers.2.1 215 = .ok (.iload 5, 2) := by decide +kernel
theorem J_HField_layOthers_d217 : decode J_HField_layOthers.2.1 217 = .ok (.iconst 1, 1) := by decide +kernel
theorem J_HField_layOthers_d218 : decode J_HField_layOthers.2.1 218 = .ok (.iadd, 1) := by decide +kernel
theorem J_HField_layOthers_d219 : decode J_HField_layOthers.2.1 219 = .ok (.iconst 0, 1) := by decide +kernel
theorem J_HField_layOthers_d220 : decode J_HField_layOthers.2.1 220 = .ok (.aload_n 0, 1) := by decide +kernel
theorem J_HField_layOthers_d221 : decode J_HField_layOthers.2.1 221 = .ok (.getfield 9, 3) := by decide +kernel
theorem J_HField_layOthers_d224 : decode J_HField_layOthers.2.1 224 = .ok (.iconst 1, 1) := by decide +kernel
theorem J_HField_layOthers_d225 : decode J_HField_layOthers.2.1 225 = .ok (.iaload, 1) := by decide +kernel
theorem J_HField_layOthers_d226 : decode J_HField_layOthers.2.1 226 = .ok (.iconst 3, 1) := by decide +kernel
theorem J_HField_layOthers_d227 : decode J_HField_layOthers.2.1 227 = .ok (.iadd, 1) := by decide +kernel
theorem J_HField_layOthers_d228 : decode J_HField_layOthers.2.1 228 = .ok (.invokevirtual 101, 3) := by decide +kernel
theorem J_HField_layOthers_d231 : decode J_HField_layOthers.2.1 231 = .ok (.aload_n 1, 1) := by decide +kernel
theorem J_HField_layOthers_d232 : decode J_HField_layOthers.2.1 232 = .ok (.iload 5, 2) := by decide +kernel
theorem J_HField_layOthers_d234 : decode J_HField_layOthers.2.1 234 = .ok (.iconst 1, 1) := by decide +kernel
theorem J_HField_layOthers_d235 : decode J_HField_layOthers.2.1 235 = .ok (.iadd, 1) := by decide +kernel
theorem J_HField_layOthers_d236 : decode J_HField_layOthers.2.1 236 = .ok (.aload 4, 2) := by decide +kernel
theorem J_HField_layOthers_d238 : decode J_HField_layOthers.2.1 238 = .ok (.iconst 0, 1) := by decide +kernel
theorem J_HField_layOthers_d239 : decode J_HField_layOthers.2.1 239 = .ok (.iaload, 1) := by decide +kernel
theorem J_HField_layOthers_d240 : decode J_HField_layOthers.2.1 240 = .ok (.aload 4, 2) := by decide +kernel
theorem J_HField_layOthers_d242 : decode J_HField_layOthers.2.1 242 = .ok (.iconst 1, 1) := by decide +kernel
theorem J_HField_layOthers_d243 : decode J_HField_layOthers.2.1 243 = .ok (.iaload, 1) := by decide +kernel
theorem J_HField_layOthers_d244 : decode J_HField_layOthers.2.1 244 = .ok (.aload 4, 2) := by decide +kernel
theorem J_HField_layOthers_d246 : decode J_HField_layOthers.2.1 246 = .ok (.iconst 2, 1) := by decide +kernel
theorem J_HField_layOthers_d247 : decode J_HField_layOthers.2.1 247 = .ok (.iaload, 1) := by decide +kernel
theorem J_HField_layOthers_d248 : decode J_HField_layOthers.2.1 248 = .ok (.invokevirtual 94, 3) := by decide +kernel
theorem J_HField_layOthers_d251 : decode J_HField_layOthers.2.1 251 = .ok (.aload_n 1, 1) := by decide +kernel
theorem J_HField_layOthers_d252 : decode J_HField_layOthers.2.1 252 = .ok (.iload 5, 2) := by decide +kernel
theorem J_HField_layOthers_d254 : decode J_HField_layOthers.2.1 254 = .ok (.iconst 1, 1) := by decide +kernel
theorem J_HField_layOthers_d255 : decode J_HField_layOthers.2.1 255 = .ok (.iadd, 1) := by decide +kernel
theorem J_HField_layOthers_d256 : decode J_HField_layOthers.2.1 256 = .ok (.iload 5, 2) := by decide +kernel
theorem J_HField_layOthers_d258 : decode J_HField_layOthers.2.1 258 = .ok (.iconst 0, 1) := by decide +kernel
theorem J_HField_layOthers_d259 : decode J_HField_layOthers.2.1 259 = .ok (.aload_n 0, 1) := by decide +kernel
theorem J_HField_layOthers_d260 : decode J_HField_layOthers.2.1 260 = .ok (.getfield 47, 3) := by decide +kernel
theorem J_HField_layOthers_d263 : decode J_HField_layOthers.2.1 263 = .ok (.invokevirtual 98, 3) := by decide +kernel
theorem J_HField_layOthers_d266 : decode J_HField_layOthers.2.1 266 = .ok (.iconst 2, 1) := by decide +kernel
theorem J_HField_layOthers_d267 : decode J_HField_layOthers.2.1 267 = .ok (.ireturn, 1) := by decide +kernel
theorem f_HField_layOthers_ok {L : Nat} {xs : Nat → Int32} {dep : Nat} {w : Bool} {p1 : Int32} {p2 : Int32} {M : im_M} {Q : Int32 × im_M → Prop} (hM : lw_S w M) (h : ed (f_HField_layOthers p1 p2 M) Q) : ia (tb_G L xs) (dep + 3) J_HField_layOthers (rwI w Q) (0, lv_args 0 [.ref 23, .ref 19, .int p1, .int p2, .ref 18], [], M) := by
  have hS : im_St (tb_G L xs) (dep + 3) J_HField_layOthers (ia (tb_G L xs) (dep + 3) J_HField_layOthers (rwI w Q)) := ia_St
  unfold f_HField_layOthers at h
  have l0 : im_lk (lv_args 0 [.ref 23, .ref 19, .int p1, .int p2, .ref 18]) 0 = some (.ref 23) := rfl
  have l1 : im_lk (lv_args 0 [.ref 23, .ref 19, .int p1, .int p2, .ref 18]) 1 = some (.ref 19) := rfl
  have l2 : im_lk (lv_args 0 [.ref 23, .ref 19, .int p1, .int p2, .ref 18]) 2 = some (.int p1) := rfl
  have l3 : im_lk (lv_args 0 [.ref 23, .ref 19, .int p1, .int p2, .ref 18]) 3 = some (.int p2) := rfl
  have l4 : im_lk (lv_args 0 [.ref 23, .ref 19, .int p1, .int p2, .ref 18]) 4 = some (.ref 18) := rfl
  refine iq_aload_n hS 1 J_HField_layOthers_d0 l1 rfl ?_
  refine iq_getI hS 4 J_HField_layOthers_d1 lf_2_81 (Or.inl rfl) (ka_19 hM) rfl ?_
  refine iq_istore hS 6 J_HField_layOthers_d4 (by decide) rfl ?_
  refine iq_aload_n hS 7 J_HField_layOthers_d6 (lk_1r l0 (by decide)) rfl ?_
  refine iq_getI hS 10 J_HField_layOthers_d7 lf_2_34 (Or.inl rfl) (ka_23 hM) rfl ?_
  refine iq_iconst hS 11 J_HField_layOthers_d10 (v := 1) (by decide +kernel) rfl ?_
  have J1 : ∀ (z2 : Int32) (L' : List (Nat × Value)), z2 = ((if (im_i M 23 2) = 1 then 1 else (if ¬ (im_i M 23 2) = 2 then 0 else 1)) : Int32) → im_lk L' 0 = some (.ref 23) → im_lk L' 1 = some (.ref 19) → im_lk L' 2 = some (.int p1) → im_lk L' 3 = some (.int p2) → im_lk L' 4 = some (.ref 18) → im_lk L' 5 = some (.int (im_i M 19 3)) → ia (tb_G L xs) (dep + 3) J_HField_layOthers (rwI w Q) (27, L', [.int z2], M) := by
    intro z2 L' e3 l4 l5 l6 l7 l8 l9
    subst e3
    refine iq_istore hS 29 J_HField_layOthers_d27 (by decide) rfl ?_
    refine iq_iload hS 31 J_HField_layOthers_d29 lk_1s rfl ?_
    obtain ⟨Q10, hQ10, h⟩ := bd1_ed h
    have J10 : ∀ (y19 : Int32) (L' : List (Nat × Value)), im_lk L' 0 = some (.ref 23) → im_lk L' 1 = some (.ref 19) → im_lk L' 2 = some (.int p1) → im_lk L' 3 = some (.int p2) → im_lk L' 4 = some (.ref 18) → im_lk L' 5 = some (.int (im_i M 19 3)) → im_lk L' 6 = some (.int ((if (im_i M 23 2) = 1 then 1 else (if ¬ (im_i M 23 2) = 2 then 0 else 1)) : Int32)) → Q10 y19 → ia (tb_G L xs) (dep + 3) J_HField_layOthers (rwI w Q) (68, L', [.int y19], M) := by
      intro y19 L' l20 l21 l22 l23 l24 l25 l26 h
      replace h := hQ10 _ h
      refine iq_istore hS 70 J_HField_layOthers_d68 (by decide) rfl ?_
      refine iq_aload_n hS 71 J_HField_layOthers_d70 (lk_1r l21 (by decide)) rfl ?_
      refine iq_iload hS 73 J_HField_layOthers_d71 (lk_1i l25 (by decide)) rfl ?_
      refine iq_aload_n hS 74 J_HField_layOthers_d73 (lk_1r l20 (by decide)) rfl ?_
      refine iq_getI hS 77 J_HField_layOthers_d74 lf_2_34 (Or.inl rfl) (ka_23 hM) rfl ?_
      refine iq_iload_n hS 78 J_HField_layOthers_d77 (lk_1i l22 (by decide)) rfl ?_
      refine iq_iload_n hS 79 J_HField_layOthers_d78 (lk_1i l23 (by decide)) rfl ?_
      refine iq_iload hS 81 J_HField_layOthers_d79 lk_1s rfl ?_
      obtain ⟨Q27, hQ27, h⟩ := bd1_ed h
      refine iq_cwV hS 84 J_HField_layOthers_d81 rfl (pr_inst (vs := [_, _, _, _, _]) lc_2_90 lT_52 rfl rfl (by decide) (by decide) rfl (Nat.le_of_ble_eq_true rfl) (Nat.le_of_ble_eq_true rfl) (fun _ => Or.inl (pr_b (ka_19 hM) (by decide) rfl))) (f_HOrders_lay_ok (dep := dep + 0) hM h) rfl ?_
      intro M27 hM27 h
      replace h := hQ27 _ h
      refine iq_aload_n hS 85 J_HField_layOthers_d84 (lk_1r l21 (by decide)) rfl ?_
      refine iq_iload hS 87 J_HField_layOthers_d85 (lk_1i l25 (by decide)) rfl ?_
      refine iq_aload_n hS 88 J_HField_layOthers_d87 (lk_1r l20 (by decide)) rfl ?_
      refine iq_getR hS 91 J_HField_layOthers_d88 lf_2_9 (Or.inr ⟨_, rfl⟩) (ka_23 hM27) (ra_23_3 hM27) rfl ?_
      refine iq_iconst hS 92 J_HField_layOthers_d91 (v := 0) (by decide +kernel) rfl ?_
      obtain ⟨g92, h⟩ := ed_gd h
      refine iq_iaload hS 93 J_HField_layOthers_d92 ⟨(ka_24 hM27).1, (ka_24 hM27).2, g92.1, ix_lt (kl_24 hM27) g92.2⟩ rfl ?_
      refine iq_aload_n hS 94 J_HField_layOthers_d93 (lk_1r l20 (by decide)) rfl ?_
      refine iq_getI hS 97 J_HField_layOthers_d94 lf_2_34 (Or.inl rfl) (ka_23 hM27) rfl ?_
      refine iq_bipush hS 99 J_HField_layOthers_d97 (v := 7) (by decide +kernel) rfl ?_
      obtain ⟨Q28, hQ28, h⟩ := bd1_ed h
      have J28 : ∀ (y29 : Int32) (L' : List (Nat × Value)), im_lk L' 0 = some (.ref 23) → im_lk L' 1 = some (.ref 19) → im_lk L' 2 = some (.int p1) → im_lk L' 3 = some (.int p2) → im_lk L' 4 = some (.ref 18) → im_lk L' 5 = some (.int (im_i M 19 3)) → im_lk L' 6 = some (.int ((if (im_i M 23 2) = 1 then 1 else (if ¬ (im_i M 23 2) = 2 then 0 else 1)) : Int32)) → im_lk L' 7 = some (.int y19) → Q28 y29 → ia (tb_G L xs) (dep + 3) J_HField_layOthers (rwI w Q) (112, L', [.int y29, .int (im_i M27 24 (Int32.toNatClampNeg 0)), .int (im_i M 19 3), .ref 19], M27) := by
        intro y29 L' l30 l31 l32 l33 l34 l35 l36 l37 h
        replace h := hQ28 _ h
        refine iq_iload hS 114 J_HField_layOthers_d112 l36 rfl ?_
        obtain ⟨Q38, hQ38, h⟩ := bd1_ed h
        have J38 : ∀ (y47 : Int32) (L' : List (Nat × Value)), im_lk L' 0 = some (.ref 23) → im_lk L' 1 = some (.ref 19) → im_lk L' 2 = some (.int p1) → im_lk L' 3 = some (.int p2) → im_lk L' 4 = some (.ref 18) → im_lk L' 5 = some (.int (im_i M 19 3)) → im_lk L' 7 = some (.int y19) → Q38 y47 → ia (tb_G L xs) (dep + 3) J_HField_layOthers (rwI w Q) (136, L', [.int y47, .int y29, .int (im_i M27 24 (Int32.toNatClampNeg 0)), .int (im_i M 19 3), .ref 19], M27) := by
          intro y47 L' l48 l49 l50 l51 l52 l53 l54 h
          replace h := hQ38 _ h
          obtain ⟨Q55, hQ55, h⟩ := bd1_ed h
          refine iq_cwV hS 139 J_HField_layOthers_d136 rfl (pr_inst (vs := [_, _, _, _]) lc_2_94 lT_65 rfl rfl (by decide) (by decide) rfl (Nat.le_of_ble_eq_true rfl) (Nat.le_of_ble_eq_true rfl) (fun _ => Or.inl (pr_b (ka_19 hM27) (by decide) rfl))) (f_HOrders_number_ok (dep := dep + 2) hM27 h) rfl ?_
          intro M55 hM55 h
          replace h := hQ55 _ h
          refine iq_aload_n hS 140 J_HField_layOthers_d139 l49 rfl ?_
          refine iq_iload hS 142 J_HField_layOthers_d140 l53 rfl ?_
          refine iq_iload hS 144 J_HField_layOthers_d142 l53 rfl ?_
          refine iq_iconst hS 145 J_HField_layOthers_d144 (v := 0) (by decide +kernel) rfl ?_
          refine iq_aload_n hS 146 J_HField_layOthers_d145 l48 rfl ?_
          refine iq_getI hS 149 J_HField_layOthers_d146 lf_2_34 (Or.inl rfl) (ka_23 hM55) rfl ?_
          refine iq_iconst hS 150 J_HField_layOthers_d149 (v := 3) (by decide +kernel) rfl ?_
          obtain ⟨Q56, hQ56, h⟩ := bd1_ed h
          have J56 : ∀ (y57 : Int32) (L' : List (Nat × Value)), im_lk L' 0 = some (.ref 23) → im_lk L' 1 = some (.ref 19) → im_lk L' 2 = some (.int p1) → im_lk L' 3 = some (.int p2) → im_lk L' 4 = some (.ref 18) → im_lk L' 5 = some (.int (im_i M 19 3)) → im_lk L' 7 = some (.int y19) → Q56 y57 → ia (tb_G L xs) (dep + 3) J_HField_layOthers (rwI w Q) (179, L', [.int y57, .int 0, .int (im_i M 19 3), .int (im_i M 19 3), .ref 19], M55) := by
            intro y57 L' l58 l59 l60 l61 l62 l63 l64 h
            replace h := hQ56 _ h
            obtain ⟨Q65, hQ65, h⟩ := bd1_ed h
            refine iq_cwV hS 182 J_HField_layOthers_d179 rfl (pr_inst (vs := [_, _, _, _]) lc_2_98 lT_66 rfl rfl (by decide) (by decide) rfl (Nat.le_of_ble_eq_true rfl) (Nat.le_of_ble_eq_true rfl) (fun _ => Or.inl (pr_b (ka_19 hM55) (by decide) rfl))) (f_HOrders_slice_ok (dep := dep + 2) hM55 h) rfl ?_
            intro M65 hM65 h
            replace h := hQ65 _ h
            refine iq_aload_n hS 183 J_HField_layOthers_d182 l58 rfl ?_
            refine iq_getI hS 186 J_HField_layOthers_d183 lf_2_34 (Or.inl rfl) (ka_23 hM65) rfl ?_
            refine iq_iconst hS 187 J_HField_layOthers_d186 (v := 1) (by decide +kernel) rfl ?_
            refine iq_icmp_ne hS 190 J_HField_layOthers_d187 (t := 199) rfl (fun q187 => ?_) rfl (fun q187 => ?_)
            · replace h := ed_pos q187 h
              refine iq_iconst hS 200 J_HField_layOthers_d199 (v := 1) (by decide +kernel) rfl ?_
              exact iq_iret J_HField_layOthers_d200 rfl rfl ⟨_, rfl, hM65, ed_some h⟩
            · replace h := ed_neg q187 h
              refine iq_aload_n hS 191 J_HField_layOthers_d190 l58 rfl ?_
              refine iq_getR hS 194 J_HField_layOthers_d191 lf_2_9 (Or.inr ⟨_, rfl⟩) (ka_23 hM65) (ra_23_3 hM65) rfl ?_
              refine iq_iconst hS 195 J_HField_layOthers_d194 (v := 3) (by decide +kernel) rfl ?_
              obtain ⟨g195, h⟩ := ed_gd h
              refine iq_iaload hS 196 J_HField_layOthers_d195 ⟨(ka_24 hM65).1, (ka_24 hM65).2, g195.1, ix_lt (kl_24 hM65) g195.2⟩ rfl ?_
              refine iq_if_ne hS 199 J_HField_layOthers_d196 (t := 201) rfl (fun q196 => ?_) rfl (fun q196 => ?_)
              · replace h := ed_pos q196 h
                refine iq_aload_n hS 202 J_HField_layOthers_d201 l59 rfl ?_
                refine iq_iload hS 204 J_HField_layOthers_d202 l63 rfl ?_
                refine iq_iconst hS 205 J_HField_layOthers_d204 (v := 1) (by decide +kernel) rfl ?_
                refine iq_iadd hS 206 J_HField_layOthers_d205 rfl ?_
                refine iq_iconst hS 207 J_HField_layOthers_d206 (v := 0) (by decide +kernel) rfl ?_
                refine iq_iload_n hS 208 J_HField_layOthers_d207 l60 rfl ?_
                refine iq_iload_n hS 209 J_HField_layOthers_d208 l61 rfl ?_
                refine iq_iload hS 211 J_HField_layOthers_d209 l64 rfl ?_
                obtain ⟨Q66, hQ66, h⟩ := bd1_ed h
                refine iq_cwV hS 214 J_HField_layOthers_d211 rfl (pr_inst (vs := [_, _, _, _, _]) lc_2_90 lT_52 rfl rfl (by decide) (by decide) rfl (Nat.le_of_ble_eq_true rfl) (Nat.le_of_ble_eq_true rfl) (fun _ => Or.inl (pr_b (ka_19 hM65) (by decide) rfl))) (f_HOrders_lay_ok (dep := dep + 0) hM65 h) rfl ?_
                intro M66 hM66 h
                replace h := hQ66 _ h
                refine iq_aload_n hS 215 J_HField_layOthers_d214 l59 rfl ?_
                refine iq_iload hS 217 J_HField_layOthers_d215 l63 rfl ?_
                refine iq_iconst hS 218 J_HField_layOthers_d217 (v := 1) (by decide +kernel) rfl ?_
                refine iq_iadd hS 219 J_HField_layOthers_d218 rfl ?_
                refine iq_iconst hS 220 J_HField_layOthers_d219 (v := 0) (by decide +kernel) rfl ?_
                refine iq_aload_n hS 221 J_HField_layOthers_d220 l58 rfl ?_
                refine iq_getR hS 224 J_HField_layOthers_d221 lf_2_9 (Or.inr ⟨_, rfl⟩) (ka_23 hM66) (ra_23_3 hM66) rfl ?_
                refine iq_iconst hS 225 J_HField_layOthers_d224 (v := 1) (by decide +kernel) rfl ?_
                obtain ⟨g225, h⟩ := ed_gd h
                refine iq_iaload hS 226 J_HField_layOthers_d225 ⟨(ka_24 hM66).1, (ka_24 hM66).2, g225.1, ix_lt (kl_24 hM66) g225.2⟩ rfl ?_
                refine iq_iconst hS 227 J_HField_layOthers_d226 (v := 3) (by decide +kernel) rfl ?_
                refine iq_iadd hS 228 J_HField_layOthers_d227 rfl ?_
                obtain ⟨Q67, hQ67, h⟩ := bd1_ed h
                refine iq_cwV hS 231 J_HField_layOthers_d228 rfl (pr_inst (vs := [_, _, _]) lc_2_101 lT_64 rfl rfl (by decide) (by decide) rfl (Nat.le_of_ble_eq_true rfl) (Nat.le_of_ble_eq_true rfl) (fun _ => Or.inl (pr_b (ka_19 hM66) (by decide) rfl))) (f_HOrders_move_ok (dep := dep + 2) hM66 h) rfl ?_
                intro M67 hM67 h
                replace h := hQ67 _ h
                refine iq_aload_n hS 232 J_HField_layOthers_d231 l59 rfl ?_
                refine iq_iload hS 234 J_HField_layOthers_d232 l63 rfl ?_
                refine iq_iconst hS 235 J_HField_layOthers_d234 (v := 1) (by decide +kernel) rfl ?_
                refine iq_iadd hS 236 J_HField_layOthers_d235 rfl ?_
                refine iq_aload hS 238 J_HField_layOthers_d236 l62 rfl ?_
                refine iq_iconst hS 239 J_HField_layOthers_d238 (v := 0) (by decide +kernel) rfl ?_
                obtain ⟨g239, h⟩ := ed_gd h
                refine iq_iaload hS 240 J_HField_layOthers_d239 ⟨(ka_18 hM67).1, (ka_18 hM67).2, g239.1, ix_lt (kl_18 hM67) g239.2⟩ rfl ?_
                refine iq_aload hS 242 J_HField_layOthers_d240 l62 rfl ?_
                refine iq_iconst hS 243 J_HField_layOthers_d242 (v := 1) (by decide +kernel) rfl ?_
                obtain ⟨g243, h⟩ := ed_gd h
                refine iq_iaload hS 244 J_HField_layOthers_d243 ⟨(ka_18 hM67).1, (ka_18 hM67).2, g243.1, ix_lt (kl_18 hM67) g243.2⟩ rfl ?_
                refine iq_aload hS 246 J_HField_layOthers_d244 l62 rfl ?_
                refine iq_iconst hS 247 J_HField_layOthers_d246 (v := 2) (by decide +kernel) rfl ?_
                obtain ⟨g247, h⟩ := ed_gd h
                refine iq_iaload hS 248 J_HField_layOthers_d247 ⟨(ka_18 hM67).1, (ka_18 hM67).2, g247.1, ix_lt (kl_18 hM67) g247.2⟩ rfl ?_
                obtain ⟨Q68, hQ68, h⟩ := bd1_ed h
                refine iq_cwV hS 251 J_HField_layOthers_d248 rfl (pr_inst (vs := [_, _, _, _]) lc_2_94 lT_65 rfl rfl (by decide) (by decide) rfl (Nat.le_of_ble_eq_true rfl) (Nat.le_of_ble_eq_true rfl) (fun _ => Or.inl (pr_b (ka_19 hM67) (by decide) rfl))) (f_HOrders_number_ok (dep := dep + 2) hM67 h) rfl ?_
                intro M68 hM68 h
                replace h := hQ68 _ h
                refine iq_aload_n hS 252 J_HField_layOthers_d251 l59 rfl ?_
                refine iq_iload hS 254 J_HField_layOthers_d252 l63 rfl ?_
                refine iq_iconst hS 255 J_HField_layOthers_d254 (v := 1) (by decide +kernel) rfl ?_
                refine iq_iadd hS 256 J_HField_layOthers_d255 rfl ?_
                refine iq_iload hS 258 J_HField_layOthers_d256 l63 rfl ?_
                refine iq_iconst hS 259 J_HField_layOthers_d258 (v := 0) (by decide +kernel) rfl ?_
                refine iq_aload_n hS 260 J_HField_layOthers_d259 l58 rfl ?_
                refine iq_getI hS 263 J_HField_layOthers_d260 lf_2_47 (Or.inl rfl) (ka_23 hM68) rfl ?_
                obtain ⟨Q69, hQ69, h⟩ := bd1_ed h
                refine iq_cwV hS 266 J_HField_layOthers_d263 rfl (pr_inst (vs := [_, _, _, _]) lc_2_98 lT_66 rfl rfl (by decide) (by decide) rfl (Nat.le_of_ble_eq_true rfl) (Nat.le_of_ble_eq_true rfl) (fun _ => Or.inl (pr_b (ka_19 hM68) (by decide) rfl))) (f_HOrders_slice_ok (dep := dep + 2) hM68 h) rfl ?_
                intro M69 hM69 h
                replace h := hQ69 _ h
                refine iq_iconst hS 267 J_HField_layOthers_d266 (v := 2) (by decide +kernel) rfl ?_
                exact iq_iret J_HField_layOthers_d267 rfl rfl ⟨_, rfl, hM69, ed_some h⟩
              · replace h := ed_neg q196 h
                refine iq_iconst hS 200 J_HField_layOthers_d199 (v := 1) (by decide +kernel) rfl ?_
                exact iq_iret J_HField_layOthers_d200 rfl rfl ⟨_, rfl, hM65, ed_some h⟩
          refine iq_icmp_gt hS 153 J_HField_layOthers_d150 (t := 160) rfl (fun q150 => ?_) rfl (fun q150 => ?_)
          · replace h := ed_pos q150 h
            refine iq_aload_n hS 161 J_HField_layOthers_d160 l48 rfl ?_
            refine iq_getI hS 164 J_HField_layOthers_d161 lf_2_34 (Or.inl rfl) (ka_23 hM55) rfl ?_
            refine iq_bipush hS 166 J_HField_layOthers_d164 (v := 7) (by decide +kernel) rfl ?_
            refine iq_icmp_ne hS 169 J_HField_layOthers_d166 (t := 178) rfl (fun q166 => ?_) rfl (fun q166 => ?_)
            · replace h := ed_pos q166 h
              refine iq_iconst hS 179 J_HField_layOthers_d178 (v := 0) (by decide +kernel) rfl ?_
              exact J56 _ _ l48 l49 l50 l51 l52 l53 l54 (ed_some h)
            · replace h := ed_neg q166 h
              refine iq_aload_n hS 170 J_HField_layOthers_d169 l48 rfl ?_
              refine iq_getI hS 173 J_HField_layOthers_d170 lf_2_47 (Or.inl rfl) (ka_23 hM55) rfl ?_
              refine iq_iconst hS 174 J_HField_layOthers_d173 (v := 2) (by decide +kernel) rfl ?_
              refine iq_idiv hS 175 J_HField_layOthers_d174 (by decide) rfl ?_
              refine iq_goto hS J_HField_layOthers_d175 (t := 179) rfl ?_
              exact J56 _ _ l48 l49 l50 l51 l52 l53 l54 (ed_some h)
          · replace h := ed_neg q150 h
            refine iq_aload_n hS 154 J_HField_layOthers_d153 l48 rfl ?_
            refine iq_getI hS 157 J_HField_layOthers_d154 lf_2_47 (Or.inl rfl) (ka_23 hM55) rfl ?_
            refine iq_goto hS J_HField_layOthers_d157 (t := 179) rfl ?_
            exact J56 _ _ l48 l49 l50 l51 l52 l53 l54 (ed_some h)
        obtain ⟨k39, Q39, hQ39, hk39, h⟩ := jn0_ed h
        have J39 : ∀  (L' : List (Nat × Value)), im_lk L' 0 = some (.ref 23) → im_lk L' 1 = some (.ref 19) → im_lk L' 2 = some (.int p1) → im_lk L' 3 = some (.int p2) → im_lk L' 4 = some (.ref 18) → im_lk L' 5 = some (.int (im_i M 19 3)) → im_lk L' 7 = some (.int y19) → Q39 () → ia (tb_G L xs) (dep + 3) J_HField_layOthers (rwI w Q) (126, L', [.int y29, .int (im_i M27 24 (Int32.toNatClampNeg 0)), .int (im_i M 19 3), .ref 19], M27) := by
          intro  L' l40 l41 l42 l43 l44 l45 l46 h
          replace h := hQ39  h
          refine iq_iconst hS 127 J_HField_layOthers_d126 (v := 0) (by decide +kernel) rfl ?_
          refine iq_goto hS J_HField_layOthers_d127 (t := 136) rfl ?_
          exact J38 _ _ l40 l41 l42 l43 l44 l45 l46 (ed_some h)
        refine iq_if_ne hS 117 J_HField_layOthers_d114 (t := 126) rfl (fun q114 => ?_) rfl (fun q114 => ?_)
        · replace h := ed_pos q114 h
          exact J39  _ l30 l31 l32 l33 l34 l35 l37 (hk39  h)
        · replace h := ed_neg q114 h
          refine iq_aload_n hS 118 J_HField_layOthers_d117 l30 rfl ?_
          refine iq_getI hS 121 J_HField_layOthers_d118 lf_2_34 (Or.inl rfl) (ka_23 hM27) rfl ?_
          refine iq_bipush hS 123 J_HField_layOthers_d121 (v := 7) (by decide +kernel) rfl ?_
          refine iq_icmp_ne hS 126 J_HField_layOthers_d123 (t := 130) rfl (fun q123 => ?_) rfl (fun q123 => ?_)
          · replace h := ed_pos q123 h
            refine iq_aload_n hS 131 J_HField_layOthers_d130 l30 rfl ?_
            refine iq_getR hS 134 J_HField_layOthers_d131 lf_2_9 (Or.inr ⟨_, rfl⟩) (ka_23 hM27) (ra_23_3 hM27) rfl ?_
            refine iq_iconst hS 135 J_HField_layOthers_d134 (v := 2) (by decide +kernel) rfl ?_
            obtain ⟨g135, h⟩ := ed_gd h
            refine iq_iaload hS 136 J_HField_layOthers_d135 ⟨(ka_24 hM27).1, (ka_24 hM27).2, g135.1, ix_lt (kl_24 hM27) g135.2⟩ rfl ?_
            exact J38 _ _ l30 l31 l32 l33 l34 l35 l37 (ed_some h)
          · replace h := ed_neg q123 h
            exact J39  _ l30 l31 l32 l33 l34 l35 l37 (hk39  h)
      refine iq_icmp_ne hS 102 J_HField_layOthers_d99 (t := 106) rfl (fun q99 => ?_) rfl (fun q99 => ?_)
      · replace h := ed_pos q99 h
        refine iq_aload_n hS 107 J_HField_layOthers_d106 (lk_1r l20 (by decide)) rfl ?_
        refine iq_getR hS 110 J_HField_layOthers_d107 lf_2_9 (Or.inr ⟨_, rfl⟩) (ka_23 hM27) (ra_23_3 hM27) rfl ?_
        refine iq_iconst hS 111 J_HField_layOthers_d110 (v := 1) (by decide +kernel) rfl ?_
        obtain ⟨g111, h⟩ := ed_gd h
        refine iq_iaload hS 112 J_HField_layOthers_d111 ⟨(ka_24 hM27).1, (ka_24 hM27).2, g111.1, ix_lt (kl_24 hM27) g111.2⟩ rfl ?_
        exact J28 _ _ (lk_1r l20 (by decide)) (lk_1r l21 (by decide)) (lk_1i l22 (by decide)) (lk_1i l23 (by decide)) (lk_1r l24 (by decide)) (lk_1i l25 (by decide)) (lk_1i l26 (by decide)) lk_1s (ed_some h)
      · replace h := ed_neg q99 h
        refine iq_iconst hS 103 J_HField_layOthers_d102 (v := 0) (by decide +kernel) rfl ?_
        refine iq_goto hS J_HField_layOthers_d103 (t := 112) rfl ?_
        exact J28 _ _ (lk_1r l20 (by decide)) (lk_1r l21 (by decide)) (lk_1i l22 (by decide)) (lk_1i l23 (by decide)) (lk_1r l24 (by decide)) (lk_1i l25 (by decide)) (lk_1i l26 (by decide)) lk_1s (ed_some h)
    refine iq_if_eq hS 34 J_HField_layOthers_d31 (t := 43) rfl (fun q31 => ?_) rfl (fun q31 => ?_)
    · replace h := ed_pos q31 h
      refine iq_aload_n hS 44 J_HField_layOthers_d43 (lk_1r l4 (by decide)) rfl ?_
      refine iq_getI hS 47 J_HField_layOthers_d44 lf_2_34 (Or.inl rfl) (ka_23 hM) rfl ?_
      obtain ⟨k11, Q11, hQ11, hk11, h⟩ := jn0_ed h
      have J11 : ∀  (L' : List (Nat × Value)), im_lk L' 0 = some (.ref 23) → im_lk L' 1 = some (.ref 19) → im_lk L' 2 = some (.int p1) → im_lk L' 3 = some (.int p2) → im_lk L' 4 = some (.ref 18) → im_lk L' 5 = some (.int (im_i M 19 3)) → im_lk L' 6 = some (.int ((if (im_i M 23 2) = 1 then 1 else (if ¬ (im_i M 23 2) = 2 then 0 else 1)) : Int32)) → Q11 () → ia (tb_G L xs) (dep + 3) J_HField_layOthers (rwI w Q) (58, L', [], M) := by
        intro  L' l12 l13 l14 l15 l16 l17 l18 h
        replace h := hQ11  h
        refine iq_aload_n hS 59 J_HField_layOthers_d58 l12 rfl ?_
        refine iq_getR hS 62 J_HField_layOthers_d59 lf_2_9 (Or.inr ⟨_, rfl⟩) (ka_23 hM) (ra_23_3 hM) rfl ?_
        refine iq_iconst hS 63 J_HField_layOthers_d62 (v := 3) (by decide +kernel) rfl ?_
        obtain ⟨g63, h⟩ := ed_gd h
        refine iq_iaload hS 64 J_HField_layOthers_d63 ⟨(ka_24 hM).1, (ka_24 hM).2, g63.1, ix_lt (kl_24 hM) g63.2⟩ rfl ?_
        refine iq_goto hS J_HField_layOthers_d64 (t := 68) rfl ?_
        exact J10 _ _ l12 l13 l14 l15 l16 l17 l18 (ed_some h)
      refine iq_if_eq hS 50 J_HField_layOthers_d47 (t := 58) rfl (fun q47 => ?_) rfl (fun q47 => ?_)
      · replace h := ed_pos q47 h
        exact J11  _ (lk_1r l4 (by decide)) (lk_1r l5 (by decide)) (lk_1i l6 (by decide)) (lk_1i l7 (by decide)) (lk_1r l8 (by decide)) (lk_1i l9 (by decide)) lk_1s (hk11  h)
      · replace h := ed_neg q47 h
        refine iq_aload_n hS 51 J_HField_layOthers_d50 (lk_1r l4 (by decide)) rfl ?_
        refine iq_getI hS 54 J_HField_layOthers_d51 lf_2_34 (Or.inl rfl) (ka_23 hM) rfl ?_
        refine iq_iconst hS 55 J_HField_layOthers_d54 (v := 3) (by decide +kernel) rfl ?_
        refine iq_icmp_ne hS 58 J_HField_layOthers_d55 (t := 67) rfl (fun q55 => ?_) rfl (fun q55 => ?_)
        · replace h := ed_pos q55 h
          refine iq_iconst hS 68 J_HField_layOthers_d67 (v := 0) (by decide +kernel) rfl ?_
          exact J10 _ _ (lk_1r l4 (by decide)) (lk_1r l5 (by decide)) (lk_1i l6 (by decide)) (lk_1i l7 (by decide)) (lk_1r l8 (by decide)) (lk_1i l9 (by decide)) lk_1s (ed_some h)
        · replace h := ed_neg q55 h
          exact J11  _ (lk_1r l4 (by decide)) (lk_1r l5 (by decide)) (lk_1i l6 (by decide)) (lk_1i l7 (by decide)) (lk_1r l8 (by decide)) (lk_1i l9 (by decide)) lk_1s (hk11  h)
    · replace h := ed_neg q31 h
      refine iq_aload_n hS 35 J_HField_layOthers_d34 (lk_1r l4 (by decide)) rfl ?_
      refine iq_getR hS 38 J_HField_layOthers_d35 lf_2_9 (Or.inr ⟨_, rfl⟩) (ka_23 hM) (ra_23_3 hM) rfl ?_
      refine iq_iconst hS 39 J_HField_layOthers_d38 (v := 2) (by decide +kernel) rfl ?_
      obtain ⟨g39, h⟩ := ed_gd h
      refine iq_iaload hS 40 J_HField_layOthers_d39 ⟨(ka_24 hM).1, (ka_24 hM).2, g39.1, ix_lt (kl_24 hM) g39.2⟩ rfl ?_
      refine iq_goto hS J_HField_layOthers_d40 (t := 68) rfl ?_
      exact J10 _ _ (lk_1r l4 (by decide)) (lk_1r l5 (by decide)) (lk_1i l6 (by decide)) (lk_1i l7 (by decide)) (lk_1r l8 (by decide)) (lk_1i l9 (by decide)) lk_1s (ed_some h)
  refine iq_icmp_eq hS 14 J_HField_layOthers_d11 (t := 22) rfl (fun q11 => ?_) rfl (fun q11 => ?_)
  · refine iq_iconst hS 23 J_HField_layOthers_d22 (v := 1) (by decide +kernel) rfl ?_
    refine iq_goto hS J_HField_layOthers_d23 (t := 27) rfl ?_
    exact J1 _ _ (by rw [if_pos q11]) (lk_1r l0 (by decide)) (lk_1r l1 (by decide)) (lk_1i l2 (by decide)) (lk_1i l3 (by decide)) (lk_1r l4 (by decide)) lk_1s
  · refine iq_aload_n hS 15 J_HField_layOthers_d14 (lk_1r l0 (by decide)) rfl ?_
    refine iq_getI hS 18 J_HField_layOthers_d15 lf_2_34 (Or.inl rfl) (ka_23 hM) rfl ?_
    refine iq_iconst hS 19 J_HField_layOthers_d18 (v := 2) (by decide +kernel) rfl ?_
    refine iq_icmp_ne hS 22 J_HField_layOthers_d19 (t := 26) rfl (fun q19 => ?_) rfl (fun q19 => ?_)
    · refine iq_iconst hS 27 J_HField_layOthers_d26 (v := 0) (by decide +kernel) rfl ?_
      exact J1 _ _ (by rw [if_neg q11, if_pos q19]) (lk_1r l0 (by decide)) (lk_1r l1 (by decide)) (lk_1i l2 (by decide)) (lk_1i l3 (by decide)) (lk_1r l4 (by decide)) lk_1s
    · refine iq_iconst hS 23 J_HField_layOthers_d22 (v := 1) (by decide +kernel) rfl ?_
      refine iq_goto hS J_HField_layOthers_d23 (t := 27) rfl ?_
      exact J1 _ _ (by rw [if_neg q11, if_neg q19]) (lk_1r l0 (by decide)) (lk_1r l1 (by decide)) (lk_1i l2 (by decide)) (lk_1i l3 (by decide)) (lk_1r l4 (by decide)) lk_1s
noncomputable def f_HField_layLines_L3 (v2 : Int32) (v3 : Int32) (x4 : Int32) (M5 : im_M) : Option ((Int32 × im_M) ⊕ (im_M)) := if (im_i M5 23 9) ≤ x4 then some (.inr M5) else if 20 ≤ x4 then some (.inr M5) else gd (inb 0 4) <| gd (inb x4 20) <| gd (inb 2 4) <| bd1 (if ¬ (im_i M5 24 (Int32.toNatClampNeg 2)) = 0 then gd (inb 2 4) <| if ¬ (im_i M5 24 (Int32.toNatClampNeg 2)) = 1 then some (((im_i M5 24 (Int32.toNatClampNeg 0)) - (im_i M5 27 (Int32.toNatClampNeg x4))) / 2) else some ((im_i M5 24 (Int32.toNatClampNeg 0)) - (im_i M5 27 (Int32.toNatClampNeg x4))) else some 0) fun (y7 : Int32) => gd (inb 3 4) <| bd1 (f_HOrders_lay ((im_i M5 19 3) + x4) 0 v2 v3 (im_i M5 18 (Int32.toNatClampNeg 3)) M5) fun (M15 : im_M) => gd (inb 3 4) <| gd (inb 1 4) <| bd1 (f_HOrders_move ((im_i M5 19 3) + x4) ((im_i M15 24 (Int32.toNatClampNeg 3)) * y7) ((im_i M15 24 (Int32.toNatClampNeg 1)) * x4) M15) fun (M16 : im_M) => gd (inb 0 4) <| gd (inb 1 4) <| gd (inb 2 4) <| bd1 (f_HOrders_number ((im_i M5 19 3) + x4) (im_i M16 18 (Int32.toNatClampNeg 0)) (im_i M16 18 (Int32.toNatClampNeg 1)) (im_i M16 18 (Int32.toNatClampNeg 2)) M16) fun (M17 : im_M) => gd (inb x4 20) <| gd (inb x4 20) <| bd1 (f_HOrders_slice ((im_i M5 19 3) + x4) (im_i M17 19 3) (im_i M17 26 (Int32.toNatClampNeg x4)) (im_i M17 27 (Int32.toNatClampNeg x4)) M17) fun (M18 : im_M) => some (.inl ((x4 + 1), M18))
noncomputable def f_HField_layLines (p1 : Int32) (p2 : Int32) (M : im_M) : Option (Int32 × im_M) := bd1 (lp (uc2 (f_HField_layLines_L3 p1 p2)) (0, M)) fun (M19 : im_M) => some ((im_i M19 23 9), M19)
theorem J_HField_layLines_d0 : decode J_HField_layLines.2.1 0 = .ok (.iconst 0, 1) := by decide +kernel
theorem J_HField_layLines_d1 : decode J_HField_layLines.2.1 1 = .ok (.istore 5, 2) := by decide +kernel
theorem J_HField_layLines_d3 : decode J_HField_layLines.2.1 3 = .ok (.iload 5, 2) := by decide +kernel
theorem J_HField_layLines_d5 : decode J_HField_layLines.2.1 5 = .ok (.aload_n 0, 1) := by decide +kernel
theorem J_HField_layLines_d6 : decode J_HField_layLines.2.1 6 = .ok (.getfield 105, 3) := by decide +kernel
theorem J_HField_layLines_d9 : decode J_HField_layLines.2.1 9 = .ok (.if_icmp .ge 154, 3) := by decide +kernel
theorem J_HField_layLines_d12 : decode J_HField_layLines.2.1 12 = .ok (.iload 5, 2) := by decide +kernel
theorem J_HField_layLines_d14 : decode J_HField_layLines.2.1 14 = .ok (.bipush 20, 2) := by decide +kernel
theorem J_HField_layLines_d16 : decode J_HField_layLines.2.1 16 = .ok (.if_icmp .ge 147, 3) := by decide +kernel
theorem J_HField_layLines_d19 : decode J_HField_layLines.2.1 19 = .ok (.aload_n 1, 1) := by decide +kernel
theorem J_HField_layLines_d20 : decode J_HField_layLines.2.1 20 = .ok (.getfield 81, 3) := by decide +kernel
theorem J_HField_layLines_d23 : decode J_HField_layLines.2.1 23 = .ok (.iload 5, 2) := by decide +kernel
theorem J_HField_layLines_d25 : decode J_HField_layLines.2.1 25 = .ok (.iadd, 1) := by decide +kernel
theorem J_HField_layLines_d26 : decode J_HField_layLines.2.1 26 = .ok (.istore 6, 2) := by decide +kernel
theorem J_HField_layLines_d28 : decode J_HField_layLines.2.1 28 = .ok (.aload_n 0, 1) := by decide +kernel
theorem J_HField_layLines_d29 : decode J_HField_layLines.2.1 29 = .ok (.getfield 9, 3) := by decide +kernel
theorem J_HField_layLines_d32 : decode J_HField_layLines.2.1 32 = .ok (.iconst 0, 1) := by decide +kernel
theorem J_HField_layLines_d33 : decode J_HField_layLines.2.1 33 = .ok (.iaload, 1) := by decide +kernel
theorem J_HField_layLines_d34 : decode J_HField_layLines.2.1 34 = .ok (.aload_n 0, 1) := by decide +kernel
theorem J_HField_layLines_d35 : decode J_HField_layLines.2.1 35 = .ok (.getfield 24, 3) := by decide +kernel
theorem J_HField_layLines_d38 : decode J_HField_layLines.2.1 38 = .ok (.iload 5, 2) := by decide +kernel
theorem J_HField_layLines_d40 : decode J_HField_layLines.2.1 40 = .ok (.iaload, 1) := by decide +kernel
theorem J_HField_layLines_d41 : decode J_HField_layLines.2.1 41 = .ok (.isub, 1) := by decide +kernel
theorem J_HField_layLines_d42 : decode J_HField_layLines.2.1 42 = .ok (.istore 7, 2) := by decide +kernel
theorem J_HField_layLines_d44 : decode J_HField_layLines.2.1 44 = .ok (.aload_n 0, 1) := by decide +kernel
theorem J_HField_layLines_d45 : decode J_HField_layLines.2.1 45 = .ok (.getfield 9, 3) := by decide +kernel
theorem J_HField_layLines_d48 : decode J_HField_layLines.2.1 48 = .ok (.iconst 2, 1) := by decide +kernel
theorem J_HField_layLines_d49 : decode J_HField_layLines.2.1 49 = .ok (.iaload, 1) := by decide +kernel
theorem J_HField_layLines_d50 : decode J_HField_layLines.2.1 50 = .ok (.ifCond .ne 7, 3) := by decide +kernel
theorem J_HField_layLines_d53 : decode J_HField_layLines.2.1 53 = .ok (.iconst 0, 1) := by decide +kernel
theorem J_HField_layLines_d54 : decode J_HField_layLines.2.1 54 = .ok (.goto 22, 3) := by decide +kernel
theorem J_HField_layLines_d57 : decode J_HField_layLines.2.1 57 = .ok (.aload_n 0, 1) := by decide +kernel
theorem J_HField_layLines_d58 : decode J_HField_layLines.2.1 58 = .ok (.getfield 9, 3) := by decide +kernel
theorem J_HField_layLines_d61 : decode J_HField_layLines.2.1 61 = .ok (.iconst 2, 1) := by decide +kernel
theorem J_HField_layLines_d62 : decode J_HField_layLines.2.1 62 = .ok (.iaload, 1) := by decide +kernel
theorem J_HField_layLines_d63 : decode J_HField_layLines.2.1 63 = .ok (.iconst 1, 1) := by decide +kernel
theorem J_HField_layLines_d64 : decode J_HField_layLines.2.1 64 = .ok (.if_icmp .ne 8, 3) := by decide +kernel
theorem J_HField_layLines_d67 : decode J_HField_layLines.2.1 67 = .ok (.iload 7, 2) := by decide +kernel
theorem J_HField_layLines_d69 : decode J_HField_layLines.2.1 69 = .ok (.goto 7, 3) := by decide +kernel
theorem J_HField_layLines_d72 : decode J_HField_layLines.2.1 72 = .ok (.iload 7, 2) := by decide +kernel
theorem J_HField_layLines_d74 : decode J_HField_layLines.2.1 74 = .ok (.iconst 2, 1) := by decide +kernel
theorem J_HField_layLines_d75 : decode J_HField_layLines.2.1 75 = .ok (.idiv, 1) := by decide +kernel
theorem J_HField_layLines_d76 : decode J_HField_layLines.2.1 76 = .ok (.istore 8, 2) := by decide +kernel
theorem J_HField_layLines_d78 : decode J_HField_layLines.2.1 78 = .ok (.aload_n 1, 1) := by decide +kernel
theorem J_HField_layLines_d79 : decode J_HField_layLines.2.1 79 = .ok (.iload 6, 2) := by decide +kernel
theorem J_HField_layLines_d81 : decode J_HField_layLines.2.1 81 = .ok (.iconst 0, 1) := by decide +kernel
theorem J_HField_layLines_d82 : decode J_HField_layLines.2.1 82 = .ok (.iload_n 2, 1) := by decide +kernel
theorem J_HField_layLines_d83 : decode J_HField_layLines.2.1 83 = .ok (.iload_n 3, 1) := by decide +kernel
theorem J_HField_layLines_d84 : decode J_HField_layLines.2.1 84 = .ok (.aload 4, 2) := by decide +kernel
theorem J_HField_layLines_d86 : decode J_HField_layLines.2.1 86 = .ok (.iconst 3, 1) := by decide +kernel
theorem J_HField_layLines_d87 : decode J_HField_layLines.2.1 87 = .ok (.iaload, 1) := by decide +kernel
theorem J_HField_layLines_d88 : decode J_HField_layLines.2.1 88 = .ok (.invokevirtual 90, 3) := by decide +kernel
theorem J_HField_layLines_d91 : decode J_HField_layLines.2.1 91 = .ok (.aload_n 1, 1) := by decide +kernel
theorem J_HField_layLines_d92 : decode J_HField_layLines.2.1 92 = .ok (.iload 6, 2) := by decide +kernel
theorem J_HField_layLines_d94 : decode J_HField_layLines.2.1 94 = .ok (.aload_n 0, 1) := by decide +kernel
theorem J_HField_layLines_d95 : decode J_HField_layLines.2.1 95 = .ok (.getfield 9, 3) := by decide +kernel
theorem J_HField_layLines_d98 : decode J_HField_layLines.2.1 98 = .ok (.iconst 3, 1) := by decide +kernel
theorem J_HField_layLines_d99 : decode J_HField_layLines.2.1 99 = .ok (.iaload, 1) := by decide +kernel
theorem J_HField_layLines_d100 : decode J_HField_layLines.2.1 100 = .ok (.iload 8, 2) := by decide +kernel
theorem J_HField_layLines_d102 : decode J_HField_layLines.2.1 102 = .ok (.imul, 1) := by decide +kernel
theorem J_HField_layLines_d103 : decode J_HField_layLines.2.1 103 = .ok (.aload_n 0, 1) := by decide +kernel
theorem J_HField_layLines_d104 : decode J_HField_layLines.2.1 104 = .ok (.getfield 9, 3) := by decide +kernel
theorem J_HField_layLines_d107 : decode J_HField_layLines.2.1 107 = .ok (.iconst 1, 1) := by decide +kernel
theorem J_HField_layLines_d108 : decode J_HField_layLines.2.1 108 = .ok (.iaload, 1) := by decide +kernel
theorem J_HField_layLines_d109 : decode J_HField_layLines.2.1 109 = .ok (.iload 5, 2) := by decide +kernel
theorem J_HField_layLines_d111 : decode J_HField_layLines.2.1 111 = .ok (.imul, 1) := by decide +kernel
theorem J_HField_layLines_d112 : decode J_HField_layLines.2.1 112 = .ok (.invokevirtual 101, 3) := by decide +kernel
theorem J_HField_layLines_d115 : decode J_HField_layLines.2.1 115 = .ok (.aload_n 1, 1) := by decide +kernel
theorem J_HField_layLines_d116 : decode J_HField_layLines.2.1 116 = .ok (.iload 6, 2) := by decide +kernel
theorem J_HField_layLines_d118 : decode J_HField_layLines.2.1 118 = .ok (.aload 4, 2) := by decide +kernel
theorem J_HField_layLines_d120 : decode J_HField_layLines.2.1 120 = .ok (.iconst 0, 1) := by decide +kernel
theorem J_HField_layLines_d121 : decode J_HField_layLines.2.1 121 = .ok (.iaload, 1) := by decide +kernel
theorem J_HField_layLines_d122 : decode J_HField_layLines.2.1 122 = .ok (.aload 4, 2) := by decide +kernel
theorem J_HField_layLines_d124 : decode J_HField_layLines.2.1 124 = .ok (.iconst 1, 1) := by decide +kernel
theorem J_HField_layLines_d125 : decode J_HField_layLines.2.1 125 = .ok (.iaload, 1) := by decide +kernel
theorem J_HField_layLines_d126 : decode J_HField_layLines.2.1 126 = .ok (.aload 4, 2) := by decide +kernel
theorem J_HField_layLines_d128 : decode J_HField_layLines.2.1 128 = .ok (.iconst 2, 1) := by decide +kernel
theorem J_HField_layLines_d129 : decode J_HField_layLines.2.1 129 = .ok (.iaload, 1) := by decide +kernel
theorem J_HField_layLines_d130 : decode J_HField_layLines.2.1 130 = .ok (.invokevirtual 94, 3) := by decide +kernel
theorem J_HField_layLines_d133 : decode J_HField_layLines.2.1 133 = .ok (.aload_n 1, 1) := by decide +kernel
theorem J_HField_layLines_d134 : decode J_HField_layLines.2.1 134 = .ok (.iload 6, 2) := by decide +kernel
theorem J_HField_layLines_d136 : decode J_HField_layLines.2.1 136 = .ok (.aload_n 1, 1) := by decide +kernel
theorem J_HField_layLines_d137 : decode J_HField_layLines.2.1 137 = .ok (.getfield 81, 3) := by decide +kernel
theorem J_HField_layLines_d140 : decode J_HField_layLines.2.1 140 = .ok (.aload_n 0, 1) := by decide +kernel
theorem J_HField_layLines_d141 : decode J_HField_layLines.2.1 141 = .ok (.getfield 21, 3) := by decide +kernel
theorem J_HField_layLines_d144 : decode J_HField_layLines.2.1 144 = .ok (.iload 5, 2) := by decide +kernel
theorem J_HField_layLines_d146 : decode J_HField_layLines.2.1 146 = .ok (.iaload, 1) := by decide +kernel
theorem J_HField_layLines_d147 : decode J_HField_layLines.2.1 147 = .ok (.aload_n 0, 1) := by decide +kernel
theorem J_HField_layLines_d148 : decode J_HField_layLines.2.1 148 = .ok (.getfield 24, 3) := by decide +kernel
theorem J_HField_layLines_d151 : decode J_HField_layLines.2.1 151 = .ok (.iload 5, 2) := by decide +kernel
theorem J_HField_layLines_d153 : decode J_HField_layLines.2.1 153 = .ok (.iaload, 1) := by decide +kernel
theorem J_HField_layLines_d154 : decode J_HField_layLines.2.1 154 = .ok (.invokevirtual 98, 3) := by decide +kernel
theorem J_HField_layLines_d157 : decode J_HField_layLines.2.1 157 = .ok (.iinc 5 1, 3) := by decide +kernel
theorem J_HField_layLines_d160 : decode J_HField_layLines.2.1 160 = .ok (.goto (-157), 3) := by decide +kernel
theorem J_HField_layLines_d163 : decode J_HField_layLines.2.1 163 = .ok (.aload_n 0, 1) := by decide +kernel
theorem J_HField_layLines_d164 : decode J_HField_layLines.2.1 164 = .ok (.getfield 105, 3) := by decide +kernel
theorem J_HField_layLines_d167 : decode J_HField_layLines.2.1 167 = .ok (.ireturn, 1) := by decide +kernel
theorem f_HField_layLines_ok {L : Nat} {xs : Nat → Int32} {dep : Nat} {w : Bool} {p1 : Int32} {p2 : Int32} {M : im_M} {Q : Int32 × im_M → Prop} (hM : lw_S w M) (h : ed (f_HField_layLines p1 p2 M) Q) : ia (tb_G L xs) (dep + 3) J_HField_layLines (rwI w Q) (0, lv_args 0 [.ref 23, .ref 19, .int p1, .int p2, .ref 18], [], M) := by
  have hS : im_St (tb_G L xs) (dep + 3) J_HField_layLines (ia (tb_G L xs) (dep + 3) J_HField_layLines (rwI w Q)) := ia_St
  unfold f_HField_layLines at h
  have l0 : im_lk (lv_args 0 [.ref 23, .ref 19, .int p1, .int p2, .ref 18]) 0 = some (.ref 23) := rfl
  have l1 : im_lk (lv_args 0 [.ref 23, .ref 19, .int p1, .int p2, .ref 18]) 1 = some (.ref 19) := rfl
  have l2 : im_lk (lv_args 0 [.ref 23, .ref 19, .int p1, .int p2, .ref 18]) 2 = some (.int p1) := rfl
  have l3 : im_lk (lv_args 0 [.ref 23, .ref 19, .int p1, .int p2, .ref 18]) 3 = some (.int p2) := rfl
  have l4 : im_lk (lv_args 0 [.ref 23, .ref 19, .int p1, .int p2, .ref 18]) 4 = some (.ref 18) := rfl
  refine iq_iconst hS 1 J_HField_layLines_d0 (v := 0) (by decide +kernel) rfl ?_
  refine iq_istore hS 3 J_HField_layLines_d1 (by decide) rfl ?_
  obtain ⟨Q1, hQ1, h⟩ := bd1_ed h
  have K1 : ∀ (M2 : im_M) (L' : List (Nat × Value)), lw_S w M2 → im_lk L' 0 = some (.ref 23) → Q1 M2 → ia (tb_G L xs) (dep + 3) J_HField_layLines (rwI w Q) (163, L', [], M2) := by
    intro M2 L' hM2 l3 h
    replace h := hQ1 _ h
    refine iq_aload_n hS 164 J_HField_layLines_d163 l3 rfl ?_
    refine iq_getI hS 167 J_HField_layLines_d164 lf_2_105 (Or.inl rfl) (ka_23 hM2) rfl ?_
    exact iq_iret J_HField_layLines_d167 rfl rfl ⟨_, rfl, hM2, ed_some h⟩
  obtain ⟨r1, hr1, hq1⟩ := h
  obtain ⟨n1, hn1⟩ := lp_n hr1
  have I1 : ∀ (n : Nat) (x4 : Int32) (M5 : im_M) (L' : List (Nat × Value)), lw_S w M5 → im_lk L' 0 = some (.ref 23) → im_lk L' 1 = some (.ref 19) → im_lk L' 2 = some (.int p1) → im_lk L' 3 = some (.int p2) → im_lk L' 4 = some (.ref 18) → im_lk L' 5 = some (.int x4) → lpn (uc2 (f_HField_layLines_L3 p1 p2)) n (x4, M5) = some r1 → ia (tb_G L xs) (dep + 3) J_HField_layLines (rwI w Q) (3, L', [], M5) := by
    intro n
    induction n with
    | zero => intro x4 M5 L' hM5 l6 l7 l8 l9 l10 l11 hn; exact (lpn_0 hn).elim
    | succ n ih =>
      intro x4 M5 L' hM5 l6 l7 l8 l9 l10 l11 hn
      have h := lpn_ed2 hn
      unfold f_HField_layLines_L3 at h
      refine iq_iload hS 5 J_HField_layLines_d3 l11 rfl ?_
      refine iq_aload_n hS 6 J_HField_layLines_d5 l6 rfl ?_
      refine iq_getI hS 9 J_HField_layLines_d6 lf_2_105 (Or.inl rfl) (ka_23 hM5) rfl ?_
      refine iq_icmp_ge hS 12 J_HField_layLines_d9 (t := 163) rfl (fun q9 => ?_) rfl (fun q9 => ?_)
      · replace h := ed_pos q9 h
        exact K1 _ _ hM5 l6 (lq_r h hq1)
      · replace h := ed_neg q9 h
        refine iq_iload hS 14 J_HField_layLines_d12 l11 rfl ?_
        refine iq_bipush hS 16 J_HField_layLines_d14 (v := 20) (by decide +kernel) rfl ?_
        refine iq_icmp_ge hS 19 J_HField_layLines_d16 (t := 163) rfl (fun q16 => ?_) rfl (fun q16 => ?_)
        · replace h := ed_pos q16 h
          exact K1 _ _ hM5 l6 (lq_r h hq1)
        · replace h := ed_neg q16 h
          refine iq_aload_n hS 20 J_HField_layLines_d19 l7 rfl ?_
          refine iq_getI hS 23 J_HField_layLines_d20 lf_2_81 (Or.inl rfl) (ka_19 hM5) rfl ?_
          refine iq_iload hS 25 J_HField_layLines_d23 l11 rfl ?_
          refine iq_iadd hS 26 J_HField_layLines_d25 rfl ?_
          refine iq_istore hS 28 J_HField_layLines_d26 (by decide) rfl ?_
          refine iq_aload_n hS 29 J_HField_layLines_d28 (lk_1r l6 (by decide)) rfl ?_
          refine iq_getR hS 32 J_HField_layLines_d29 lf_2_9 (Or.inr ⟨_, rfl⟩) (ka_23 hM5) (ra_23_3 hM5) rfl ?_
          refine iq_iconst hS 33 J_HField_layLines_d32 (v := 0) (by decide +kernel) rfl ?_
          obtain ⟨g33, h⟩ := ed_gd h
          refine iq_iaload hS 34 J_HField_layLines_d33 ⟨(ka_24 hM5).1, (ka_24 hM5).2, g33.1, ix_lt (kl_24 hM5) g33.2⟩ rfl ?_
          refine iq_aload_n hS 35 J_HField_layLines_d34 (lk_1r l6 (by decide)) rfl ?_
          refine iq_getR hS 38 J_HField_layLines_d35 lf_2_24 (Or.inr ⟨_, rfl⟩) (ka_23 hM5) (ra_23_11 hM5) rfl ?_
          refine iq_iload hS 40 J_HField_layLines_d38 (lk_1i l11 (by decide)) rfl ?_
          obtain ⟨g40, h⟩ := ed_gd h
          refine iq_iaload hS 41 J_HField_layLines_d40 ⟨(ka_27 hM5).1, (ka_27 hM5).2, g40.1, ix_lt (kl_27 hM5) g40.2⟩ rfl ?_
          refine iq_isub hS 42 J_HField_layLines_d41 rfl ?_
          refine iq_istore hS 44 J_HField_layLines_d42 (by decide) rfl ?_
          refine iq_aload_n hS 45 J_HField_layLines_d44 (lk_1r (lk_1r l6 (by decide)) (by decide)) rfl ?_
          refine iq_getR hS 48 J_HField_layLines_d45 lf_2_9 (Or.inr ⟨_, rfl⟩) (ka_23 hM5) (ra_23_3 hM5) rfl ?_
          refine iq_iconst hS 49 J_HField_layLines_d48 (v := 2) (by decide +kernel) rfl ?_
          obtain ⟨g49, h⟩ := ed_gd h
          refine iq_iaload hS 50 J_HField_layLines_d49 ⟨(ka_24 hM5).1, (ka_24 hM5).2, g49.1, ix_lt (kl_24 hM5) g49.2⟩ rfl ?_
          obtain ⟨Q12, hQ12, h⟩ := bd1_ed h
          have J12 : ∀ (y13 : Int32) (L' : List (Nat × Value)), im_lk L' 0 = some (.ref 23) → im_lk L' 1 = some (.ref 19) → im_lk L' 2 = some (.int p1) → im_lk L' 3 = some (.int p2) → im_lk L' 4 = some (.ref 18) → im_lk L' 5 = some (.int x4) → im_lk L' 6 = some (.int ((im_i M5 19 3) + x4)) → Q12 y13 → ia (tb_G L xs) (dep + 3) J_HField_layLines (rwI w Q) (76, L', [.int y13], M5) := by
            intro y13 L' l14 l15 l16 l17 l18 l19 l20 h
            replace h := hQ12 _ h
            refine iq_istore hS 78 J_HField_layLines_d76 (by decide) rfl ?_
            refine iq_aload_n hS 79 J_HField_layLines_d78 (lk_1r l15 (by decide)) rfl ?_
            refine iq_iload hS 81 J_HField_layLines_d79 (lk_1i l20 (by decide)) rfl ?_
            refine iq_iconst hS 82 J_HField_layLines_d81 (v := 0) (by decide +kernel) rfl ?_
            refine iq_iload_n hS 83 J_HField_layLines_d82 (lk_1i l16 (by decide)) rfl ?_
            refine iq_iload_n hS 84 J_HField_layLines_d83 (lk_1i l17 (by decide)) rfl ?_
            refine iq_aload hS 86 J_HField_layLines_d84 (lk_1r l18 (by decide)) rfl ?_
            refine iq_iconst hS 87 J_HField_layLines_d86 (v := 3) (by decide +kernel) rfl ?_
            obtain ⟨g87, h⟩ := ed_gd h
            refine iq_iaload hS 88 J_HField_layLines_d87 ⟨(ka_18 hM5).1, (ka_18 hM5).2, g87.1, ix_lt (kl_18 hM5) g87.2⟩ rfl ?_
            obtain ⟨Q21, hQ21, h⟩ := bd1_ed h
            refine iq_cwV hS 91 J_HField_layLines_d88 rfl (pr_inst (vs := [_, _, _, _, _]) lc_2_90 lT_52 rfl rfl (by decide) (by decide) rfl (Nat.le_of_ble_eq_true rfl) (Nat.le_of_ble_eq_true rfl) (fun _ => Or.inl (pr_b (ka_19 hM5) (by decide) rfl))) (f_HOrders_lay_ok (dep := dep + 0) hM5 h) rfl ?_
            intro M21 hM21 h
            replace h := hQ21 _ h
            refine iq_aload_n hS 92 J_HField_layLines_d91 (lk_1r l15 (by decide)) rfl ?_
            refine iq_iload hS 94 J_HField_layLines_d92 (lk_1i l20 (by decide)) rfl ?_
            refine iq_aload_n hS 95 J_HField_layLines_d94 (lk_1r l14 (by decide)) rfl ?_
            refine iq_getR hS 98 J_HField_layLines_d95 lf_2_9 (Or.inr ⟨_, rfl⟩) (ka_23 hM21) (ra_23_3 hM21) rfl ?_
            refine iq_iconst hS 99 J_HField_layLines_d98 (v := 3) (by decide +kernel) rfl ?_
            obtain ⟨g99, h⟩ := ed_gd h
            refine iq_iaload hS 100 J_HField_layLines_d99 ⟨(ka_24 hM21).1, (ka_24 hM21).2, g99.1, ix_lt (kl_24 hM21) g99.2⟩ rfl ?_
            refine iq_iload hS 102 J_HField_layLines_d100 lk_1s rfl ?_
            refine iq_imul hS 103 J_HField_layLines_d102 rfl ?_
            refine iq_aload_n hS 104 J_HField_layLines_d103 (lk_1r l14 (by decide)) rfl ?_
            refine iq_getR hS 107 J_HField_layLines_d104 lf_2_9 (Or.inr ⟨_, rfl⟩) (ka_23 hM21) (ra_23_3 hM21) rfl ?_
            refine iq_iconst hS 108 J_HField_layLines_d107 (v := 1) (by decide +kernel) rfl ?_
            obtain ⟨g108, h⟩ := ed_gd h
            refine iq_iaload hS 109 J_HField_layLines_d108 ⟨(ka_24 hM21).1, (ka_24 hM21).2, g108.1, ix_lt (kl_24 hM21) g108.2⟩ rfl ?_
            refine iq_iload hS 111 J_HField_layLines_d109 (lk_1i l19 (by decide)) rfl ?_
            refine iq_imul hS 112 J_HField_layLines_d111 rfl ?_
            obtain ⟨Q22, hQ22, h⟩ := bd1_ed h
            refine iq_cwV hS 115 J_HField_layLines_d112 rfl (pr_inst (vs := [_, _, _]) lc_2_101 lT_64 rfl rfl (by decide) (by decide) rfl (Nat.le_of_ble_eq_true rfl) (Nat.le_of_ble_eq_true rfl) (fun _ => Or.inl (pr_b (ka_19 hM21) (by decide) rfl))) (f_HOrders_move_ok (dep := dep + 2) hM21 h) rfl ?_
            intro M22 hM22 h
            replace h := hQ22 _ h
            refine iq_aload_n hS 116 J_HField_layLines_d115 (lk_1r l15 (by decide)) rfl ?_
            refine iq_iload hS 118 J_HField_layLines_d116 (lk_1i l20 (by decide)) rfl ?_
            refine iq_aload hS 120 J_HField_layLines_d118 (lk_1r l18 (by decide)) rfl ?_
            refine iq_iconst hS 121 J_HField_layLines_d120 (v := 0) (by decide +kernel) rfl ?_
            obtain ⟨g121, h⟩ := ed_gd h
            refine iq_iaload hS 122 J_HField_layLines_d121 ⟨(ka_18 hM22).1, (ka_18 hM22).2, g121.1, ix_lt (kl_18 hM22) g121.2⟩ rfl ?_
            refine iq_aload hS 124 J_HField_layLines_d122 (lk_1r l18 (by decide)) rfl ?_
            refine iq_iconst hS 125 J_HField_layLines_d124 (v := 1) (by decide +kernel) rfl ?_
            obtain ⟨g125, h⟩ := ed_gd h
            refine iq_iaload hS 126 J_HField_layLines_d125 ⟨(ka_18 hM22).1, (ka_18 hM22).2, g125.1, ix_lt (kl_18 hM22) g125.2⟩ rfl ?_
            refine iq_aload hS 128 J_HField_layLines_d126 (lk_1r l18 (by decide)) rfl ?_
            refine iq_iconst hS 129 J_HField_layLines_d128 (v := 2) (by decide +kernel) rfl ?_
            obtain ⟨g129, h⟩ := ed_gd h
            refine iq_iaload hS 130 J_HField_layLines_d129 ⟨(ka_18 hM22).1, (ka_18 hM22).2, g129.1, ix_lt (kl_18 hM22) g129.2⟩ rfl ?_
            obtain ⟨Q23, hQ23, h⟩ := bd1_ed h
            refine iq_cwV hS 133 J_HField_layLines_d130 rfl (pr_inst (vs := [_, _, _, _]) lc_2_94 lT_65 rfl rfl (by decide) (by decide) rfl (Nat.le_of_ble_eq_true rfl) (Nat.le_of_ble_eq_true rfl) (fun _ => Or.inl (pr_b (ka_19 hM22) (by decide) rfl))) (f_HOrders_number_ok (dep := dep + 2) hM22 h) rfl ?_
            intro M23 hM23 h
            replace h := hQ23 _ h
            refine iq_aload_n hS 134 J_HField_layLines_d133 (lk_1r l15 (by decide)) rfl ?_
            refine iq_iload hS 136 J_HField_layLines_d134 (lk_1i l20 (by decide)) rfl ?_
            refine iq_aload_n hS 137 J_HField_layLines_d136 (lk_1r l15 (by decide)) rfl ?_
            refine iq_getI hS 140 J_HField_layLines_d137 lf_2_81 (Or.inl rfl) (ka_19 hM23) rfl ?_
            refine iq_aload_n hS 141 J_HField_layLines_d140 (lk_1r l14 (by decide)) rfl ?_
            refine iq_getR hS 144 J_HField_layLines_d141 lf_2_21 (Or.inr ⟨_, rfl⟩) (ka_23 hM23) (ra_23_10 hM23) rfl ?_
            refine iq_iload hS 146 J_HField_layLines_d144 (lk_1i l19 (by decide)) rfl ?_
            obtain ⟨g146, h⟩ := ed_gd h
            refine iq_iaload hS 147 J_HField_layLines_d146 ⟨(ka_26 hM23).1, (ka_26 hM23).2, g146.1, ix_lt (kl_26 hM23) g146.2⟩ rfl ?_
            refine iq_aload_n hS 148 J_HField_layLines_d147 (lk_1r l14 (by decide)) rfl ?_
            refine iq_getR hS 151 J_HField_layLines_d148 lf_2_24 (Or.inr ⟨_, rfl⟩) (ka_23 hM23) (ra_23_11 hM23) rfl ?_
            refine iq_iload hS 153 J_HField_layLines_d151 (lk_1i l19 (by decide)) rfl ?_
            obtain ⟨g153, h⟩ := ed_gd h
            refine iq_iaload hS 154 J_HField_layLines_d153 ⟨(ka_27 hM23).1, (ka_27 hM23).2, g153.1, ix_lt (kl_27 hM23) g153.2⟩ rfl ?_
            obtain ⟨Q24, hQ24, h⟩ := bd1_ed h
            refine iq_cwV hS 157 J_HField_layLines_d154 rfl (pr_inst (vs := [_, _, _, _]) lc_2_98 lT_66 rfl rfl (by decide) (by decide) rfl (Nat.le_of_ble_eq_true rfl) (Nat.le_of_ble_eq_true rfl) (fun _ => Or.inl (pr_b (ka_19 hM23) (by decide) rfl))) (f_HOrders_slice_ok (dep := dep + 2) hM23 h) rfl ?_
            intro M24 hM24 h
            replace h := hQ24 _ h
            refine iq_iincv hS 160 J_HField_layLines_d157 (c := 1) (by decide +kernel) (lk_1i l19 (by decide)) (by decide) rfl ?_
            refine iq_goto hS J_HField_layLines_d160 (t := 3) rfl ?_
            exact ih _ _ _ hM24 (lk_1r (lk_1r l14 (by decide)) (by decide)) (lk_1r (lk_1r l15 (by decide)) (by decide)) (lk_1i (lk_1i l16 (by decide)) (by decide)) (lk_1i (lk_1i l17 (by decide)) (by decide)) (lk_1r (lk_1r l18 (by decide)) (by decide)) lk_1s (lq_l h)
          refine iq_if_ne hS 53 J_HField_layLines_d50 (t := 57) rfl (fun q50 => ?_) rfl (fun q50 => ?_)
          · replace h := ed_pos q50 h
            refine iq_aload_n hS 58 J_HField_layLines_d57 (lk_1r (lk_1r l6 (by decide)) (by decide)) rfl ?_
            refine iq_getR hS 61 J_HField_layLines_d58 lf_2_9 (Or.inr ⟨_, rfl⟩) (ka_23 hM5) (ra_23_3 hM5) rfl ?_
            refine iq_iconst hS 62 J_HField_layLines_d61 (v := 2) (by decide +kernel) rfl ?_
            obtain ⟨g62, h⟩ := ed_gd h
            refine iq_iaload hS 63 J_HField_layLines_d62 ⟨(ka_24 hM5).1, (ka_24 hM5).2, g62.1, ix_lt (kl_24 hM5) g62.2⟩ rfl ?_
            refine iq_iconst hS 64 J_HField_layLines_d63 (v := 1) (by decide +kernel) rfl ?_
            refine iq_icmp_ne hS 67 J_HField_layLines_d64 (t := 72) rfl (fun q64 => ?_) rfl (fun q64 => ?_)
            · replace h := ed_pos q64 h
              refine iq_iload hS 74 J_HField_layLines_d72 lk_1s rfl ?_
              refine iq_iconst hS 75 J_HField_layLines_d74 (v := 2) (by decide +kernel) rfl ?_
              refine iq_idiv hS 76 J_HField_layLines_d75 (by decide) rfl ?_
              exact J12 _ _ (lk_1r (lk_1r l6 (by decide)) (by decide)) (lk_1r (lk_1r l7 (by decide)) (by decide)) (lk_1i (lk_1i l8 (by decide)) (by decide)) (lk_1i (lk_1i l9 (by decide)) (by decide)) (lk_1r (lk_1r l10 (by decide)) (by decide)) (lk_1i (lk_1i l11 (by decide)) (by decide)) (lk_1i lk_1s (by decide)) (ed_some h)
            · replace h := ed_neg q64 h
              refine iq_iload hS 69 J_HField_layLines_d67 lk_1s rfl ?_
              refine iq_goto hS J_HField_layLines_d69 (t := 76) rfl ?_
              exact J12 _ _ (lk_1r (lk_1r l6 (by decide)) (by decide)) (lk_1r (lk_1r l7 (by decide)) (by decide)) (lk_1i (lk_1i l8 (by decide)) (by decide)) (lk_1i (lk_1i l9 (by decide)) (by decide)) (lk_1r (lk_1r l10 (by decide)) (by decide)) (lk_1i (lk_1i l11 (by decide)) (by decide)) (lk_1i lk_1s (by decide)) (ed_some h)
          · replace h := ed_neg q50 h
            refine iq_iconst hS 54 J_HField_layLines_d53 (v := 0) (by decide +kernel) rfl ?_
            refine iq_goto hS J_HField_layLines_d54 (t := 76) rfl ?_
            exact J12 _ _ (lk_1r (lk_1r l6 (by decide)) (by decide)) (lk_1r (lk_1r l7 (by decide)) (by decide)) (lk_1i (lk_1i l8 (by decide)) (by decide)) (lk_1i (lk_1i l9 (by decide)) (by decide)) (lk_1r (lk_1r l10 (by decide)) (by decide)) (lk_1i (lk_1i l11 (by decide)) (by decide)) (lk_1i lk_1s (by decide)) (ed_some h)
  exact I1 n1 _ _ _ hM (lk_1r l0 (by decide)) (lk_1r l1 (by decide)) (lk_1i l2 (by decide)) (lk_1i l3 (by decide)) (lk_1r l4 (by decide)) lk_1s hn1
noncomputable def f_HOrders_inRange (p0 : Int32) (M : im_M) : Option (Int32) := if p0 < (-4096) then some 0 else if 4096 < p0 then some 0 else some 1
theorem J_HOrders_inRange_d0 : decode J_HOrders_inRange.2.1 0 = .ok (.iload_n 0, 1) := by decide +kernel
theorem J_HOrders_inRange_d1 : decode J_HOrders_inRange.2.1 1 = .ok (.sipush (-4096), 3) := by decide +kernel
theorem J_HOrders_inRange_d4 : decode J_HOrders_inRange.2.1 4 = .ok (.if_icmp .lt 14, 3) := by decide +kernel
theorem J_HOrders_inRange_d7 : decode J_HOrders_inRange.2.1 7 = .ok (.iload_n 0, 1) := by decide +kernel
theorem J_HOrders_inRange_d8 : decode J_HOrders_inRange.2.1 8 = .ok (.sipush 4096, 3) := by decide +kernel
theorem J_HOrders_inRange_d11 : decode J_HOrders_inRange.2.1 11 = .ok (.if_icmp .gt 7, 3) := by decide +kernel
theorem J_HOrders_inRange_d14 : decode J_HOrders_inRange.2.1 14 = .ok (.iconst 1, 1) := by decide +kernel
theorem J_HOrders_inRange_d15 : decode J_HOrders_inRange.2.1 15 = .ok (.goto 4, 3) := by decide +kernel
theorem J_HOrders_inRange_d18 : decode J_HOrders_inRange.2.1 18 = .ok (.iconst 0, 1) := by decide +kernel
theorem J_HOrders_inRange_d19 : decode J_HOrders_inRange.2.1 19 = .ok (.ireturn, 1) := by decide +kernel
theorem f_HOrders_inRange_ok {L : Nat} {xs : Nat → Int32} {dep : Nat} {w : Bool} {p0 : Int32} {M : im_M} {Q : Int32 → Prop} (hM : lw_S w M) (h : ed (f_HOrders_inRange p0 M) Q) : ia (tb_G L xs) dep J_HOrders_inRange (rpI M Q) (0, lv_args 0 [.int p0], [], M) := by
  have hS : im_St (tb_G L xs) dep J_HOrders_inRange (ia (tb_G L xs) dep J_HOrders_inRange (rpI M Q)) := ia_St
  unfold f_HOrders_inRange at h
  have l0 : im_lk (lv_args 0 [.int p0]) 0 = some (.int p0) := rfl
  refine iq_iload_n hS 1 J_HOrders_inRange_d0 l0 rfl ?_
  refine iq_sipush hS 4 J_HOrders_inRange_d1 (v := (-4096)) (by decide +kernel) rfl ?_
  refine iq_icmp_lt hS 7 J_HOrders_inRange_d4 (t := 18) rfl (fun q4 => ?_) rfl (fun q4 => ?_)
  · replace h := ed_pos q4 h
    refine iq_iconst hS 19 J_HOrders_inRange_d18 (v := 0) (by decide +kernel) rfl ?_
    exact iq_iret J_HOrders_inRange_d19 rfl rfl ⟨_, rfl, rfl, ed_some h⟩
  · replace h := ed_neg q4 h
    refine iq_iload_n hS 8 J_HOrders_inRange_d7 l0 rfl ?_
    refine iq_sipush hS 11 J_HOrders_inRange_d8 (v := 4096) (by decide +kernel) rfl ?_
    refine iq_icmp_gt hS 14 J_HOrders_inRange_d11 (t := 18) rfl (fun q11 => ?_) rfl (fun q11 => ?_)
    · replace h := ed_pos q11 h
      refine iq_iconst hS 19 J_HOrders_inRange_d18 (v := 0) (by decide +kernel) rfl ?_
      exact iq_iret J_HOrders_inRange_d19 rfl rfl ⟨_, rfl, rfl, ed_some h⟩
    · replace h := ed_neg q11 h
      refine iq_iconst hS 15 J_HOrders_inRange_d14 (v := 1) (by decide +kernel) rfl ?_
      refine iq_goto hS J_HOrders_inRange_d15 (t := 19) rfl ?_
      exact iq_iret J_HOrders_inRange_d19 rfl rfl ⟨_, rfl, rfl, ed_some h⟩
noncomputable def f_HField_build_L95 (v12 : Int32) (v13 : Int32) (v14 : Int32) (x15 : Int32) (x16 : Int32) (M17 : im_M) : Option ((Int32 × Int32 × im_M) ⊕ (Int32 × im_M)) := if x15 = 0 then some (.inr (x15, M17)) else if v14 ≤ x16 then some (.inr (x15, M17)) else gd (inb ((((im_i M17 19 3) + x16) * 14) + 4) 1960) <| gd (inb ((((im_i M17 19 3) + x16) * 14) + 11) 1960) <| gd (inb ((((im_i M17 19 3) + x16) * 14) + 12) 1960) <| gd (inb ((((im_i M17 19 3) + x16) * 14) + 13) 1960) <| gd (inb ((((im_i M17 19 3) + x16) * 14) + 1) 1960) <| bd1 (f_HOrders_inRange (im_i (im_setI (im_setI (im_setI (im_setI M17 21 (Int32.toNatClampNeg ((((im_i M17 19 3) + x16) * 14) + 4)) ((if (im_i M17 23 4) = 0 then 0 else 2) : Int32)) 21 (Int32.toNatClampNeg ((((im_i M17 19 3) + x16) * 14) + 11)) ((if (im_i (im_setI M17 21 (Int32.toNatClampNeg ((((im_i M17 19 3) + x16) * 14) + 4)) ((if (im_i M17 23 4) = 0 then 0 else 2) : Int32)) 23 5) = 0 then 0 else 1) : Int32)) 21 (Int32.toNatClampNeg ((((im_i M17 19 3) + x16) * 14) + 12)) (im_i (im_setI (im_setI M17 21 (Int32.toNatClampNeg ((((im_i M17 19 3) + x16) * 14) + 4)) ((if (im_i M17 23 4) = 0 then 0 else 2) : Int32)) 21 (Int32.toNatClampNeg ((((im_i M17 19 3) + x16) * 14) + 11)) ((if (im_i (im_setI M17 21 (Int32.toNatClampNeg ((((im_i M17 19 3) + x16) * 14) + 4)) ((if (im_i M17 23 4) = 0 then 0 else 2) : Int32)) 23 5) = 0 then 0 else 1) : Int32)) 23 6)) 21 (Int32.toNatClampNeg ((((im_i M17 19 3) + x16) * 14) + 13)) (im_i (im_setI (im_setI (im_setI M17 21 (Int32.toNatClampNeg ((((im_i M17 19 3) + x16) * 14) + 4)) ((if (im_i M17 23 4) = 0 then 0 else 2) : Int32)) 21 (Int32.toNatClampNeg ((((im_i M17 19 3) + x16) * 14) + 11)) ((if (im_i (im_setI M17 21 (Int32.toNatClampNeg ((((im_i M17 19 3) + x16) * 14) + 4)) ((if (im_i M17 23 4) = 0 then 0 else 2) : Int32)) 23 5) = 0 then 0 else 1) : Int32)) 21 (Int32.toNatClampNeg ((((im_i M17 19 3) + x16) * 14) + 12)) (im_i (im_setI (im_setI M17 21 (Int32.toNatClampNeg ((((im_i M17 19 3) + x16) * 14) + 4)) ((if (im_i M17 23 4) = 0 then 0 else 2) : Int32)) 21 (Int32.toNatClampNeg ((((im_i M17 19 3) + x16) * 14) + 11)) ((if (im_i (im_setI M17 21 (Int32.toNatClampNeg ((((im_i M17 19 3) + x16) * 14) + 4)) ((if (im_i M17 23 4) = 0 then 0 else 2) : Int32)) 23 5) = 0 then 0 else 1) : Int32)) 23 6)) 23 8)) 21 (Int32.toNatClampNeg ((((im_i M17 19 3) + x16) * 14) + 1))) (im_setI (im_setI (im_setI (im_setI M17 21 (Int32.toNatClampNeg ((((im_i M17 19 3) + x16) * 14) + 4)) ((if (im_i M17 23 4) = 0 then 0 else 2) : Int32)) 21 (Int32.toNatClampNeg ((((im_i M17 19 3) + x16) * 14) + 11)) ((if (im_i (im_setI M17 21 (Int32.toNatClampNeg ((((im_i M17 19 3) + x16) * 14) + 4)) ((if (im_i M17 23 4) = 0 then 0 else 2) : Int32)) 23 5) = 0 then 0 else 1) : Int32)) 21 (Int32.toNatClampNeg ((((im_i M17 19 3) + x16) * 14) + 12)) (im_i (im_setI (im_setI M17 21 (Int32.toNatClampNeg ((((im_i M17 19 3) + x16) * 14) + 4)) ((if (im_i M17 23 4) = 0 then 0 else 2) : Int32)) 21 (Int32.toNatClampNeg ((((im_i M17 19 3) + x16) * 14) + 11)) ((if (im_i (im_setI M17 21 (Int32.toNatClampNeg ((((im_i M17 19 3) + x16) * 14) + 4)) ((if (im_i M17 23 4) = 0 then 0 else 2) : Int32)) 23 5) = 0 then 0 else 1) : Int32)) 23 6)) 21 (Int32.toNatClampNeg ((((im_i M17 19 3) + x16) * 14) + 13)) (im_i (im_setI (im_setI (im_setI M17 21 (Int32.toNatClampNeg ((((im_i M17 19 3) + x16) * 14) + 4)) ((if (im_i M17 23 4) = 0 then 0 else 2) : Int32)) 21 (Int32.toNatClampNeg ((((im_i M17 19 3) + x16) * 14) + 11)) ((if (im_i (im_setI M17 21 (Int32.toNatClampNeg ((((im_i M17 19 3) + x16) * 14) + 4)) ((if (im_i M17 23 4) = 0 then 0 else 2) : Int32)) 23 5) = 0 then 0 else 1) : Int32)) 21 (Int32.toNatClampNeg ((((im_i M17 19 3) + x16) * 14) + 12)) (im_i (im_setI (im_setI M17 21 (Int32.toNatClampNeg ((((im_i M17 19 3) + x16) * 14) + 4)) ((if (im_i M17 23 4) = 0 then 0 else 2) : Int32)) 21 (Int32.toNatClampNeg ((((im_i M17 19 3) + x16) * 14) + 11)) ((if (im_i (im_setI M17 21 (Int32.toNatClampNeg ((((im_i M17 19 3) + x16) * 14) + 4)) ((if (im_i M17 23 4) = 0 then 0 else 2) : Int32)) 23 5) = 0 then 0 else 1) : Int32)) 23 6)) 23 8))) fun (x20 : Int32) => bd1 (jn0 (fun (_ : Unit) => some 0) fun k22 => if x20 = 0 then k22 () else gd (inb ((((im_i M17 19 3) + x16) * 14) + 2) 1960) <| bd1 (f_HOrders_inRange (im_i (im_setI (im_setI (im_setI (im_setI M17 21 (Int32.toNatClampNeg ((((im_i M17 19 3) + x16) * 14) + 4)) ((if (im_i M17 23 4) = 0 then 0 else 2) : Int32)) 21 (Int32.toNatClampNeg ((((im_i M17 19 3) + x16) * 14) + 11)) ((if (im_i (im_setI M17 21 (Int32.toNatClampNeg ((((im_i M17 19 3) + x16) * 14) + 4)) ((if (im_i M17 23 4) = 0 then 0 else 2) : Int32)) 23 5) = 0 then 0 else 1) : Int32)) 21 (Int32.toNatClampNeg ((((im_i M17 19 3) + x16) * 14) + 12)) (im_i (im_setI (im_setI M17 21 (Int32.toNatClampNeg ((((im_i M17 19 3) + x16) * 14) + 4)) ((if (im_i M17 23 4) = 0 then 0 else 2) : Int32)) 21 (Int32.toNatClampNeg ((((im_i M17 19 3) + x16) * 14) + 11)) ((if (im_i (im_setI M17 21 (Int32.toNatClampNeg ((((im_i M17 19 3) + x16) * 14) + 4)) ((if (im_i M17 23 4) = 0 then 0 else 2) : Int32)) 23 5) = 0 then 0 else 1) : Int32)) 23 6)) 21 (Int32.toNatClampNeg ((((im_i M17 19 3) + x16) * 14) + 13)) (im_i (im_setI (im_setI (im_setI M17 21 (Int32.toNatClampNeg ((((im_i M17 19 3) + x16) * 14) + 4)) ((if (im_i M17 23 4) = 0 then 0 else 2) : Int32)) 21 (Int32.toNatClampNeg ((((im_i M17 19 3) + x16) * 14) + 11)) ((if (im_i (im_setI M17 21 (Int32.toNatClampNeg ((((im_i M17 19 3) + x16) * 14) + 4)) ((if (im_i M17 23 4) = 0 then 0 else 2) : Int32)) 23 5) = 0 then 0 else 1) : Int32)) 21 (Int32.toNatClampNeg ((((im_i M17 19 3) + x16) * 14) + 12)) (im_i (im_setI (im_setI M17 21 (Int32.toNatClampNeg ((((im_i M17 19 3) + x16) * 14) + 4)) ((if (im_i M17 23 4) = 0 then 0 else 2) : Int32)) 21 (Int32.toNatClampNeg ((((im_i M17 19 3) + x16) * 14) + 11)) ((if (im_i (im_setI M17 21 (Int32.toNatClampNeg ((((im_i M17 19 3) + x16) * 14) + 4)) ((if (im_i M17 23 4) = 0 then 0 else 2) : Int32)) 23 5) = 0 then 0 else 1) : Int32)) 23 6)) 23 8)) 21 (Int32.toNatClampNeg ((((im_i M17 19 3) + x16) * 14) + 2))) (im_setI (im_setI (im_setI (im_setI M17 21 (Int32.toNatClampNeg ((((im_i M17 19 3) + x16) * 14) + 4)) ((if (im_i M17 23 4) = 0 then 0 else 2) : Int32)) 21 (Int32.toNatClampNeg ((((im_i M17 19 3) + x16) * 14) + 11)) ((if (im_i (im_setI M17 21 (Int32.toNatClampNeg ((((im_i M17 19 3) + x16) * 14) + 4)) ((if (im_i M17 23 4) = 0 then 0 else 2) : Int32)) 23 5) = 0 then 0 else 1) : Int32)) 21 (Int32.toNatClampNeg ((((im_i M17 19 3) + x16) * 14) + 12)) (im_i (im_setI (im_setI M17 21 (Int32.toNatClampNeg ((((im_i M17 19 3) + x16) * 14) + 4)) ((if (im_i M17 23 4) = 0 then 0 else 2) : Int32)) 21 (Int32.toNatClampNeg ((((im_i M17 19 3) + x16) * 14) + 11)) ((if (im_i (im_setI M17 21 (Int32.toNatClampNeg ((((im_i M17 19 3) + x16) * 14) + 4)) ((if (im_i M17 23 4) = 0 then 0 else 2) : Int32)) 23 5) = 0 then 0 else 1) : Int32)) 23 6)) 21 (Int32.toNatClampNeg ((((im_i M17 19 3) + x16) * 14) + 13)) (im_i (im_setI (im_setI (im_setI M17 21 (Int32.toNatClampNeg ((((im_i M17 19 3) + x16) * 14) + 4)) ((if (im_i M17 23 4) = 0 then 0 else 2) : Int32)) 21 (Int32.toNatClampNeg ((((im_i M17 19 3) + x16) * 14) + 11)) ((if (im_i (im_setI M17 21 (Int32.toNatClampNeg ((((im_i M17 19 3) + x16) * 14) + 4)) ((if (im_i M17 23 4) = 0 then 0 else 2) : Int32)) 23 5) = 0 then 0 else 1) : Int32)) 21 (Int32.toNatClampNeg ((((im_i M17 19 3) + x16) * 14) + 12)) (im_i (im_setI (im_setI M17 21 (Int32.toNatClampNeg ((((im_i M17 19 3) + x16) * 14) + 4)) ((if (im_i M17 23 4) = 0 then 0 else 2) : Int32)) 21 (Int32.toNatClampNeg ((((im_i M17 19 3) + x16) * 14) + 11)) ((if (im_i (im_setI M17 21 (Int32.toNatClampNeg ((((im_i M17 19 3) + x16) * 14) + 4)) ((if (im_i M17 23 4) = 0 then 0 else 2) : Int32)) 23 5) = 0 then 0 else 1) : Int32)) 23 6)) 23 8))) fun (x23 : Int32) => if x23 = 0 then k22 () else some 1) fun (y30 : Int32) => some (.inl (y30, (x16 + 1), (im_setI (im_setI (im_setI (im_setI M17 21 (Int32.toNatClampNeg ((((im_i M17 19 3) + x16) * 14) + 4)) ((if (im_i M17 23 4) = 0 then 0 else 2) : Int32)) 21 (Int32.toNatClampNeg ((((im_i M17 19 3) + x16) * 14) + 11)) ((if (im_i (im_setI M17 21 (Int32.toNatClampNeg ((((im_i M17 19 3) + x16) * 14) + 4)) ((if (im_i M17 23 4) = 0 then 0 else 2) : Int32)) 23 5) = 0 then 0 else 1) : Int32)) 21 (Int32.toNatClampNeg ((((im_i M17 19 3) + x16) * 14) + 12)) (im_i (im_setI (im_setI M17 21 (Int32.toNatClampNeg ((((im_i M17 19 3) + x16) * 14) + 4)) ((if (im_i M17 23 4) = 0 then 0 else 2) : Int32)) 21 (Int32.toNatClampNeg ((((im_i M17 19 3) + x16) * 14) + 11)) ((if (im_i (im_setI M17 21 (Int32.toNatClampNeg ((((im_i M17 19 3) + x16) * 14) + 4)) ((if (im_i M17 23 4) = 0 then 0 else 2) : Int32)) 23 5) = 0 then 0 else 1) : Int32)) 23 6)) 21 (Int32.toNatClampNeg ((((im_i M17 19 3) + x16) * 14) + 13)) (im_i (im_setI (im_setI (im_setI M17 21 (Int32.toNatClampNeg ((((im_i M17 19 3) + x16) * 14) + 4)) ((if (im_i M17 23 4) = 0 then 0 else 2) : Int32)) 21 (Int32.toNatClampNeg ((((im_i M17 19 3) + x16) * 14) + 11)) ((if (im_i (im_setI M17 21 (Int32.toNatClampNeg ((((im_i M17 19 3) + x16) * 14) + 4)) ((if (im_i M17 23 4) = 0 then 0 else 2) : Int32)) 23 5) = 0 then 0 else 1) : Int32)) 21 (Int32.toNatClampNeg ((((im_i M17 19 3) + x16) * 14) + 12)) (im_i (im_setI (im_setI M17 21 (Int32.toNatClampNeg ((((im_i M17 19 3) + x16) * 14) + 4)) ((if (im_i M17 23 4) = 0 then 0 else 2) : Int32)) 21 (Int32.toNatClampNeg ((((im_i M17 19 3) + x16) * 14) + 11)) ((if (im_i (im_setI M17 21 (Int32.toNatClampNeg ((((im_i M17 19 3) + x16) * 14) + 4)) ((if (im_i M17 23 4) = 0 then 0 else 2) : Int32)) 23 5) = 0 then 0 else 1) : Int32)) 23 6)) 23 8))))
noncomputable def f_HField_build (M : im_M) : Option (Int32 × im_M) := gd (inb 0 2) <| gd (inb 1 2) <| bd2 (if ¬ (im_i M 23 2) = 8 then bd2 (f_HField_layOthers ((im_i M 17 (Int32.toNatClampNeg 0)) + (im_i M 23 0)) ((im_i M 17 (Int32.toNatClampNeg 1)) + (im_i M 23 1)) M) fun (x2 : Int32) (M2 : im_M) => some (x2, M2) else bd2 (f_HField_layLines ((im_i M 17 (Int32.toNatClampNeg 0)) + (im_i M 23 0)) ((im_i M 17 (Int32.toNatClampNeg 1)) + (im_i M 23 1)) M) fun (x3 : Int32) (M3 : im_M) => some (x3, M3)) fun (y4 : Int32) (M5 : im_M) => gd (cpy 0 200 ((im_i M5 19 3) * 200) 28000 (im_i M5 23 8)) <| bd2 (lp (uc3 (f_HField_build_L95 ((im_i M 17 (Int32.toNatClampNeg 0)) + (im_i M 23 0)) ((im_i M 17 (Int32.toNatClampNeg 1)) + (im_i M 23 1)) y4)) (((if 20 < y4 then 0 else 1) : Int32), 0, (im_setA M5 22 (va_cpy (im_i M5 25) (im_i M5 22) (Int32.toNatClampNeg 0) (Int32.toNatClampNeg ((im_i M5 19 3) * 200)) (Int32.toNatClampNeg (im_i M5 23 8)))))) fun (y37 : Int32) (M38 : im_M) => bd1 (if ¬ (im_i M38 23 2) = 6 then some y37 else gd (inb 0 4) <| bd1 (f_HOrders_inRange (((im_i M 17 (Int32.toNatClampNeg 0)) + (im_i M 23 0)) + (im_i M38 24 (Int32.toNatClampNeg 0))) M38) fun (x40 : Int32) => bd1 (jn0 (fun (_ : Unit) => some 0) fun k42 => if x40 = 0 then k42 () else gd (inb 1 4) <| bd1 (f_HOrders_inRange (((im_i M 17 (Int32.toNatClampNeg 1)) + (im_i M 23 1)) + (im_i M38 24 (Int32.toNatClampNeg 1))) M38) fun (x43 : Int32) => if x43 = 0 then k42 () else some 1) fun (y45 : Int32) => some (y37 &&& y45)) fun (y47 : Int32) => if y47 = 0 then some ((-1), M38) else some (y4, M38)
theorem J_HField_build_d0 : decode J_HField_build.2.1 0 = .ok (.aload_n 2, 1) := by decide +kernel
theorem J_HField_build_d1 : decode J_HField_build.2.1 1 = .ok (.iconst 0, 1) := by decide +kernel
theorem J_HField_build_d2 : decode J_HField_build.2.1 2 = .ok (.iaload, 1) := by decide +kernel
theorem J_HField_build_d3 : decode J_HField_build.2.1 3 = .ok (.aload_n 0, 1) := by decide +kernel
theorem J_HField_build_d4 : decode J_HField_build.2.1 4 = .ok (.getfield 27, 3) := by decide +kernel
theorem J_HField_build_d7 : decode J_HField_build.2.1 7 = .ok (.iadd, 1) := by decide +kernel
theorem J_HField_build_d8 : decode J_HField_build.2.1 8 = .ok (.istore 4, 2) := by decide +kernel
theorem J_HField_build_d10 : decode J_HField_build.2.1 10 = .ok (.aload_n 2, 1) := by decide +kernel
theorem J_HField_build_d11 : decode J_HField_build.2.1 11 = .ok (.iconst 1, 1) := by decide +kernel
theorem J_HField_build_d12 : decode J_HField_build.2.1 12 = .ok (.iaload, 1) := by decide +kernel
theorem J_HField_build_d13 : decode J_HField_build.2.1 13 = .ok (.aload_n 0, 1) := by decide +kernel
theorem J_HField_build_d14 : decode J_HField_build.2.1 14 = .ok (.getfield 31, 3) := by decide +kernel
theorem J_HField_build_d17 : decode J_HField_build.2.1 17 = .ok (.iadd, 1) := by decide +kernel
theorem J_HField_build_d18 : decode J_HField_build.2.1 18 = .ok (.istore 5, 2) := by decide +kernel
theorem J_HField_build_d20 : decode J_HField_build.2.1 20 = .ok (.aload_n 0, 1) := by decide +kernel
theorem J_HField_build_d21 : decode J_HField_build.2.1 21 = .ok (.getfield 34, 3) := by decide +kernel
theorem J_HField_build_d24 : decode J_HField_build.2.1 24 = .ok (.bipush 8, 2) := by decide +kernel
theorem J_HField_build_d26 : decode J_HField_build.2.1 26 = .ok (.if_icmp .ne 16, 3) := by decide +kernel
theorem J_HField_build_d29 : decode J_HField_build.2.1 29 = .ok (.aload_n 0, 1) := by decide +kernel
theorem J_HField_build_d30 : decode J_HField_build.2.1 30 = .ok (.aload_n 1, 1) := by decide +kernel
theorem J_HField_build_d31 : decode J_HField_build.2.1 31 = .ok (.iload 4, 2) := by decide +kernel
theorem J_HField_build_d33 : decode J_HField_build.2.1 33 = .ok (.iload 5, 2) := by decide +kernel
theorem J_HField_build_d35 : decode J_HField_build.2.1 35 = .ok (.aload_n 3, 1) := by decide +kernel
theorem J_HField_build_d36 : decode J_HField_build.2.1 36 = .ok (.invokevirtual 71, 3) := by decide +kernel
theorem J_HField_build_d39 : decode J_HField_build.2.1 39 = .ok (.goto 13, 3) := by decide +kernel
theorem J_HField_build_d42 : decode J_HField_build.2.1 42 = .ok (.aload_n 0, 1) := by decide +kernel
theorem J_HField_build_d43 : decode J_HField_build.2.1 43 = .ok (.aload_n 1, 1) := by decide +kernel
theorem J_HField_build_d44 : decode J_HField_build.2.1 44 = .ok (.iload 4, 2) := by decide +kernel
theorem J_HField_build_d46 : decode J_HField_build.2.1 46 = .ok (.iload 5, 2) := by decide +kernel
theorem J_HField_build_d48 : decode J_HField_build.2.1 48 = .ok (.aload_n 3, 1) := by decide +kernel
theorem J_HField_build_d49 : decode J_HField_build.2.1 49 = .ok (.invokevirtual 75, 3) := by decide +kernel
theorem J_HField_build_d52 : decode J_HField_build.2.1 52 = .ok (.istore 6, 2) := by decide +kernel
theorem J_HField_build_d54 : decode J_HField_build.2.1 54 = .ok (.aload_n 0, 1) := by decide +kernel
theorem J_HField_build_d55 : decode J_HField_build.2.1 55 = .ok (.getfield 17, 3) := by decide +kernel
theorem J_HField_build_d58 : decode J_HField_build.2.1 58 = .ok (.iconst 0, 1) := by decide +kernel
theorem J_HField_build_d59 : decode J_HField_build.2.1 59 = .ok (.aload_n 1, 1) := by decide +kernel
theorem J_HField_build_d60 : decode J_HField_build.2.1 60 = .ok (.getfield 78, 3) := by decide +kernel
theorem J_HField_build_d63 : decode J_HField_build.2.1 63 = .ok (.aload_n 1, 1) := by decide +kernel
theorem J_HField_build_d64 : decode J_HField_build.2.1 64 = .ok (.getfield 81, 3) := by decide +kernel
theorem J_HField_build_d67 : decode J_HField_build.2.1 67 = .ok (.sipush 200, 3) := by decide +kernel
theorem J_HField_build_d70 : decode J_HField_build.2.1 70 = .ok (.imul, 1) := by decide +kernel
theorem J_HField_build_d71 : decode J_HField_build.2.1 71 = .ok (.aload_n 0, 1) := by decide +kernel
theorem J_HField_build_d72 : decode J_HField_build.2.1 72 = .ok (.getfield 47, 3) := by decide +kernel
theorem J_HField_build_d75 : decode J_HField_build.2.1 75 = .ok (.invokestatic 50, 3) := by decide +kernel
theorem J_HField_build_d78 : decode J_HField_build.2.1 78 = .ok (.iload 6, 2) := by decide +kernel
theorem J_HField_build_d80 : decode J_HField_build.2.1 80 = .ok (.bipush 20, 2) := by decide +kernel
theorem J_HField_build_d82 : decode J_HField_build.2.1 82 = .ok (.if_icmp .gt 7, 3) := by decide +kernel
theorem J_HField_build_d85 : decode J_HField_build.2.1 85 = .ok (.iconst 1, 1) := by decide +kernel
theorem J_HField_build_d86 : decode J_HField_build.2.1 86 = .ok (.goto 4, 3) := by decide +kernel
theorem J_HField_build_d89 : decode J_HField_build.2.1 89 = .ok (.iconst 0, 1) := by decide +kernel
theorem J_HField_build_d90 : decode J_HField_build.2.1 90 = .ok (.istore 7, 2) := by decide +kernel
theorem J_HField_build_d92 : decode J_HField_build.2.1 92 = .ok (.iconst 0, 1) := by decide +kernel
theorem J_HField_build_d93 : decode J_HField_build.2.1 93 = .ok (.istore 8, 2) := by decide +kernel
theorem J_HField_build_d95 : decode J_HField_build.2.1 95 = .ok (.iload 7, 2) := by decide +kernel
theorem J_HField_build_d97 : decode J_HField_build.2.1 97 = .ok (.ifCond .eq 136, 3) := by decide +kernel
theorem J_HField_build_d100 : decode J_HField_build.2.1 100 = .ok (.iload 8, 2) := by decide +kernel
theorem J_HField_build_d102 : decode J_HField_build.2.1 102 = .ok (.iload 6, 2) := by decide +kernel
theorem J_HField_build_d104 : decode J_HField_build.2.1 104 = .ok (.if_icmp .ge 129, 3) := by decide +kernel
theorem J_HField_build_d107 : decode J_HField_build.2.1 107 = .ok (.aload_n 1, 1) := by decide +kernel
theorem J_HField_build_d108 : decode J_HField_build.2.1 108 = .ok (.getfield 81, 3) := by decide +kernel
theorem J_HField_build_d111 : decode J_HField_build.2.1 111 = .ok (.iload 8, 2) := by decide +kernel
theorem J_HField_build_d113 : decode J_HField_build.2.1 113 = .ok (.iadd, 1) := by decide +kernel
theorem J_HField_build_d114 : decode J_HField_build.2.1 114 = .ok (.bipush 14, 2) := by decide +kernel
theorem J_HField_build_d116 : decode J_HField_build.2.1 116 = .ok (.imul, 1) := by decide +kernel
theorem J_HField_build_d117 : decode J_HField_build.2.1 117 = .ok (.istore 9, 2) := by decide +kernel
theorem J_HField_build_d119 : decode J_HField_build.2.1 119 = .ok (.aload_n 1, 1) := by decide +kernel
theorem J_HField_build_d120 : decode J_HField_build.2.1 120 = .ok (.getfield 84, 3) := by decide +kernel
theorem J_HField_build_d123 : decode J_HField_build.2.1 123 = .ok (.iload 9, 2) := by decide +kernel
theorem J_HField_build_d125 : decode J_HField_build.2.1 125 = .ok (.iconst 4, 1) := by decide +kernel
theorem J_HField_build_d126 : decode J_HField_build.2.1 126 = .ok (.iadd, 1) := by decide +kernel
theorem J_HField_build_d127 : decode J_HField_build.2.1 127 = .ok (.aload_n 0, 1) := by decide +kernel
theorem J_HField_build_d128 : decode J_HField_build.2.1 128 = .ok (.getfield 37, 3) := by decide +kernel
theorem J_HField_build_d131 : decode J_HField_build.2.1 131 = .ok (.ifCond .eq 7, 3) := by decide +kernel
theorem J_HField_build_d134 : decode J_HField_build.2.1 134 = .ok (.iconst 2, 1) := by decide +kernel
theorem J_HField_build_d135 : decode J_HField_build.2.1 135 = .ok (.goto 4, 3) := by decide +kernel
theorem J_HField_build_d138 : decode J_HField_build.2.1 138 = .ok (.iconst 0, 1) := by decide +kernel
theorem J_HField_build_d139 : decode J_HField_build.2.1 139 = .ok (.iastore, 1) := by decide +kernel
theorem J_HField_build_d140 : decode J_HField_build.2.1 140 = .ok (.aload_n 1, 1) := by decide +kernel
theorem J_HField_build_d141 : decode J_HField_build.2.1 141 = .ok (.getfield 84, 3) := by decide +kernel
theorem J_HField_build_d144 : decode J_HField_build.2.1 144 = .ok (.iload 9, 2) := by decide +kernel
theorem J_HField_build_d146 : decode J_HField_build.2.1 146 = .ok (.bipush 11, 2) := by decide +kernel
theorem J_HField_build_d148 : decode J_HField_build.2.1 148 = .ok (.iadd, 1) := by decide +kernel
theorem J_HField_build_d149 : decode J_HField_build.2.1 149 = .ok (.aload_n 0, 1) := by decide +kernel
theorem J_HField_build_d150 : decode J_HField_build.2.1 150 = .ok (.getfield 41, 3) := by decide +kernel
theorem J_HField_build_d153 : decode J_HField_build.2.1 153 = .ok (.ifCond .eq 7, 3) := by decide +kernel
theorem J_HField_build_d156 : decode J_HField_build.2.1 156 = .ok (.iconst 1, 1) := by decide +kernel
theorem J_HField_build_d157 : decode J_HField_build.2.1 157 = .ok (.goto 4, 3) := by decide +kernel
theorem J_HField_build_d160 : decode J_HField_build.2.1 160 = .ok (.iconst 0, 1) := by decide +kernel
theorem J_HField_build_d161 : decode J_HField_build.2.1 161 = .ok (.iastore, 1) := by decide +kernel
theorem J_HField_build_d162 : decode J_HField_build.2.1 162 = .ok (.aload_n 1, 1) := by decide +kernel
theorem J_HField_build_d163 : decode J_HField_build.2.1 163 = .ok (.getfield 84, 3) := by decide +kernel
theorem J_HField_build_d166 : decode J_HField_build.2.1 166 = .ok (.iload 9, 2) := by decide +kernel
theorem J_HField_build_d168 : decode J_HField_build.2.1 168 = .ok (.bipush 12, 2) := by decide +kernel
theorem J_HField_build_d170 : decode J_HField_build.2.1 170 = .ok (.iadd, 1) := by decide +kernel
theorem J_HField_build_d171 : decode J_HField_build.2.1 171 = .ok (.aload_n 0, 1) := by decide +kernel
theorem J_HField_build_d172 : decode J_HField_build.2.1 172 = .ok (.getfield 44, 3) := by decide +kernel
theorem J_HField_build_d175 : decode J_HField_build.2.1 175 = .ok (.iastore, 1) := by decide +kernel
theorem J_HField_build_d176 : decode J_HField_build.2.1 176 = .ok (.aload_n 1, 1) := by decide +kernel
theorem J_HField_build_d177 : decode J_HField_build.2.1 177 = .ok (.getfield 84, 3) := by decide +kernel
theorem J_HField_build_d180 : decode J_HField_build.2.1 180 = .ok (.iload 9, 2) := by decide +kernel
theorem J_HField_build_d182 : decode J_HField_build.2.1 182 = .ok (.bipush 13, 2) := by decide +kernel
theorem J_HField_build_d184 : decode J_HField_build.2.1 184 = .ok (.iadd, 1) := by decide +kernel
theorem J_HField_build_d185 : decode J_HField_build.2.1 185 = .ok (.aload_n 0, 1) := by decide +kernel
theorem J_HField_build_d186 : decode J_HField_build.2.1 186 = .ok (.getfield 47, 3) := by decide +kernel
theorem J_HField_build_d189 : decode J_HField_build.2.1 189 = .ok (.iastore, 1) := by decide +kernel
theorem J_HField_build_d190 : decode J_HField_build.2.1 190 = .ok (.aload_n 1, 1) := by decide +kernel
theorem J_HField_build_d191 : decode J_HField_build.2.1 191 = .ok (.getfield 84, 3) := by decide +kernel
theorem J_HField_build_d194 : decode J_HField_build.2.1 194 = .ok (.iload 9, 2) := by decide +kernel
theorem J_HField_build_d196 : decode J_HField_build.2.1 196 = .ok (.iconst 1, 1) := by decide +kernel
theorem J_HField_build_d197 : decode J_HField_build.2.1 197 = .ok (.iadd, 1) := by decide +kernel
theorem J_HField_build_d198 : decode J_HField_build.2.1 198 = .ok (.iaload, 1) := by decide +kernel
theorem J_HField_build_d199 : decode J_HField_build.2.1 199 = .ok (.invokestatic 87, 3) := by decide +kernel
theorem J_HField_build_d202 : decode J_HField_build.2.1 202 = .ok (.ifCond .eq 22, 3) := by decide +kernel
theorem J_HField_build_d205 : decode J_HField_build.2.1 205 = .ok (.aload_n 1, 1) := by decide +kernel
theorem J_HField_build_d206 : decode J_HField_build.2.1 206 = .ok (.getfield 84, 3) := by decide +kernel
theorem J_HField_build_d209 : decode J_HField_build.2.1 209 = .ok (.iload 9, 2) := by decide +kernel
theorem J_HField_build_d211 : decode J_HField_build.2.1 211 = .ok (.iconst 2, 1) := by decide +kernel
theorem J_HField_build_d212 : decode J_HField_build.2.1 212 = .ok (.iadd, 1) := by decide +kernel
theorem J_HField_build_d213 : decode J_HField_build.2.1 213 = .ok (.iaload, 1) := by decide +kernel
theorem J_HField_build_d214 : decode J_HField_build.2.1 214 = .ok (.invokestatic 87, 3) := by decide +kernel
theorem J_HField_build_d217 : decode J_HField_build.2.1 217 = .ok (.ifCond .eq 7, 3) := by decide +kernel
theorem J_HField_build_d220 : decode J_HField_build.2.1 220 = .ok (.iconst 1, 1) := by decide +kernel
theorem J_HField_build_d221 : decode J_HField_build.2.1 221 = .ok (.goto 4, 3) := by decide +kernel
theorem J_HField_build_d224 : decode J_HField_build.2.1 224 = .ok (.iconst 0, 1) := by decide +kernel
theorem J_HField_build_d225 : decode J_HField_build.2.1 225 = .ok (.istore 7, 2) := by decide +kernel
theorem J_HField_build_d227 : decode J_HField_build.2.1 227 = .ok (.iinc 8 1, 3) := by decide +kernel
theorem J_HField_build_d230 : decode J_HField_build.2.1 230 = .ok (.goto (-135), 3) := by decide +kernel
theorem J_HField_build_d233 : decode J_HField_build.2.1 233 = .ok (.aload_n 0, 1) := by decide +kernel
theorem J_HField_build_d234 : decode J_HField_build.2.1 234 = .ok (.getfield 34, 3) := by decide +kernel
theorem J_HField_build_d237 : decode J_HField_build.2.1 237 = .ok (.bipush 6, 2) := by decide +kernel
theorem J_HField_build_d239 : decode J_HField_build.2.1 239 = .ok (.if_icmp .ne 43, 3) := by decide +kernel
theorem J_HField_build_d242 : decode J_HField_build.2.1 242 = .ok (.iload 7, 2) := by decide +kernel
theorem J_HField_build_d244 : decode J_HField_build.2.1 244 = .ok (.iload 4, 2) := by decide +kernel
theorem J_HField_build_d246 : decode J_HField_build.2.1 246 = .ok (.aload_n 0, 1) := by decide +kernel
theorem J_HField_build_d247 : decode J_HField_build.2.1 247 = .ok (.getfield 9, 3) := by decide +kernel
theorem J_HField_build_d250 : decode J_HField_build.2.1 250 = .ok (.iconst 0, 1) := by decide +kernel
theorem J_HField_build_d251 : decode J_HField_build.2.1 251 = .ok (.iaload, 1) := by decide +kernel
theorem J_HField_build_d252 : decode J_HField_build.2.1 252 = .ok (.iadd, 1) := by decide +kernel
theorem J_HField_build_d253 : decode J_HField_build.2.1 253 = .ok (.invokestatic 87, 3) := by decide +kernel
theorem J_HField_build_d256 : decode J_HField_build.2.1 256 = .ok (.ifCond .eq 22, 3) := by decide +kernel
theorem J_HField_build_d259 : decode J_HField_build.2.1 259 = .ok (.iload 5, 2) := by decide +kernel
theorem J_HField_build_d261 : decode J_HField_build.2.1 261 = .ok (.aload_n 0, 1) := by decide +kernel
theorem J_HField_build_d262 : decode J_HField_build.2.1 262 = .ok (.getfield 9, 3) := by decide +kernel
theorem J_HField_build_d265 : decode J_HField_build.2.1 265 = .ok (.iconst 1, 1) := by decide +kernel
theorem J_HField_build_d266 : decode J_HField_build.2.1 266 = .ok (.iaload, 1) := by decide +kernel
theorem J_HField_build_d267 : decode J_HField_build.2.1 267 = .ok (.iadd, 1) := by decide +kernel
theorem J_HField_build_d268 : decode J_HField_build.2.1 268 = .ok (.invokestatic 87, 3) := by decide +kernel
theorem J_HField_build_d271 : decode J_HField_build.2.1 271 = .ok (.ifCond .eq 7, 3) := by decide +kernel
theorem J_HField_build_d274 : decode J_HField_build.2.1 274 = .ok (.iconst 1, 1) := by decide +kernel
theorem J_HField_build_d275 : decode J_HField_build.2.1 275 = .ok (.goto 4, 3) := by decide +kernel
theorem J_HField_build_d278 : decode J_HField_build.2.1 278 = .ok (.iconst 0, 1) := by decide +kernel
theorem J_HField_build_d279 : decode J_HField_build.2.1 279 = .ok (.iand, 1) := by decide +kernel
theorem J_HField_build_d280 : decode J_HField_build.2.1 280 = .ok (.istore 7, 2) := by decide +kernel
theorem J_HField_build_d282 : decode J_HField_build.2.1 282 = .ok (.iload 7, 2) := by decide +kernel
theorem J_HField_build_d284 : decode J_HField_build.2.1 284 = .ok (.ifCond .eq 8, 3) := by decide +kernel
theorem J_HField_build_d287 : decode J_HField_build.2.1 287 = .ok (.iload 6, 2) := by decide +kernel
theorem J_HField_build_d289 : decode J_HField_build.2.1 289 = .ok (.goto 4, 3) := by decide +kernel
theorem J_HField_build_d292 : decode J_HField_build.2.1 292 = .ok (.iconst (-1), 1) := by decide +kernel
theorem J_HField_build_d293 : decode J_HField_build.2.1 293 = .ok (.ireturn, 1) := by decide +kernel
theorem f_HField_build_ok {L : Nat} {xs : Nat → Int32} {dep : Nat} {w : Bool} {M : im_M} {Q : Int32 × im_M → Prop} (hM : lw_S w M) (h : ed (f_HField_build M) Q) : ia (tb_G L xs) (dep + 4) J_HField_build (rwI w Q) (0, lv_args 0 [.ref 23, .ref 19, .ref 17, .ref 18], [], M) := by
  have hS : im_St (tb_G L xs) (dep + 4) J_HField_build (ia (tb_G L xs) (dep + 4) J_HField_build (rwI w Q)) := ia_St
  unfold f_HField_build at h
  have l0 : im_lk (lv_args 0 [.ref 23, .ref 19, .ref 17, .ref 18]) 0 = some (.ref 23) := rfl
  have l1 : im_lk (lv_args 0 [.ref 23, .ref 19, .ref 17, .ref 18]) 1 = some (.ref 19) := rfl
  have l2 : im_lk (lv_args 0 [.ref 23, .ref 19, .ref 17, .ref 18]) 2 = some (.ref 17) := rfl
  have l3 : im_lk (lv_args 0 [.ref 23, .ref 19, .ref 17, .ref 18]) 3 = some (.ref 18) := rfl
  refine iq_aload_n hS 1 J_HField_build_d0 l2 rfl ?_
  refine iq_iconst hS 2 J_HField_build_d1 (v := 0) (by decide +kernel) rfl ?_
  obtain ⟨g2, h⟩ := ed_gd h
  refine iq_iaload hS 3 J_HField_build_d2 ⟨(ka_17 hM).1, (ka_17 hM).2, g2.1, ix_lt (kl_17 hM) g2.2⟩ rfl ?_
  refine iq_aload_n hS 4 J_HField_build_d3 l0 rfl ?_
  refine iq_getI hS 7 J_HField_build_d4 lf_2_27 (Or.inl rfl) (ka_23 hM) rfl ?_
  refine iq_iadd hS 8 J_HField_build_d7 rfl ?_
  refine iq_istore hS 10 J_HField_build_d8 (by decide) rfl ?_
  refine iq_aload_n hS 11 J_HField_build_d10 (lk_1r l2 (by decide)) rfl ?_
  refine iq_iconst hS 12 J_HField_build_d11 (v := 1) (by decide +kernel) rfl ?_
  obtain ⟨g12, h⟩ := ed_gd h
  refine iq_iaload hS 13 J_HField_build_d12 ⟨(ka_17 hM).1, (ka_17 hM).2, g12.1, ix_lt (kl_17 hM) g12.2⟩ rfl ?_
  refine iq_aload_n hS 14 J_HField_build_d13 (lk_1r l0 (by decide)) rfl ?_
  refine iq_getI hS 17 J_HField_build_d14 lf_2_31 (Or.inl rfl) (ka_23 hM) rfl ?_
  refine iq_iadd hS 18 J_HField_build_d17 rfl ?_
  refine iq_istore hS 20 J_HField_build_d18 (by decide) rfl ?_
  refine iq_aload_n hS 21 J_HField_build_d20 (lk_1r (lk_1r l0 (by decide)) (by decide)) rfl ?_
  refine iq_getI hS 24 J_HField_build_d21 lf_2_34 (Or.inl rfl) (ka_23 hM) rfl ?_
  refine iq_bipush hS 26 J_HField_build_d24 (v := 8) (by decide +kernel) rfl ?_
  obtain ⟨Q1, hQ1, h⟩ := bd2_ed h
  have J1 : ∀ (y4 : Int32) (M5 : im_M) (L' : List (Nat × Value)), lw_S w M5 → im_lk L' 0 = some (.ref 23) → im_lk L' 1 = some (.ref 19) → im_lk L' 4 = some (.int ((im_i M 17 (Int32.toNatClampNeg 0)) + (im_i M 23 0))) → im_lk L' 5 = some (.int ((im_i M 17 (Int32.toNatClampNeg 1)) + (im_i M 23 1))) → Q1 (y4, M5) → ia (tb_G L xs) (dep + 4) J_HField_build (rwI w Q) (52, L', [.int y4], M5) := by
    intro y4 M5 L' hM5 l6 l7 l8 l9 h
    replace h := hQ1 _ _ h
    refine iq_istore hS 54 J_HField_build_d52 (by decide) rfl ?_
    refine iq_aload_n hS 55 J_HField_build_d54 (lk_1r l6 (by decide)) rfl ?_
    refine iq_getR hS 58 J_HField_build_d55 lf_2_17 (Or.inr ⟨_, rfl⟩) (ka_23 hM5) (ra_23_7 hM5) rfl ?_
    refine iq_iconst hS 59 J_HField_build_d58 (v := 0) (by decide +kernel) rfl ?_
    refine iq_aload_n hS 60 J_HField_build_d59 (lk_1r l7 (by decide)) rfl ?_
    refine iq_getR hS 63 J_HField_build_d60 lf_2_78 (Or.inr ⟨_, rfl⟩) (ka_19 hM5) (ra_19_1 hM5) rfl ?_
    refine iq_aload_n hS 64 J_HField_build_d63 (lk_1r l7 (by decide)) rfl ?_
    refine iq_getI hS 67 J_HField_build_d64 lf_2_81 (Or.inl rfl) (ka_19 hM5) rfl ?_
    refine iq_sipush hS 70 J_HField_build_d67 (v := 200) (by decide +kernel) rfl ?_
    refine iq_imul hS 71 J_HField_build_d70 rfl ?_
    refine iq_aload_n hS 72 J_HField_build_d71 (lk_1r l6 (by decide)) rfl ?_
    refine iq_getI hS 75 J_HField_build_d72 lf_2_47 (Or.inl rfl) (ka_23 hM5) rfl ?_
    obtain ⟨g75, h⟩ := ed_gd h
    refine iq_cpy hS 78 J_HField_build_d75 (ga_of (by decide +kernel)) (ka_22 hM5) (ka_25 hM5) (by decide) (kl_25 hM5) (kl_22 hM5) g75 (Nat.le_of_ble_eq_true rfl) rfl ?_
    refine iq_iload hS 80 J_HField_build_d78 lk_1s rfl ?_
    refine iq_bipush hS 82 J_HField_build_d80 (v := 20) (by decide +kernel) rfl ?_
    have J10 : ∀ (z11 : Int32) (L' : List (Nat × Value)), z11 = ((if 20 < y4 then 0 else 1) : Int32) → im_lk L' 0 = some (.ref 23) → im_lk L' 1 = some (.ref 19) → im_lk L' 4 = some (.int ((im_i M 17 (Int32.toNatClampNeg 0)) + (im_i M 23 0))) → im_lk L' 5 = some (.int ((im_i M 17 (Int32.toNatClampNeg 1)) + (im_i M 23 1))) → im_lk L' 6 = some (.int y4) → ia (tb_G L xs) (dep + 4) J_HField_build (rwI w Q) (90, L', [.int z11], (im_setA M5 22 (va_cpy (im_i M5 25) (im_i M5 22) (Int32.toNatClampNeg 0) (Int32.toNatClampNeg ((im_i M5 19 3) * 200)) (Int32.toNatClampNeg (im_i M5 23 8))))) := by
      intro z11 L' e12 l13 l14 l15 l16 l17
      subst e12
      refine iq_istore hS 92 J_HField_build_d90 (by decide) rfl ?_
      refine iq_iconst hS 93 J_HField_build_d92 (v := 0) (by decide +kernel) rfl ?_
      refine iq_istore hS 95 J_HField_build_d93 (by decide) rfl ?_
      obtain ⟨Q18, hQ18, h⟩ := bd2_ed h
      have K18 : ∀ (y19 : Int32) (M20 : im_M) (L' : List (Nat × Value)), lw_S w M20 → im_lk L' 0 = some (.ref 23) → im_lk L' 4 = some (.int ((im_i M 17 (Int32.toNatClampNeg 0)) + (im_i M 23 0))) → im_lk L' 5 = some (.int ((im_i M 17 (Int32.toNatClampNeg 1)) + (im_i M 23 1))) → im_lk L' 6 = some (.int y4) → im_lk L' 7 = some (.int y19) → Q18 (y19, M20) → ia (tb_G L xs) (dep + 4) J_HField_build (rwI w Q) (233, L', [], M20) := by
        intro y19 M20 L' hM20 l21 l22 l23 l24 l25 h
        replace h := hQ18 _ _ h
        refine iq_aload_n hS 234 J_HField_build_d233 l21 rfl ?_
        refine iq_getI hS 237 J_HField_build_d234 lf_2_34 (Or.inl rfl) (ka_23 hM20) rfl ?_
        refine iq_bipush hS 239 J_HField_build_d237 (v := 6) (by decide +kernel) rfl ?_
        obtain ⟨Q26, hQ26, h⟩ := bd1_ed h
        have J26 : ∀ (y34 : Int32) (L' : List (Nat × Value)), im_lk L' 6 = some (.int y4) → im_lk L' 7 = some (.int y34) → Q26 y34 → ia (tb_G L xs) (dep + 4) J_HField_build (rwI w Q) (282, L', [], M20) := by
          intro y34 L' l35 l36 h
          replace h := hQ26 _ h
          refine iq_iload hS 284 J_HField_build_d282 l36 rfl ?_
          refine iq_if_eq hS 287 J_HField_build_d284 (t := 292) rfl (fun q284 => ?_) rfl (fun q284 => ?_)
          · replace h := ed_pos q284 h
            refine iq_iconst hS 293 J_HField_build_d292 (v := (-1)) (by decide +kernel) rfl ?_
            exact iq_iret J_HField_build_d293 rfl rfl ⟨_, rfl, hM20, ed_some h⟩
          · replace h := ed_neg q284 h
            refine iq_iload hS 289 J_HField_build_d287 l35 rfl ?_
            refine iq_goto hS J_HField_build_d289 (t := 293) rfl ?_
            exact iq_iret J_HField_build_d293 rfl rfl ⟨_, rfl, hM20, ed_some h⟩
        refine iq_icmp_ne hS 242 J_HField_build_d239 (t := 282) rfl (fun q239 => ?_) rfl (fun q239 => ?_)
        · replace h := ed_pos q239 h
          exact J26 _ _ l24 l25 (ed_some h)
        · replace h := ed_neg q239 h
          refine iq_iload hS 244 J_HField_build_d242 l25 rfl ?_
          refine iq_iload hS 246 J_HField_build_d244 l22 rfl ?_
          refine iq_aload_n hS 247 J_HField_build_d246 l21 rfl ?_
          refine iq_getR hS 250 J_HField_build_d247 lf_2_9 (Or.inr ⟨_, rfl⟩) (ka_23 hM20) (ra_23_3 hM20) rfl ?_
          refine iq_iconst hS 251 J_HField_build_d250 (v := 0) (by decide +kernel) rfl ?_
          obtain ⟨g251, h⟩ := ed_gd h
          refine iq_iaload hS 252 J_HField_build_d251 ⟨(ka_24 hM20).1, (ka_24 hM20).2, g251.1, ix_lt (kl_24 hM20) g251.2⟩ rfl ?_
          refine iq_iadd hS 253 J_HField_build_d252 rfl ?_
          obtain ⟨Q27, hQ27, h⟩ := bd1_ed h
          refine iq_cpI hS 256 J_HField_build_d253 rfl (pr_stat (vs := [_]) lc_2_87 lT_68 rfl rfl (by decide) rfl (Nat.le_of_ble_eq_true rfl) (Nat.le_of_ble_eq_true rfl)) (f_HOrders_inRange_ok (dep := dep + 3) hM20 h) rfl ?_
          intro x27 h
          replace h := hQ27 _ h
          obtain ⟨Q28, hQ28, h⟩ := bd1_ed h
          have J28 : ∀ (y32 : Int32) (L' : List (Nat × Value)), im_lk L' 6 = some (.int y4) → Q28 y32 → ia (tb_G L xs) (dep + 4) J_HField_build (rwI w Q) (279, L', [.int y32, .int y19], M20) := by
            intro y32 L' l33 h
            replace h := hQ28 _ h
            refine iq_iand hS 280 J_HField_build_d279 rfl ?_
            refine iq_istore hS 282 J_HField_build_d280 (by decide) rfl ?_
            exact J26 _ _ (lk_1i l33 (by decide)) lk_1s (ed_some h)
          obtain ⟨k29, Q29, hQ29, hk29, h⟩ := jn0_ed h
          have J29 : ∀  (L' : List (Nat × Value)), im_lk L' 6 = some (.int y4) → Q29 () → ia (tb_G L xs) (dep + 4) J_HField_build (rwI w Q) (278, L', [.int y19], M20) := by
            intro  L' l31 h
            replace h := hQ29  h
            refine iq_iconst hS 279 J_HField_build_d278 (v := 0) (by decide +kernel) rfl ?_
            exact J28 _ _ l31 (ed_some h)
          refine iq_if_eq hS 259 J_HField_build_d256 (t := 278) rfl (fun q256 => ?_) rfl (fun q256 => ?_)
          · replace h := ed_pos q256 h
            exact J29  _ l24 (hk29  h)
          · replace h := ed_neg q256 h
            refine iq_iload hS 261 J_HField_build_d259 l23 rfl ?_
            refine iq_aload_n hS 262 J_HField_build_d261 l21 rfl ?_
            refine iq_getR hS 265 J_HField_build_d262 lf_2_9 (Or.inr ⟨_, rfl⟩) (ka_23 hM20) (ra_23_3 hM20) rfl ?_
            refine iq_iconst hS 266 J_HField_build_d265 (v := 1) (by decide +kernel) rfl ?_
            obtain ⟨g266, h⟩ := ed_gd h
            refine iq_iaload hS 267 J_HField_build_d266 ⟨(ka_24 hM20).1, (ka_24 hM20).2, g266.1, ix_lt (kl_24 hM20) g266.2⟩ rfl ?_
            refine iq_iadd hS 268 J_HField_build_d267 rfl ?_
            obtain ⟨Q30, hQ30, h⟩ := bd1_ed h
            refine iq_cpI hS 271 J_HField_build_d268 rfl (pr_stat (vs := [_]) lc_2_87 lT_68 rfl rfl (by decide) rfl (Nat.le_of_ble_eq_true rfl) (Nat.le_of_ble_eq_true rfl)) (f_HOrders_inRange_ok (dep := dep + 3) hM20 h) rfl ?_
            intro x30 h
            replace h := hQ30 _ h
            refine iq_if_eq hS 274 J_HField_build_d271 (t := 278) rfl (fun q271 => ?_) rfl (fun q271 => ?_)
            · replace h := ed_pos q271 h
              exact J29  _ l24 (hk29  h)
            · replace h := ed_neg q271 h
              refine iq_iconst hS 275 J_HField_build_d274 (v := 1) (by decide +kernel) rfl ?_
              refine iq_goto hS J_HField_build_d275 (t := 279) rfl ?_
              exact J28 _ _ l24 (ed_some h)
      obtain ⟨r18, hr18, hq18⟩ := h
      obtain ⟨n18, hn18⟩ := lp_n hr18
      have I18 : ∀ (n : Nat) (x37 : Int32) (x38 : Int32) (M39 : im_M) (L' : List (Nat × Value)), lw_S w M39 → im_lk L' 0 = some (.ref 23) → im_lk L' 1 = some (.ref 19) → im_lk L' 4 = some (.int ((im_i M 17 (Int32.toNatClampNeg 0)) + (im_i M 23 0))) → im_lk L' 5 = some (.int ((im_i M 17 (Int32.toNatClampNeg 1)) + (im_i M 23 1))) → im_lk L' 6 = some (.int y4) → im_lk L' 7 = some (.int x37) → im_lk L' 8 = some (.int x38) → lpn (uc3 (f_HField_build_L95 ((im_i M 17 (Int32.toNatClampNeg 0)) + (im_i M 23 0)) ((im_i M 17 (Int32.toNatClampNeg 1)) + (im_i M 23 1)) y4)) n (x37, x38, M39) = some r18 → ia (tb_G L xs) (dep + 4) J_HField_build (rwI w Q) (95, L', [], M39) := by
        intro n
        induction n with
        | zero => intro x37 x38 M39 L' hM39 l40 l41 l42 l43 l44 l45 l46 hn; exact (lpn_0 hn).elim
        | succ n ih =>
          intro x37 x38 M39 L' hM39 l40 l41 l42 l43 l44 l45 l46 hn
          have h := lpn_ed3 hn
          unfold f_HField_build_L95 at h
          refine iq_iload hS 97 J_HField_build_d95 l45 rfl ?_
          refine iq_if_eq hS 100 J_HField_build_d97 (t := 233) rfl (fun q97 => ?_) rfl (fun q97 => ?_)
          · replace h := ed_pos q97 h
            exact K18 _ _ _ hM39 l40 l42 l43 l44 l45 (lq_r h hq18)
          · replace h := ed_neg q97 h
            refine iq_iload hS 102 J_HField_build_d100 l46 rfl ?_
            refine iq_iload hS 104 J_HField_build_d102 l44 rfl ?_
            refine iq_icmp_ge hS 107 J_HField_build_d104 (t := 233) rfl (fun q104 => ?_) rfl (fun q104 => ?_)
            · replace h := ed_pos q104 h
              exact K18 _ _ _ hM39 l40 l42 l43 l44 l45 (lq_r h hq18)
            · replace h := ed_neg q104 h
              refine iq_aload_n hS 108 J_HField_build_d107 l41 rfl ?_
              refine iq_getI hS 111 J_HField_build_d108 lf_2_81 (Or.inl rfl) (ka_19 hM39) rfl ?_
              refine iq_iload hS 113 J_HField_build_d111 l46 rfl ?_
              refine iq_iadd hS 114 J_HField_build_d113 rfl ?_
              refine iq_bipush hS 116 J_HField_build_d114 (v := 14) (by decide +kernel) rfl ?_
              refine iq_imul hS 117 J_HField_build_d116 rfl ?_
              refine iq_istore hS 119 J_HField_build_d117 (by decide) rfl ?_
              refine iq_aload_n hS 120 J_HField_build_d119 (lk_1r l41 (by decide)) rfl ?_
              refine iq_getR hS 123 J_HField_build_d120 lf_2_84 (Or.inr ⟨_, rfl⟩) (ka_19 hM39) (ra_19_0 hM39) rfl ?_
              refine iq_iload hS 125 J_HField_build_d123 lk_1s rfl ?_
              refine iq_iconst hS 126 J_HField_build_d125 (v := 4) (by decide +kernel) rfl ?_
              refine iq_iadd hS 127 J_HField_build_d126 rfl ?_
              refine iq_aload_n hS 128 J_HField_build_d127 (lk_1r l40 (by decide)) rfl ?_
              refine iq_getI hS 131 J_HField_build_d128 lf_2_37 (Or.inr rfl) (ka_23 hM39) rfl ?_
              have J47 : ∀ (z48 : Int32) (L' : List (Nat × Value)), z48 = ((if (im_i M39 23 4) = 0 then 0 else 2) : Int32) → im_lk L' 0 = some (.ref 23) → im_lk L' 1 = some (.ref 19) → im_lk L' 4 = some (.int ((im_i M 17 (Int32.toNatClampNeg 0)) + (im_i M 23 0))) → im_lk L' 5 = some (.int ((im_i M 17 (Int32.toNatClampNeg 1)) + (im_i M 23 1))) → im_lk L' 6 = some (.int y4) → im_lk L' 8 = some (.int x38) → im_lk L' 9 = some (.int (((im_i M39 19 3) + x38) * 14)) → ia (tb_G L xs) (dep + 4) J_HField_build (rwI w Q) (139, L', [.int z48, .int ((((im_i M39 19 3) + x38) * 14) + 4), .ref 21], M39) := by
                intro z48 L' e49 l50 l51 l52 l53 l54 l55 l56
                subst e49
                obtain ⟨g139, h⟩ := ed_gd h
                refine iq_iastore hS 140 J_HField_build_d139 ⟨(ka_21 hM39).1, (ka_21 hM39).2, g139.1, ix_lt (kl_21 hM39) g139.2⟩ rfl ?_
                refine iq_aload_n hS 141 J_HField_build_d140 l51 rfl ?_
                refine iq_getR hS 144 J_HField_build_d141 lf_2_84 (Or.inr ⟨_, rfl⟩) (ka_19 hM39) (ra_19_0 hM39) rfl ?_
                refine iq_iload hS 146 J_HField_build_d144 l56 rfl ?_
                refine iq_bipush hS 148 J_HField_build_d146 (v := 11) (by decide +kernel) rfl ?_
                refine iq_iadd hS 149 J_HField_build_d148 rfl ?_
                refine iq_aload_n hS 150 J_HField_build_d149 l50 rfl ?_
                refine iq_getI hS 153 J_HField_build_d150 lf_2_41 (Or.inr rfl) (ka_23 hM39) rfl ?_
                have J57 : ∀ (z58 : Int32) (L' : List (Nat × Value)), z58 = ((if (im_i (im_setI M39 21 (Int32.toNatClampNeg ((((im_i M39 19 3) + x38) * 14) + 4)) ((if (im_i M39 23 4) = 0 then 0 else 2) : Int32)) 23 5) = 0 then 0 else 1) : Int32) → im_lk L' 0 = some (.ref 23) → im_lk L' 1 = some (.ref 19) → im_lk L' 4 = some (.int ((im_i M 17 (Int32.toNatClampNeg 0)) + (im_i M 23 0))) → im_lk L' 5 = some (.int ((im_i M 17 (Int32.toNatClampNeg 1)) + (im_i M 23 1))) → im_lk L' 6 = some (.int y4) → im_lk L' 8 = some (.int x38) → im_lk L' 9 = some (.int (((im_i M39 19 3) + x38) * 14)) → ia (tb_G L xs) (dep + 4) J_HField_build (rwI w Q) (161, L', [.int z58, .int ((((im_i M39 19 3) + x38) * 14) + 11), .ref 21], (im_setI M39 21 (Int32.toNatClampNeg ((((im_i M39 19 3) + x38) * 14) + 4)) ((if (im_i M39 23 4) = 0 then 0 else 2) : Int32))) := by
                  intro z58 L' e59 l60 l61 l62 l63 l64 l65 l66
                  subst e59
                  obtain ⟨g161, h⟩ := ed_gd h
                  refine iq_iastore hS 162 J_HField_build_d161 ⟨(ka_21 hM39).1, (ka_21 hM39).2, g161.1, ix_lt (kl_21 hM39) g161.2⟩ rfl ?_
                  refine iq_aload_n hS 163 J_HField_build_d162 l61 rfl ?_
                  refine iq_getR hS 166 J_HField_build_d163 lf_2_84 (Or.inr ⟨_, rfl⟩) (ka_19 hM39) (ra_19_0 hM39) rfl ?_
                  refine iq_iload hS 168 J_HField_build_d166 l66 rfl ?_
                  refine iq_bipush hS 170 J_HField_build_d168 (v := 12) (by decide +kernel) rfl ?_
                  refine iq_iadd hS 171 J_HField_build_d170 rfl ?_
                  refine iq_aload_n hS 172 J_HField_build_d171 l60 rfl ?_
                  refine iq_getI hS 175 J_HField_build_d172 lf_2_44 (Or.inl rfl) (ka_23 hM39) rfl ?_
                  obtain ⟨g175, h⟩ := ed_gd h
                  refine iq_iastore hS 176 J_HField_build_d175 ⟨(ka_21 hM39).1, (ka_21 hM39).2, g175.1, ix_lt (kl_21 hM39) g175.2⟩ rfl ?_
                  refine iq_aload_n hS 177 J_HField_build_d176 l61 rfl ?_
                  refine iq_getR hS 180 J_HField_build_d177 lf_2_84 (Or.inr ⟨_, rfl⟩) (ka_19 hM39) (ra_19_0 hM39) rfl ?_
                  refine iq_iload hS 182 J_HField_build_d180 l66 rfl ?_
                  refine iq_bipush hS 184 J_HField_build_d182 (v := 13) (by decide +kernel) rfl ?_
                  refine iq_iadd hS 185 J_HField_build_d184 rfl ?_
                  refine iq_aload_n hS 186 J_HField_build_d185 l60 rfl ?_
                  refine iq_getI hS 189 J_HField_build_d186 lf_2_47 (Or.inl rfl) (ka_23 hM39) rfl ?_
                  obtain ⟨g189, h⟩ := ed_gd h
                  refine iq_iastore hS 190 J_HField_build_d189 ⟨(ka_21 hM39).1, (ka_21 hM39).2, g189.1, ix_lt (kl_21 hM39) g189.2⟩ rfl ?_
                  refine iq_aload_n hS 191 J_HField_build_d190 l61 rfl ?_
                  refine iq_getR hS 194 J_HField_build_d191 lf_2_84 (Or.inr ⟨_, rfl⟩) (ka_19 hM39) (ra_19_0 hM39) rfl ?_
                  refine iq_iload hS 196 J_HField_build_d194 l66 rfl ?_
                  refine iq_iconst hS 197 J_HField_build_d196 (v := 1) (by decide +kernel) rfl ?_
                  refine iq_iadd hS 198 J_HField_build_d197 rfl ?_
                  obtain ⟨g198, h⟩ := ed_gd h
                  refine iq_iaload hS 199 J_HField_build_d198 ⟨(ka_21 hM39).1, (ka_21 hM39).2, g198.1, ix_lt (kl_21 hM39) g198.2⟩ rfl ?_
                  obtain ⟨Q67, hQ67, h⟩ := bd1_ed h
                  refine iq_cpI hS 202 J_HField_build_d199 rfl (pr_stat (vs := [_]) lc_2_87 lT_68 rfl rfl (by decide) rfl (Nat.le_of_ble_eq_true rfl) (Nat.le_of_ble_eq_true rfl)) (f_HOrders_inRange_ok (dep := dep + 3) hM39 h) rfl ?_
                  intro x67 h
                  replace h := hQ67 _ h
                  obtain ⟨Q68, hQ68, h⟩ := bd1_ed h
                  have J68 : ∀ (y77 : Int32) (L' : List (Nat × Value)), im_lk L' 0 = some (.ref 23) → im_lk L' 1 = some (.ref 19) → im_lk L' 4 = some (.int ((im_i M 17 (Int32.toNatClampNeg 0)) + (im_i M 23 0))) → im_lk L' 5 = some (.int ((im_i M 17 (Int32.toNatClampNeg 1)) + (im_i M 23 1))) → im_lk L' 6 = some (.int y4) → im_lk L' 8 = some (.int x38) → Q68 y77 → ia (tb_G L xs) (dep + 4) J_HField_build (rwI w Q) (225, L', [.int y77], (im_setI (im_setI (im_setI (im_setI M39 21 (Int32.toNatClampNeg ((((im_i M39 19 3) + x38) * 14) + 4)) ((if (im_i M39 23 4) = 0 then 0 else 2) : Int32)) 21 (Int32.toNatClampNeg ((((im_i M39 19 3) + x38) * 14) + 11)) ((if (im_i (im_setI M39 21 (Int32.toNatClampNeg ((((im_i M39 19 3) + x38) * 14) + 4)) ((if (im_i M39 23 4) = 0 then 0 else 2) : Int32)) 23 5) = 0 then 0 else 1) : Int32)) 21 (Int32.toNatClampNeg ((((im_i M39 19 3) + x38) * 14) + 12)) (im_i (im_setI (im_setI M39 21 (Int32.toNatClampNeg ((((im_i M39 19 3) + x38) * 14) + 4)) ((if (im_i M39 23 4) = 0 then 0 else 2) : Int32)) 21 (Int32.toNatClampNeg ((((im_i M39 19 3) + x38) * 14) + 11)) ((if (im_i (im_setI M39 21 (Int32.toNatClampNeg ((((im_i M39 19 3) + x38) * 14) + 4)) ((if (im_i M39 23 4) = 0 then 0 else 2) : Int32)) 23 5) = 0 then 0 else 1) : Int32)) 23 6)) 21 (Int32.toNatClampNeg ((((im_i M39 19 3) + x38) * 14) + 13)) (im_i (im_setI (im_setI (im_setI M39 21 (Int32.toNatClampNeg ((((im_i M39 19 3) + x38) * 14) + 4)) ((if (im_i M39 23 4) = 0 then 0 else 2) : Int32)) 21 (Int32.toNatClampNeg ((((im_i M39 19 3) + x38) * 14) + 11)) ((if (im_i (im_setI M39 21 (Int32.toNatClampNeg ((((im_i M39 19 3) + x38) * 14) + 4)) ((if (im_i M39 23 4) = 0 then 0 else 2) : Int32)) 23 5) = 0 then 0 else 1) : Int32)) 21 (Int32.toNatClampNeg ((((im_i M39 19 3) + x38) * 14) + 12)) (im_i (im_setI (im_setI M39 21 (Int32.toNatClampNeg ((((im_i M39 19 3) + x38) * 14) + 4)) ((if (im_i M39 23 4) = 0 then 0 else 2) : Int32)) 21 (Int32.toNatClampNeg ((((im_i M39 19 3) + x38) * 14) + 11)) ((if (im_i (im_setI M39 21 (Int32.toNatClampNeg ((((im_i M39 19 3) + x38) * 14) + 4)) ((if (im_i M39 23 4) = 0 then 0 else 2) : Int32)) 23 5) = 0 then 0 else 1) : Int32)) 23 6)) 23 8))) := by
                    intro y77 L' l78 l79 l80 l81 l82 l83 h
                    replace h := hQ68 _ h
                    refine iq_istore hS 227 J_HField_build_d225 (by decide) rfl ?_
                    refine iq_iincv hS 230 J_HField_build_d227 (c := 1) (by decide +kernel) (lk_1i l83 (by decide)) (by decide) rfl ?_
                    refine iq_goto hS J_HField_build_d230 (t := 95) rfl ?_
                    exact ih _ _ _ _ hM39 (lk_1r (lk_1r l78 (by decide)) (by decide)) (lk_1r (lk_1r l79 (by decide)) (by decide)) (lk_1i (lk_1i l80 (by decide)) (by decide)) (lk_1i (lk_1i l81 (by decide)) (by decide)) (lk_1i (lk_1i l82 (by decide)) (by decide)) (lk_1i lk_1s (by decide)) lk_1s (lq_l h)
                  obtain ⟨k69, Q69, hQ69, hk69, h⟩ := jn0_ed h
                  have J69 : ∀  (L' : List (Nat × Value)), im_lk L' 0 = some (.ref 23) → im_lk L' 1 = some (.ref 19) → im_lk L' 4 = some (.int ((im_i M 17 (Int32.toNatClampNeg 0)) + (im_i M 23 0))) → im_lk L' 5 = some (.int ((im_i M 17 (Int32.toNatClampNeg 1)) + (im_i M 23 1))) → im_lk L' 6 = some (.int y4) → im_lk L' 8 = some (.int x38) → Q69 () → ia (tb_G L xs) (dep + 4) J_HField_build (rwI w Q) (224, L', [], (im_setI (im_setI (im_setI (im_setI M39 21 (Int32.toNatClampNeg ((((im_i M39 19 3) + x38) * 14) + 4)) ((if (im_i M39 23 4) = 0 then 0 else 2) : Int32)) 21 (Int32.toNatClampNeg ((((im_i M39 19 3) + x38) * 14) + 11)) ((if (im_i (im_setI M39 21 (Int32.toNatClampNeg ((((im_i M39 19 3) + x38) * 14) + 4)) ((if (im_i M39 23 4) = 0 then 0 else 2) : Int32)) 23 5) = 0 then 0 else 1) : Int32)) 21 (Int32.toNatClampNeg ((((im_i M39 19 3) + x38) * 14) + 12)) (im_i (im_setI (im_setI M39 21 (Int32.toNatClampNeg ((((im_i M39 19 3) + x38) * 14) + 4)) ((if (im_i M39 23 4) = 0 then 0 else 2) : Int32)) 21 (Int32.toNatClampNeg ((((im_i M39 19 3) + x38) * 14) + 11)) ((if (im_i (im_setI M39 21 (Int32.toNatClampNeg ((((im_i M39 19 3) + x38) * 14) + 4)) ((if (im_i M39 23 4) = 0 then 0 else 2) : Int32)) 23 5) = 0 then 0 else 1) : Int32)) 23 6)) 21 (Int32.toNatClampNeg ((((im_i M39 19 3) + x38) * 14) + 13)) (im_i (im_setI (im_setI (im_setI M39 21 (Int32.toNatClampNeg ((((im_i M39 19 3) + x38) * 14) + 4)) ((if (im_i M39 23 4) = 0 then 0 else 2) : Int32)) 21 (Int32.toNatClampNeg ((((im_i M39 19 3) + x38) * 14) + 11)) ((if (im_i (im_setI M39 21 (Int32.toNatClampNeg ((((im_i M39 19 3) + x38) * 14) + 4)) ((if (im_i M39 23 4) = 0 then 0 else 2) : Int32)) 23 5) = 0 then 0 else 1) : Int32)) 21 (Int32.toNatClampNeg ((((im_i M39 19 3) + x38) * 14) + 12)) (im_i (im_setI (im_setI M39 21 (Int32.toNatClampNeg ((((im_i M39 19 3) + x38) * 14) + 4)) ((if (im_i M39 23 4) = 0 then 0 else 2) : Int32)) 21 (Int32.toNatClampNeg ((((im_i M39 19 3) + x38) * 14) + 11)) ((if (im_i (im_setI M39 21 (Int32.toNatClampNeg ((((im_i M39 19 3) + x38) * 14) + 4)) ((if (im_i M39 23 4) = 0 then 0 else 2) : Int32)) 23 5) = 0 then 0 else 1) : Int32)) 23 6)) 23 8))) := by
                    intro  L' l71 l72 l73 l74 l75 l76 h
                    replace h := hQ69  h
                    refine iq_iconst hS 225 J_HField_build_d224 (v := 0) (by decide +kernel) rfl ?_
                    exact J68 _ _ l71 l72 l73 l74 l75 l76 (ed_some h)
                  refine iq_if_eq hS 205 J_HField_build_d202 (t := 224) rfl (fun q202 => ?_) rfl (fun q202 => ?_)
                  · replace h := ed_pos q202 h
                    exact J69  _ l60 l61 l62 l63 l64 l65 (hk69  h)
                  · replace h := ed_neg q202 h
                    refine iq_aload_n hS 206 J_HField_build_d205 l61 rfl ?_
                    refine iq_getR hS 209 J_HField_build_d206 lf_2_84 (Or.inr ⟨_, rfl⟩) (ka_19 hM39) (ra_19_0 hM39) rfl ?_
                    refine iq_iload hS 211 J_HField_build_d209 l66 rfl ?_
                    refine iq_iconst hS 212 J_HField_build_d211 (v := 2) (by decide +kernel) rfl ?_
                    refine iq_iadd hS 213 J_HField_build_d212 rfl ?_
                    obtain ⟨g213, h⟩ := ed_gd h
                    refine iq_iaload hS 214 J_HField_build_d213 ⟨(ka_21 hM39).1, (ka_21 hM39).2, g213.1, ix_lt (kl_21 hM39) g213.2⟩ rfl ?_
                    obtain ⟨Q70, hQ70, h⟩ := bd1_ed h
                    refine iq_cpI hS 217 J_HField_build_d214 rfl (pr_stat (vs := [_]) lc_2_87 lT_68 rfl rfl (by decide) rfl (Nat.le_of_ble_eq_true rfl) (Nat.le_of_ble_eq_true rfl)) (f_HOrders_inRange_ok (dep := dep + 3) hM39 h) rfl ?_
                    intro x70 h
                    replace h := hQ70 _ h
                    refine iq_if_eq hS 220 J_HField_build_d217 (t := 224) rfl (fun q217 => ?_) rfl (fun q217 => ?_)
                    · replace h := ed_pos q217 h
                      exact J69  _ l60 l61 l62 l63 l64 l65 (hk69  h)
                    · replace h := ed_neg q217 h
                      refine iq_iconst hS 221 J_HField_build_d220 (v := 1) (by decide +kernel) rfl ?_
                      refine iq_goto hS J_HField_build_d221 (t := 225) rfl ?_
                      exact J68 _ _ l60 l61 l62 l63 l64 l65 (ed_some h)
                refine iq_if_eq hS 156 J_HField_build_d153 (t := 160) rfl (fun q153 => ?_) rfl (fun q153 => ?_)
                · refine iq_iconst hS 161 J_HField_build_d160 (v := 0) (by decide +kernel) rfl ?_
                  exact J57 _ _ (by rw [if_pos q153]) l50 l51 l52 l53 l54 l55 l56
                · refine iq_iconst hS 157 J_HField_build_d156 (v := 1) (by decide +kernel) rfl ?_
                  refine iq_goto hS J_HField_build_d157 (t := 161) rfl ?_
                  exact J57 _ _ (by rw [if_neg q153]) l50 l51 l52 l53 l54 l55 l56
              refine iq_if_eq hS 134 J_HField_build_d131 (t := 138) rfl (fun q131 => ?_) rfl (fun q131 => ?_)
              · refine iq_iconst hS 139 J_HField_build_d138 (v := 0) (by decide +kernel) rfl ?_
                exact J47 _ _ (by rw [if_pos q131]) (lk_1r l40 (by decide)) (lk_1r l41 (by decide)) (lk_1i l42 (by decide)) (lk_1i l43 (by decide)) (lk_1i l44 (by decide)) (lk_1i l46 (by decide)) lk_1s
              · refine iq_iconst hS 135 J_HField_build_d134 (v := 2) (by decide +kernel) rfl ?_
                refine iq_goto hS J_HField_build_d135 (t := 139) rfl ?_
                exact J47 _ _ (by rw [if_neg q131]) (lk_1r l40 (by decide)) (lk_1r l41 (by decide)) (lk_1i l42 (by decide)) (lk_1i l43 (by decide)) (lk_1i l44 (by decide)) (lk_1i l46 (by decide)) lk_1s
      exact I18 n18 _ _ _ _ hM5 (lk_1r (lk_1r l13 (by decide)) (by decide)) (lk_1r (lk_1r l14 (by decide)) (by decide)) (lk_1i (lk_1i l15 (by decide)) (by decide)) (lk_1i (lk_1i l16 (by decide)) (by decide)) (lk_1i (lk_1i l17 (by decide)) (by decide)) (lk_1i lk_1s (by decide)) lk_1s hn18
    refine iq_icmp_gt hS 85 J_HField_build_d82 (t := 89) rfl (fun q82 => ?_) rfl (fun q82 => ?_)
    · refine iq_iconst hS 90 J_HField_build_d89 (v := 0) (by decide +kernel) rfl ?_
      exact J10 _ _ (by rw [if_pos q82]) (lk_1r l6 (by decide)) (lk_1r l7 (by decide)) (lk_1i l8 (by decide)) (lk_1i l9 (by decide)) lk_1s
    · refine iq_iconst hS 86 J_HField_build_d85 (v := 1) (by decide +kernel) rfl ?_
      refine iq_goto hS J_HField_build_d86 (t := 90) rfl ?_
      exact J10 _ _ (by rw [if_neg q82]) (lk_1r l6 (by decide)) (lk_1r l7 (by decide)) (lk_1i l8 (by decide)) (lk_1i l9 (by decide)) lk_1s
  refine iq_icmp_ne hS 29 J_HField_build_d26 (t := 42) rfl (fun q26 => ?_) rfl (fun q26 => ?_)
  · replace h := ed_pos q26 h
    refine iq_aload_n hS 43 J_HField_build_d42 (lk_1r (lk_1r l0 (by decide)) (by decide)) rfl ?_
    refine iq_aload_n hS 44 J_HField_build_d43 (lk_1r (lk_1r l1 (by decide)) (by decide)) rfl ?_
    refine iq_iload hS 46 J_HField_build_d44 (lk_1i lk_1s (by decide)) rfl ?_
    refine iq_iload hS 48 J_HField_build_d46 lk_1s rfl ?_
    refine iq_aload_n hS 49 J_HField_build_d48 (lk_1r (lk_1r l3 (by decide)) (by decide)) rfl ?_
    obtain ⟨Q2, hQ2, h⟩ := bd2_ed h
    refine iq_cwI hS 52 J_HField_build_d49 rfl (pr_inst (vs := [_, _, _, _]) lc_2_75 lT_67 rfl rfl (by decide) (by decide) rfl (Nat.le_of_ble_eq_true rfl) (Nat.le_of_ble_eq_true rfl) (fun _ => Or.inl (pr_b (ka_23 hM) (by decide) rfl))) (f_HField_layOthers_ok (dep := dep + 0) hM h) rfl ?_
    intro x2 M2 hM2 h
    replace h := hQ2 _ _ h
    exact J1 _ _ _ hM2 (lk_1r (lk_1r l0 (by decide)) (by decide)) (lk_1r (lk_1r l1 (by decide)) (by decide)) (lk_1i lk_1s (by decide)) lk_1s (ed_some h)
  · replace h := ed_neg q26 h
    refine iq_aload_n hS 30 J_HField_build_d29 (lk_1r (lk_1r l0 (by decide)) (by decide)) rfl ?_
    refine iq_aload_n hS 31 J_HField_build_d30 (lk_1r (lk_1r l1 (by decide)) (by decide)) rfl ?_
    refine iq_iload hS 33 J_HField_build_d31 (lk_1i lk_1s (by decide)) rfl ?_
    refine iq_iload hS 35 J_HField_build_d33 lk_1s rfl ?_
    refine iq_aload_n hS 36 J_HField_build_d35 (lk_1r (lk_1r l3 (by decide)) (by decide)) rfl ?_
    obtain ⟨Q3, hQ3, h⟩ := bd2_ed h
    refine iq_cwI hS 39 J_HField_build_d36 rfl (pr_inst (vs := [_, _, _, _]) lc_2_71 lT_51 rfl rfl (by decide) (by decide) rfl (Nat.le_of_ble_eq_true rfl) (Nat.le_of_ble_eq_true rfl) (fun _ => Or.inl (pr_b (ka_23 hM) (by decide) rfl))) (f_HField_layLines_ok (dep := dep + 0) hM h) rfl ?_
    intro x3 M3 hM3 h
    replace h := hQ3 _ _ h
    refine iq_goto hS J_HField_build_d39 (t := 52) rfl ?_
    exact J1 _ _ _ hM3 (lk_1r (lk_1r l0 (by decide)) (by decide)) (lk_1r (lk_1r l1 (by decide)) (by decide)) (lk_1i lk_1s (by decide)) lk_1s (ed_some h)
noncomputable def f_HSetter_isTooMuch (p0 : Int32) (M : im_M) : Option (Int32) := if ¬ p0 = 22 then if ¬ p0 = 3 then some 0 else jn0 (fun (_ : Unit) => some 1) fun k1 => if 12 < ((im_i M 15 4) + (im_i M 15 12)) then k1 () else if ((im_i M 11 3) + ((im_i M 15 12) * (im_i M 19 3))) ≤ 120 then some 0 else k1 () else if ((im_i M 19 3) + (im_i M 15 16)) ≤ 120 then some 0 else some 1
theorem J_HSetter_isTooMuch_d0 : decode J_HSetter_isTooMuch.2.1 0 = .ok (.iload_n 1, 1) := by decide +kernel
theorem J_HSetter_isTooMuch_d1 : decode J_HSetter_isTooMuch.2.1 1 = .ok (.bipush 22, 2) := by decide +kernel
theorem J_HSetter_isTooMuch_d3 : decode J_HSetter_isTooMuch.2.1 3 = .ok (.if_icmp .ne 26, 3) := by decide +kernel
theorem J_HSetter_isTooMuch_d6 : decode J_HSetter_isTooMuch.2.1 6 = .ok (.aload_n 0, 1) := by decide +kernel
theorem J_HSetter_isTooMuch_d7 : decode J_HSetter_isTooMuch.2.1 7 = .ok (.getfield 40, 3) := by decide +kernel
theorem J_HSetter_isTooMuch_d10 : decode J_HSetter_isTooMuch.2.1 10 = .ok (.getfield 54, 3) := by decide +kernel
theorem J_HSetter_isTooMuch_d13 : decode J_HSetter_isTooMuch.2.1 13 = .ok (.aload_n 0, 1) := by decide +kernel
theorem J_HSetter_isTooMuch_d14 : decode J_HSetter_isTooMuch.2.1 14 = .ok (.getfield 153, 3) := by decide +kernel
theorem J_HSetter_isTooMuch_d17 : decode J_HSetter_isTooMuch.2.1 17 = .ok (.iadd, 1) := by decide +kernel
theorem J_HSetter_isTooMuch_d18 : decode J_HSetter_isTooMuch.2.1 18 = .ok (.bipush 120, 2) := by decide +kernel
theorem J_HSetter_isTooMuch_d20 : decode J_HSetter_isTooMuch.2.1 20 = .ok (.if_icmp .le 7, 3) := by decide +kernel
theorem J_HSetter_isTooMuch_d23 : decode J_HSetter_isTooMuch.2.1 23 = .ok (.iconst 1, 1) := by decide +kernel
theorem J_HSetter_isTooMuch_d24 : decode J_HSetter_isTooMuch.2.1 24 = .ok (.goto 4, 3) := by decide +kernel
theorem J_HSetter_isTooMuch_d27 : decode J_HSetter_isTooMuch.2.1 27 = .ok (.iconst 0, 1) := by decide +kernel
theorem J_HSetter_isTooMuch_d28 : decode J_HSetter_isTooMuch.2.1 28 = .ok (.ireturn, 1) := by decide +kernel
theorem J_HSetter_isTooMuch_d29 : decode J_HSetter_isTooMuch.2.1 29 = .ok (.iload_n 1, 1) := by decide +kernel
theorem J_HSetter_isTooMuch_d30 : decode J_HSetter_isTooMuch.2.1 30 = .ok (.iconst 3, 1) := by decide +kernel
theorem J_HSetter_isTooMuch_d31 : decode J_HSetter_isTooMuch.2.1 31 = .ok (.if_icmp .ne 46, 3) := by decide +kernel
theorem J_HSetter_isTooMuch_d34 : decode J_HSetter_isTooMuch.2.1 34 = .ok (.aload_n 0, 1) := by decide +kernel
theorem J_HSetter_isTooMuch_d35 : decode J_HSetter_isTooMuch.2.1 35 = .ok (.getfield 51, 3) := by decide +kernel
theorem J_HSetter_isTooMuch_d38 : decode J_HSetter_isTooMuch.2.1 38 = .ok (.aload_n 0, 1) := by decide +kernel
theorem J_HSetter_isTooMuch_d39 : decode J_HSetter_isTooMuch.2.1 39 = .ok (.getfield 162, 3) := by decide +kernel
theorem J_HSetter_isTooMuch_d42 : decode J_HSetter_isTooMuch.2.1 42 = .ok (.iadd, 1) := by decide +kernel
theorem J_HSetter_isTooMuch_d43 : decode J_HSetter_isTooMuch.2.1 43 = .ok (.bipush 12, 2) := by decide +kernel
theorem J_HSetter_isTooMuch_d45 : decode J_HSetter_isTooMuch.2.1 45 = .ok (.if_icmp .gt 28, 3) := by decide +kernel
theorem J_HSetter_isTooMuch_d48 : decode J_HSetter_isTooMuch.2.1 48 = .ok (.aload_n 0, 1) := by decide +kernel
theorem J_HSetter_isTooMuch_d49 : decode J_HSetter_isTooMuch.2.1 49 = .ok (.getfield 29, 3) := by decide +kernel
theorem J_HSetter_isTooMuch_d52 : decode J_HSetter_isTooMuch.2.1 52 = .ok (.getfield 54, 3) := by decide +kernel
theorem J_HSetter_isTooMuch_d55 : decode J_HSetter_isTooMuch.2.1 55 = .ok (.aload_n 0, 1) := by decide +kernel
theorem J_HSetter_isTooMuch_d56 : decode J_HSetter_isTooMuch.2.1 56 = .ok (.getfield 162, 3) := by decide +kernel
theorem J_HSetter_isTooMuch_d59 : decode J_HSetter_isTooMuch.2.1 59 = .ok (.aload_n 0, 1) := by decide +kernel
theorem J_HSetter_isTooMuch_d60 : decode J_HSetter_isTooMuch.2.1 60 = .ok (.getfield 40, 3) := by decide +kernel
theorem J_HSetter_isTooMuch_d63 : decode J_HSetter_isTooMuch.2.1 63 = .ok (.getfield 54, 3) := by decide +kernel
theorem J_HSetter_isTooMuch_d66 : decode J_HSetter_isTooMuch.2.1 66 = .ok (.imul, 1) := by decide +kernel
theorem J_HSetter_isTooMuch_d67 : decode J_HSetter_isTooMuch.2.1 67 = .ok (.iadd, 1) := by decide +kernel
theorem J_HSetter_isTooMuch_d68 : decode J_HSetter_isTooMuch.2.1 68 = .ok (.bipush 120, 2) := by decide +kernel
theorem J_HSetter_isTooMuch_d70 : decode J_HSetter_isTooMuch.2.1 70 = .ok (.if_icmp .le 7, 3) := by decide +kernel
theorem J_HSetter_isTooMuch_d73 : decode J_HSetter_isTooMuch.2.1 73 = .ok (.iconst 1, 1) := by decide +kernel
theorem J_HSetter_isTooMuch_d74 : decode J_HSetter_isTooMuch.2.1 74 = .ok (.goto 4, 3) := by decide +kernel
theorem J_HSetter_isTooMuch_d77 : decode J_HSetter_isTooMuch.2.1 77 = .ok (.iconst 0, 1) := by decide +kernel
theorem J_HSetter_isTooMuch_d78 : decode J_HSetter_isTooMuch.2.1 78 = .ok (.ireturn, 1) := by decide +kernel
theorem f_HSetter_isTooMuch_ok {L : Nat} {xs : Nat → Int32} {dep : Nat} {w : Bool} {p0 : Int32} {M : im_M} {Q : Int32 → Prop} (hM : lw_S w M) (h : ed (f_HSetter_isTooMuch p0 M) Q) : ia (tb_G L xs) dep J_HSetter_isTooMuch (rpI M Q) (0, lv_args 0 [.ref 15, .int p0], [], M) := by
  have hS : im_St (tb_G L xs) dep J_HSetter_isTooMuch (ia (tb_G L xs) dep J_HSetter_isTooMuch (rpI M Q)) := ia_St
  unfold f_HSetter_isTooMuch at h
  have l0 : im_lk (lv_args 0 [.ref 15, .int p0]) 0 = some (.ref 15) := rfl
  have l1 : im_lk (lv_args 0 [.ref 15, .int p0]) 1 = some (.int p0) := rfl
  refine iq_iload_n hS 1 J_HSetter_isTooMuch_d0 l1 rfl ?_
  refine iq_bipush hS 3 J_HSetter_isTooMuch_d1 (v := 22) (by decide +kernel) rfl ?_
  refine iq_icmp_ne hS 6 J_HSetter_isTooMuch_d3 (t := 29) rfl (fun q3 => ?_) rfl (fun q3 => ?_)
  · replace h := ed_pos q3 h
    refine iq_iload_n hS 30 J_HSetter_isTooMuch_d29 l1 rfl ?_
    refine iq_iconst hS 31 J_HSetter_isTooMuch_d30 (v := 3) (by decide +kernel) rfl ?_
    refine iq_icmp_ne hS 34 J_HSetter_isTooMuch_d31 (t := 77) rfl (fun q31 => ?_) rfl (fun q31 => ?_)
    · replace h := ed_pos q31 h
      refine iq_iconst hS 78 J_HSetter_isTooMuch_d77 (v := 0) (by decide +kernel) rfl ?_
      exact iq_iret J_HSetter_isTooMuch_d78 rfl rfl ⟨_, rfl, rfl, ed_some h⟩
    · replace h := ed_neg q31 h
      refine iq_aload_n hS 35 J_HSetter_isTooMuch_d34 l0 rfl ?_
      refine iq_getI hS 38 J_HSetter_isTooMuch_d35 lf_8_51 (Or.inl rfl) (ka_15 hM) rfl ?_
      refine iq_aload_n hS 39 J_HSetter_isTooMuch_d38 l0 rfl ?_
      refine iq_getI hS 42 J_HSetter_isTooMuch_d39 lf_8_162 (Or.inl rfl) (ka_15 hM) rfl ?_
      refine iq_iadd hS 43 J_HSetter_isTooMuch_d42 rfl ?_
      refine iq_bipush hS 45 J_HSetter_isTooMuch_d43 (v := 12) (by decide +kernel) rfl ?_
      obtain ⟨k1, Q1, hQ1, hk1, h⟩ := jn0_ed h
      have J1 : ∀  (L' : List (Nat × Value)), Q1 () → ia (tb_G L xs) dep J_HSetter_isTooMuch (rpI M Q) (73, L', [], M) := by
        intro  L'  h
        replace h := hQ1  h
        refine iq_iconst hS 74 J_HSetter_isTooMuch_d73 (v := 1) (by decide +kernel) rfl ?_
        refine iq_goto hS J_HSetter_isTooMuch_d74 (t := 78) rfl ?_
        exact iq_iret J_HSetter_isTooMuch_d78 rfl rfl ⟨_, rfl, rfl, ed_some h⟩
      refine iq_icmp_gt hS 48 J_HSetter_isTooMuch_d45 (t := 73) rfl (fun q45 => ?_) rfl (fun q45 => ?_)
      · replace h := ed_pos q45 h
        exact J1  _  (hk1  h)
      · replace h := ed_neg q45 h
        refine iq_aload_n hS 49 J_HSetter_isTooMuch_d48 l0 rfl ?_
        refine iq_getR hS 52 J_HSetter_isTooMuch_d49 lf_8_29 (Or.inl ⟨_, rfl⟩) (ka_15 hM) (ra_15_1 hM) rfl ?_
        refine iq_getI hS 55 J_HSetter_isTooMuch_d52 lf_8_54 (Or.inl rfl) (ka_11 hM) rfl ?_
        refine iq_aload_n hS 56 J_HSetter_isTooMuch_d55 l0 rfl ?_
        refine iq_getI hS 59 J_HSetter_isTooMuch_d56 lf_8_162 (Or.inl rfl) (ka_15 hM) rfl ?_
        refine iq_aload_n hS 60 J_HSetter_isTooMuch_d59 l0 rfl ?_
        refine iq_getR hS 63 J_HSetter_isTooMuch_d60 lf_8_40 (Or.inl ⟨_, rfl⟩) (ka_15 hM) (ra_15_2 hM) rfl ?_
        refine iq_getI hS 66 J_HSetter_isTooMuch_d63 lf_8_54 (Or.inl rfl) (ka_19 hM) rfl ?_
        refine iq_imul hS 67 J_HSetter_isTooMuch_d66 rfl ?_
        refine iq_iadd hS 68 J_HSetter_isTooMuch_d67 rfl ?_
        refine iq_bipush hS 70 J_HSetter_isTooMuch_d68 (v := 120) (by decide +kernel) rfl ?_
        refine iq_icmp_le hS 73 J_HSetter_isTooMuch_d70 (t := 77) rfl (fun q70 => ?_) rfl (fun q70 => ?_)
        · replace h := ed_pos q70 h
          refine iq_iconst hS 78 J_HSetter_isTooMuch_d77 (v := 0) (by decide +kernel) rfl ?_
          exact iq_iret J_HSetter_isTooMuch_d78 rfl rfl ⟨_, rfl, rfl, ed_some h⟩
        · replace h := ed_neg q70 h
          exact J1  _  (hk1  h)
  · replace h := ed_neg q3 h
    refine iq_aload_n hS 7 J_HSetter_isTooMuch_d6 l0 rfl ?_
    refine iq_getR hS 10 J_HSetter_isTooMuch_d7 lf_8_40 (Or.inl ⟨_, rfl⟩) (ka_15 hM) (ra_15_2 hM) rfl ?_
    refine iq_getI hS 13 J_HSetter_isTooMuch_d10 lf_8_54 (Or.inl rfl) (ka_19 hM) rfl ?_
    refine iq_aload_n hS 14 J_HSetter_isTooMuch_d13 l0 rfl ?_
    refine iq_getI hS 17 J_HSetter_isTooMuch_d14 lf_8_153 (Or.inl rfl) (ka_15 hM) rfl ?_
    refine iq_iadd hS 18 J_HSetter_isTooMuch_d17 rfl ?_
    refine iq_bipush hS 20 J_HSetter_isTooMuch_d18 (v := 120) (by decide +kernel) rfl ?_
    refine iq_icmp_le hS 23 J_HSetter_isTooMuch_d20 (t := 27) rfl (fun q20 => ?_) rfl (fun q20 => ?_)
    · replace h := ed_pos q20 h
      refine iq_iconst hS 28 J_HSetter_isTooMuch_d27 (v := 0) (by decide +kernel) rfl ?_
      exact iq_iret J_HSetter_isTooMuch_d28 rfl rfl ⟨_, rfl, rfl, ed_some h⟩
    · replace h := ed_neg q20 h
      refine iq_iconst hS 24 J_HSetter_isTooMuch_d23 (v := 1) (by decide +kernel) rfl ?_
      refine iq_goto hS J_HSetter_isTooMuch_d24 (t := 28) rfl ?_
      exact iq_iret J_HSetter_isTooMuch_d28 rfl rfl ⟨_, rfl, rfl, ed_some h⟩
noncomputable def f_HSetter_laterFault (p0 : Int32) (M : im_M) : Option (Int32 × im_M) := jn1 (fun (M3 : im_M) => jn1 (fun (M15 : im_M) => jn0 (fun (_ : Unit) => jn0 (fun (_ : Unit) => some (10, (im_setI M15 15 9 ((im_i M15 15 9) + 1)))) fun k21 => if 2000 ≤ (im_i (im_setI M15 15 9 ((im_i M15 15 9) + 1)) 15 9) then k21 () else bd1 (f_HSetter_isTooMuch p0 (im_setI M15 15 9 ((im_i M15 15 9) + 1))) fun (x22 : Int32) => if x22 = 0 then some (0, (im_setI M15 15 9 ((im_i M15 15 9) + 1))) else k21 ()) fun k18 => if ¬ p0 = 7 then k18 () else gd (inb 0 4) <| gd (inb (im_i M15 9 (Int32.toNatClampNeg 0)) 8) <| if (im_i M15 4 (Int32.toNatClampNeg (im_i M15 9 (Int32.toNatClampNeg 0)))) = 0 then some (9, M15) else if ¬ (im_i M15 1 6) = 4 then k18 () else some (9, M15)) fun k6 => if ¬ p0 = 22 then k6 M3 else bd1 (f_HField_cutLines M3) fun (M7 : im_M) => bd1 (f_HField_hasItsData M7) fun (x8 : Int32) => bd2 (if x8 = 0 then some ((-1), M7) else bd2 (f_HField_build M7) fun (x10 : Int32) (M10 : im_M) => some (x10, M10)) fun (y11 : Int32) (M12 : im_M) => if ¬ (im_i (im_setI M12 15 16 y11) 15 16) = (-1) then k6 (im_setI M12 15 16 y11) else some (8, (im_setI M12 15 16 y11))) fun k1 => if ¬ p0 = 0 then k1 M else bd1 (f_HTape_endOfForm M) fun (x2 : Int32) => if ¬ (im_i (im_setI M 15 15 x2) 15 15) = (-1) then k1 (im_setI M 15 15 x2) else some (7, (im_setI M 15 15 x2))
theorem J_HSetter_laterFault_d0 : decode J_HSetter_laterFault.2.1 0 = .ok (.iload_n 1, 1) := by decide +kernel
theorem J_HSetter_laterFault_d1 : decode J_HSetter_laterFault.2.1 1 = .ok (.ifCond .ne 25, 3) := by decide +kernel
theorem J_HSetter_laterFault_d4 : decode J_HSetter_laterFault.2.1 4 = .ok (.aload_n 0, 1) := by decide +kernel
theorem J_HSetter_laterFault_d5 : decode J_HSetter_laterFault.2.1 5 = .ok (.aload_n 0, 1) := by decide +kernel
theorem J_HSetter_laterFault_d6 : decode J_HSetter_laterFault.2.1 6 = .ok (.getfield 25, 3) := by decide +kernel
theorem J_HSetter_laterFault_d9 : decode J_HSetter_laterFault.2.1 9 = .ok (.invokevirtual 137, 3) := by decide +kernel
theorem J_HSetter_laterFault_d12 : decode J_HSetter_laterFault.2.1 12 = .ok (.putfield 140, 3) := by decide +kernel
theorem J_HSetter_laterFault_d15 : decode J_HSetter_laterFault.2.1 15 = .ok (.aload_n 0, 1) := by decide +kernel
theorem J_HSetter_laterFault_d16 : decode J_HSetter_laterFault.2.1 16 = .ok (.getfield 140, 3) := by decide +kernel
theorem J_HSetter_laterFault_d19 : decode J_HSetter_laterFault.2.1 19 = .ok (.iconst (-1), 1) := by decide +kernel
theorem J_HSetter_laterFault_d20 : decode J_HSetter_laterFault.2.1 20 = .ok (.if_icmp .ne 6, 3) := by decide +kernel
theorem J_HSetter_laterFault_d23 : decode J_HSetter_laterFault.2.1 23 = .ok (.bipush 7, 2) := by decide +kernel
theorem J_HSetter_laterFault_d25 : decode J_HSetter_laterFault.2.1 25 = .ok (.ireturn, 1) := by decide +kernel
theorem J_HSetter_laterFault_d26 : decode J_HSetter_laterFault.2.1 26 = .ok (.iload_n 1, 1) := by decide +kernel
theorem J_HSetter_laterFault_d27 : decode J_HSetter_laterFault.2.1 27 = .ok (.bipush 22, 2) := by decide +kernel
theorem J_HSetter_laterFault_d29 : decode J_HSetter_laterFault.2.1 29 = .ok (.if_icmp .ne 58, 3) := by decide +kernel
theorem J_HSetter_laterFault_d32 : decode J_HSetter_laterFault.2.1 32 = .ok (.aload_n 0, 1) := by decide +kernel
theorem J_HSetter_laterFault_d33 : decode J_HSetter_laterFault.2.1 33 = .ok (.getfield 44, 3) := by decide +kernel
theorem J_HSetter_laterFault_d36 : decode J_HSetter_laterFault.2.1 36 = .ok (.invokevirtual 143, 3) := by decide +kernel
theorem J_HSetter_laterFault_d39 : decode J_HSetter_laterFault.2.1 39 = .ok (.aload_n 0, 1) := by decide +kernel
theorem J_HSetter_laterFault_d40 : decode J_HSetter_laterFault.2.1 40 = .ok (.aload_n 0, 1) := by decide +kernel
theorem J_HSetter_laterFault_d41 : decode J_HSetter_laterFault.2.1 41 = .ok (.getfield 44, 3) := by decide +kernel
theorem J_HSetter_laterFault_d44 : decode J_HSetter_laterFault.2.1 44 = .ok (.invokevirtual 146, 3) := by decide +kernel
theorem J_HSetter_laterFault_d47 : decode J_HSetter_laterFault.2.1 47 = .ok (.ifCond .eq 25, 3) := by decide +kernel
theorem J_HSetter_laterFault_d50 : decode J_HSetter_laterFault.2.1 50 = .ok (.aload_n 0, 1) := by decide +kernel
theorem J_HSetter_laterFault_d51 : decode J_HSetter_laterFault.2.1 51 = .ok (.getfield 44, 3) := by decide +kernel
theorem J_HSetter_laterFault_d54 : decode J_HSetter_laterFault.2.1 54 = .ok (.aload_n 0, 1) := by decide +kernel
theorem J_HSetter_laterFault_d55 : decode J_HSetter_laterFault.2.1 55 = .ok (.getfield 40, 3) := by decide +kernel
theorem J_HSetter_laterFault_d58 : decode J_HSetter_laterFault.2.1 58 = .ok (.aload_n 0, 1) := by decide +kernel
theorem J_HSetter_laterFault_d59 : decode J_HSetter_laterFault.2.1 59 = .ok (.getfield 19, 3) := by decide +kernel
theorem J_HSetter_laterFault_d62 : decode J_HSetter_laterFault.2.1 62 = .ok (.aload_n 0, 1) := by decide +kernel
theorem J_HSetter_laterFault_d63 : decode J_HSetter_laterFault.2.1 63 = .ok (.getfield 22, 3) := by decide +kernel
theorem J_HSetter_laterFault_d66 : decode J_HSetter_laterFault.2.1 66 = .ok (.invokevirtual 149, 3) := by decide +kernel
theorem J_HSetter_laterFault_d69 : decode J_HSetter_laterFault.2.1 69 = .ok (.goto 4, 3) := by decide +kernel
theorem J_HSetter_laterFault_d72 : decode J_HSetter_laterFault.2.1 72 = .ok (.iconst (-1), 1) := by decide +kernel
theorem J_HSetter_laterFault_d73 : decode J_HSetter_laterFault.2.1 73 = .ok (.putfield 153, 3) := by decide +kernel
theorem J_HSetter_laterFault_d76 : decode J_HSetter_laterFault.2.1 76 = .ok (.aload_n 0, 1) := by decide +kernel
theorem J_HSetter_laterFault_d77 : decode J_HSetter_laterFault.2.1 77 = .ok (.getfield 153, 3) := by decide +kernel
theorem J_HSetter_laterFault_d80 : decode J_HSetter_laterFault.2.1 80 = .ok (.iconst (-1), 1) := by decide +kernel
theorem J_HSetter_laterFault_d81 : decode J_HSetter_laterFault.2.1 81 = .ok (.if_icmp .ne 6, 3) := by decide +kernel
theorem J_HSetter_laterFault_d84 : decode J_HSetter_laterFault.2.1 84 = .ok (.bipush 8, 2) := by decide +kernel
theorem J_HSetter_laterFault_d86 : decode J_HSetter_laterFault.2.1 86 = .ok (.ireturn, 1) := by decide +kernel
theorem J_HSetter_laterFault_d87 : decode J_HSetter_laterFault.2.1 87 = .ok (.iload_n 1, 1) := by decide +kernel
theorem J_HSetter_laterFault_d88 : decode J_HSetter_laterFault.2.1 88 = .ok (.bipush 7, 2) := by decide +kernel
theorem J_HSetter_laterFault_d90 : decode J_HSetter_laterFault.2.1 90 = .ok (.if_icmp .ne 37, 3) := by decide +kernel
theorem J_HSetter_laterFault_d93 : decode J_HSetter_laterFault.2.1 93 = .ok (.aload_n 0, 1) := by decide +kernel
theorem J_HSetter_laterFault_d94 : decode J_HSetter_laterFault.2.1 94 = .ok (.getfield 25, 3) := by decide +kernel
theorem J_HSetter_laterFault_d97 : decode J_HSetter_laterFault.2.1 97 = .ok (.getfield 156, 3) := by decide +kernel
theorem J_HSetter_laterFault_d100 : decode J_HSetter_laterFault.2.1 100 = .ok (.aload_n 0, 1) := by decide +kernel
theorem J_HSetter_laterFault_d101 : decode J_HSetter_laterFault.2.1 101 = .ok (.getfield 25, 3) := by decide +kernel
theorem J_HSetter_laterFault_d104 : decode J_HSetter_laterFault.2.1 104 = .ok (.getfield 131, 3) := by decide +kernel
theorem J_HSetter_laterFault_d107 : decode J_HSetter_laterFault.2.1 107 = .ok (.iconst 0, 1) := by decide +kernel
theorem J_HSetter_laterFault_d108 : decode J_HSetter_laterFault.2.1 108 = .ok (.iaload, 1) := by decide +kernel
theorem J_HSetter_laterFault_d109 : decode J_HSetter_laterFault.2.1 109 = .ok (.iaload, 1) := by decide +kernel
theorem J_HSetter_laterFault_d110 : decode J_HSetter_laterFault.2.1 110 = .ok (.ifCond .eq 14, 3) := by decide +kernel
theorem J_HSetter_laterFault_d113 : decode J_HSetter_laterFault.2.1 113 = .ok (.aload_n 0, 1) := by decide +kernel
theorem J_HSetter_laterFault_d114 : decode J_HSetter_laterFault.2.1 114 = .ok (.getfield 25, 3) := by decide +kernel
theorem J_HSetter_laterFault_d117 : decode J_HSetter_laterFault.2.1 117 = .ok (.getfield 79, 3) := by decide +kernel
theorem J_HSetter_laterFault_d120 : decode J_HSetter_laterFault.2.1 120 = .ok (.iconst 4, 1) := by decide +kernel
theorem J_HSetter_laterFault_d121 : decode J_HSetter_laterFault.2.1 121 = .ok (.if_icmp .ne 6, 3) := by decide +kernel
theorem J_HSetter_laterFault_d124 : decode J_HSetter_laterFault.2.1 124 = .ok (.bipush 9, 2) := by decide +kernel
theorem J_HSetter_laterFault_d126 : decode J_HSetter_laterFault.2.1 126 = .ok (.ireturn, 1) := by decide +kernel
theorem J_HSetter_laterFault_d127 : decode J_HSetter_laterFault.2.1 127 = .ok (.aload_n 0, 1) := by decide +kernel
theorem J_HSetter_laterFault_d128 : decode J_HSetter_laterFault.2.1 128 = .ok (.dup, 1) := by decide +kernel
theorem J_HSetter_laterFault_d129 : decode J_HSetter_laterFault.2.1 129 = .ok (.getfield 66, 3) := by decide +kernel
theorem J_HSetter_laterFault_d132 : decode J_HSetter_laterFault.2.1 132 = .ok (.iconst 1, 1) := by decide +kernel
theorem J_HSetter_laterFault_d133 : decode J_HSetter_laterFault.2.1 133 = .ok (.iadd, 1) := by decide +kernel
theorem J_HSetter_laterFault_d134 : decode J_HSetter_laterFault.2.1 134 = .ok (.putfield 66, 3) := by decide +kernel
theorem J_HSetter_laterFault_d137 : decode J_HSetter_laterFault.2.1 137 = .ok (.aload_n 0, 1) := by decide +kernel
theorem J_HSetter_laterFault_d138 : decode J_HSetter_laterFault.2.1 138 = .ok (.getfield 66, 3) := by decide +kernel
theorem J_HSetter_laterFault_d141 : decode J_HSetter_laterFault.2.1 141 = .ok (.sipush 2000, 3) := by decide +kernel
theorem J_HSetter_laterFault_d144 : decode J_HSetter_laterFault.2.1 144 = .ok (.if_icmp .ge 11, 3) := by decide +kernel
theorem J_HSetter_laterFault_d147 : decode J_HSetter_laterFault.2.1 147 = .ok (.aload_n 0, 1) := by decide +kernel
theorem J_HSetter_laterFault_d148 : decode J_HSetter_laterFault.2.1 148 = .ok (.iload_n 1, 1) := by decide +kernel
theorem J_HSetter_laterFault_d149 : decode J_HSetter_laterFault.2.1 149 = .ok (.invokevirtual 159, 3) := by decide +kernel
theorem J_HSetter_laterFault_d152 : decode J_HSetter_laterFault.2.1 152 = .ok (.ifCond .eq 8, 3) := by decide +kernel
theorem J_HSetter_laterFault_d155 : decode J_HSetter_laterFault.2.1 155 = .ok (.bipush 10, 2) := by decide +kernel
theorem J_HSetter_laterFault_d157 : decode J_HSetter_laterFault.2.1 157 = .ok (.goto 4, 3) := by decide +kernel
theorem J_HSetter_laterFault_d160 : decode J_HSetter_laterFault.2.1 160 = .ok (.iconst 0, 1) := by decide +kernel
theorem J_HSetter_laterFault_d161 : decode J_HSetter_laterFault.2.1 161 = .ok (.ireturn, 1) := by decide +kernel
theorem f_HSetter_laterFault_ok {L : Nat} {xs : Nat → Int32} {dep : Nat} {w : Bool} {p0 : Int32} {M : im_M} {Q : Int32 × im_M → Prop} (hM : lw_S w M) (h : ed (f_HSetter_laterFault p0 M) Q) : ia (tb_G L xs) (dep + 5) J_HSetter_laterFault (rwI w Q) (0, lv_args 0 [.ref 15, .int p0], [], M) := by
  have hS : im_St (tb_G L xs) (dep + 5) J_HSetter_laterFault (ia (tb_G L xs) (dep + 5) J_HSetter_laterFault (rwI w Q)) := ia_St
  unfold f_HSetter_laterFault at h
  have l0 : im_lk (lv_args 0 [.ref 15, .int p0]) 0 = some (.ref 15) := rfl
  have l1 : im_lk (lv_args 0 [.ref 15, .int p0]) 1 = some (.int p0) := rfl
  refine iq_iload_n hS 1 J_HSetter_laterFault_d0 l1 rfl ?_
  obtain ⟨k1, Q1, hQ1, hk1, h⟩ := jn1_ed h
  have J1 : ∀ (M3 : im_M) (L' : List (Nat × Value)), lw_S w M3 → im_lk L' 0 = some (.ref 15) → im_lk L' 1 = some (.int p0) → Q1 M3 → ia (tb_G L xs) (dep + 5) J_HSetter_laterFault (rwI w Q) (26, L', [], M3) := by
    intro M3 L' hM3 l4 l5 h
    replace h := hQ1 _ h
    refine iq_iload_n hS 27 J_HSetter_laterFault_d26 l5 rfl ?_
    refine iq_bipush hS 29 J_HSetter_laterFault_d27 (v := 22) (by decide +kernel) rfl ?_
    obtain ⟨k6, Q6, hQ6, hk6, h⟩ := jn1_ed h
    have J6 : ∀ (M15 : im_M) (L' : List (Nat × Value)), lw_S w M15 → im_lk L' 0 = some (.ref 15) → im_lk L' 1 = some (.int p0) → Q6 M15 → ia (tb_G L xs) (dep + 5) J_HSetter_laterFault (rwI w Q) (87, L', [], M15) := by
      intro M15 L' hM15 l16 l17 h
      replace h := hQ6 _ h
      refine iq_iload_n hS 88 J_HSetter_laterFault_d87 l17 rfl ?_
      refine iq_bipush hS 90 J_HSetter_laterFault_d88 (v := 7) (by decide +kernel) rfl ?_
      obtain ⟨k18, Q18, hQ18, hk18, h⟩ := jn0_ed h
      have J18 : ∀  (L' : List (Nat × Value)), im_lk L' 0 = some (.ref 15) → im_lk L' 1 = some (.int p0) → Q18 () → ia (tb_G L xs) (dep + 5) J_HSetter_laterFault (rwI w Q) (127, L', [], M15) := by
        intro  L' l19 l20 h
        replace h := hQ18  h
        refine iq_aload_n hS 128 J_HSetter_laterFault_d127 l19 rfl ?_
        refine iq_dup hS 129 J_HSetter_laterFault_d128 rfl rfl ?_
        refine iq_getI hS 132 J_HSetter_laterFault_d129 lf_8_66 (Or.inl rfl) (ka_15 hM15) rfl ?_
        refine iq_iconst hS 133 J_HSetter_laterFault_d132 (v := 1) (by decide +kernel) rfl ?_
        refine iq_iadd hS 134 J_HSetter_laterFault_d133 rfl ?_
        refine iq_putI hS 137 J_HSetter_laterFault_d134 lf_8_66 (Or.inl rfl) rfl (ka_15 hM15) rfl ?_
        refine iq_aload_n hS 138 J_HSetter_laterFault_d137 l19 rfl ?_
        refine iq_getI hS 141 J_HSetter_laterFault_d138 lf_8_66 (Or.inl rfl) (ka_15 hM15) rfl ?_
        refine iq_sipush hS 144 J_HSetter_laterFault_d141 (v := 2000) (by decide +kernel) rfl ?_
        obtain ⟨k21, Q21, hQ21, hk21, h⟩ := jn0_ed h
        have J21 : ∀  (L' : List (Nat × Value)), Q21 () → ia (tb_G L xs) (dep + 5) J_HSetter_laterFault (rwI w Q) (155, L', [], (im_setI M15 15 9 ((im_i M15 15 9) + 1))) := by
          intro  L'  h
          replace h := hQ21  h
          refine iq_bipush hS 157 J_HSetter_laterFault_d155 (v := 10) (by decide +kernel) rfl ?_
          refine iq_goto hS J_HSetter_laterFault_d157 (t := 161) rfl ?_
          exact iq_iret J_HSetter_laterFault_d161 rfl rfl ⟨_, rfl, hM15, ed_some h⟩
        refine iq_icmp_ge hS 147 J_HSetter_laterFault_d144 (t := 155) rfl (fun q144 => ?_) rfl (fun q144 => ?_)
        · replace h := ed_pos q144 h
          exact J21  _  (hk21  h)
        · replace h := ed_neg q144 h
          refine iq_aload_n hS 148 J_HSetter_laterFault_d147 l19 rfl ?_
          refine iq_iload_n hS 149 J_HSetter_laterFault_d148 l20 rfl ?_
          obtain ⟨Q22, hQ22, h⟩ := bd1_ed h
          refine iq_cpI hS 152 J_HSetter_laterFault_d149 rfl (pr_inst (vs := [_]) lc_8_159 lT_69 rfl rfl (by decide) (by decide) rfl (Nat.le_of_ble_eq_true rfl) (Nat.le_of_ble_eq_true rfl) (fun _ => Or.inl (pr_b (ka_15 hM15) (by decide) rfl))) (f_HSetter_isTooMuch_ok (dep := dep + 4) hM15 h) rfl ?_
          intro x22 h
          replace h := hQ22 _ h
          refine iq_if_eq hS 155 J_HSetter_laterFault_d152 (t := 160) rfl (fun q152 => ?_) rfl (fun q152 => ?_)
          · replace h := ed_pos q152 h
            refine iq_iconst hS 161 J_HSetter_laterFault_d160 (v := 0) (by decide +kernel) rfl ?_
            exact iq_iret J_HSetter_laterFault_d161 rfl rfl ⟨_, rfl, hM15, ed_some h⟩
          · replace h := ed_neg q152 h
            exact J21  _  (hk21  h)
      refine iq_icmp_ne hS 93 J_HSetter_laterFault_d90 (t := 127) rfl (fun q90 => ?_) rfl (fun q90 => ?_)
      · replace h := ed_pos q90 h
        exact J18  _ l16 l17 (hk18  h)
      · replace h := ed_neg q90 h
        refine iq_aload_n hS 94 J_HSetter_laterFault_d93 l16 rfl ?_
        refine iq_getR hS 97 J_HSetter_laterFault_d94 lf_8_25 (Or.inl ⟨_, rfl⟩) (ka_15 hM15) (ra_15_0 hM15) rfl ?_
        refine iq_getR hS 100 J_HSetter_laterFault_d97 lf_8_156 (Or.inr ⟨_, rfl⟩) (ka_1 hM15) (ra_1_3 hM15) rfl ?_
        refine iq_aload_n hS 101 J_HSetter_laterFault_d100 l16 rfl ?_
        refine iq_getR hS 104 J_HSetter_laterFault_d101 lf_8_25 (Or.inl ⟨_, rfl⟩) (ka_15 hM15) (ra_15_0 hM15) rfl ?_
        refine iq_getR hS 107 J_HSetter_laterFault_d104 lf_8_131 (Or.inr ⟨_, rfl⟩) (ka_1 hM15) (ra_1_9 hM15) rfl ?_
        refine iq_iconst hS 108 J_HSetter_laterFault_d107 (v := 0) (by decide +kernel) rfl ?_
        obtain ⟨g108, h⟩ := ed_gd h
        refine iq_iaload hS 109 J_HSetter_laterFault_d108 ⟨(ka_9 hM15).1, (ka_9 hM15).2, g108.1, ix_lt (kl_9 hM15) g108.2⟩ rfl ?_
        obtain ⟨g109, h⟩ := ed_gd h
        refine iq_iaload hS 110 J_HSetter_laterFault_d109 ⟨(ka_4 hM15).1, (ka_4 hM15).2, g109.1, ix_lt (kl_4 hM15) g109.2⟩ rfl ?_
        refine iq_if_eq hS 113 J_HSetter_laterFault_d110 (t := 124) rfl (fun q110 => ?_) rfl (fun q110 => ?_)
        · replace h := ed_pos q110 h
          refine iq_bipush hS 126 J_HSetter_laterFault_d124 (v := 9) (by decide +kernel) rfl ?_
          exact iq_iret J_HSetter_laterFault_d126 rfl rfl ⟨_, rfl, hM15, ed_some h⟩
        · replace h := ed_neg q110 h
          refine iq_aload_n hS 114 J_HSetter_laterFault_d113 l16 rfl ?_
          refine iq_getR hS 117 J_HSetter_laterFault_d114 lf_8_25 (Or.inl ⟨_, rfl⟩) (ka_15 hM15) (ra_15_0 hM15) rfl ?_
          refine iq_getI hS 120 J_HSetter_laterFault_d117 lf_8_79 (Or.inl rfl) (ka_1 hM15) rfl ?_
          refine iq_iconst hS 121 J_HSetter_laterFault_d120 (v := 4) (by decide +kernel) rfl ?_
          refine iq_icmp_ne hS 124 J_HSetter_laterFault_d121 (t := 127) rfl (fun q121 => ?_) rfl (fun q121 => ?_)
          · replace h := ed_pos q121 h
            exact J18  _ l16 l17 (hk18  h)
          · replace h := ed_neg q121 h
            refine iq_bipush hS 126 J_HSetter_laterFault_d124 (v := 9) (by decide +kernel) rfl ?_
            exact iq_iret J_HSetter_laterFault_d126 rfl rfl ⟨_, rfl, hM15, ed_some h⟩
    refine iq_icmp_ne hS 32 J_HSetter_laterFault_d29 (t := 87) rfl (fun q29 => ?_) rfl (fun q29 => ?_)
    · replace h := ed_pos q29 h
      exact J6 _ _ hM3 l4 l5 (hk6 _ h)
    · replace h := ed_neg q29 h
      refine iq_aload_n hS 33 J_HSetter_laterFault_d32 l4 rfl ?_
      refine iq_getR hS 36 J_HSetter_laterFault_d33 lf_8_44 (Or.inl ⟨_, rfl⟩) (ka_15 hM3) (ra_15_3 hM3) rfl ?_
      obtain ⟨Q7, hQ7, h⟩ := bd1_ed h
      refine iq_cwV hS 39 J_HSetter_laterFault_d36 rfl (pr_inst (vs := []) lc_8_143 lT_43 rfl rfl (by decide) (by decide) rfl (Nat.le_of_ble_eq_true rfl) (Nat.le_of_ble_eq_true rfl) (fun _ => Or.inl (pr_b (ka_23 hM3) (by decide) rfl))) (f_HField_cutLines_ok (dep := dep + 3) hM3 h) rfl ?_
      intro M7 hM7 h
      replace h := hQ7 _ h
      refine iq_aload_n hS 40 J_HSetter_laterFault_d39 l4 rfl ?_
      refine iq_aload_n hS 41 J_HSetter_laterFault_d40 l4 rfl ?_
      refine iq_getR hS 44 J_HSetter_laterFault_d41 lf_8_44 (Or.inl ⟨_, rfl⟩) (ka_15 hM7) (ra_15_3 hM7) rfl ?_
      obtain ⟨Q8, hQ8, h⟩ := bd1_ed h
      refine iq_cpI hS 47 J_HSetter_laterFault_d44 rfl (pr_inst (vs := []) lc_8_146 lT_47 rfl rfl (by decide) (by decide) rfl (Nat.le_of_ble_eq_true rfl) (Nat.le_of_ble_eq_true rfl) (fun _ => Or.inl (pr_b (ka_23 hM7) (by decide) rfl))) (f_HField_hasItsData_ok (dep := dep + 2) hM7 h) rfl ?_
      intro x8 h
      replace h := hQ8 _ h
      obtain ⟨Q9, hQ9, h⟩ := bd2_ed h
      have J9 : ∀ (y11 : Int32) (M12 : im_M) (L' : List (Nat × Value)), lw_S w M12 → im_lk L' 0 = some (.ref 15) → im_lk L' 1 = some (.int p0) → Q9 (y11, M12) → ia (tb_G L xs) (dep + 5) J_HSetter_laterFault (rwI w Q) (73, L', [.int y11, .ref 15], M12) := by
        intro y11 M12 L' hM12 l13 l14 h
        replace h := hQ9 _ _ h
        refine iq_putI hS 76 J_HSetter_laterFault_d73 lf_8_153 (Or.inl rfl) rfl (ka_15 hM12) rfl ?_
        refine iq_aload_n hS 77 J_HSetter_laterFault_d76 l13 rfl ?_
        refine iq_getI hS 80 J_HSetter_laterFault_d77 lf_8_153 (Or.inl rfl) (ka_15 hM12) rfl ?_
        refine iq_iconst hS 81 J_HSetter_laterFault_d80 (v := (-1)) (by decide +kernel) rfl ?_
        refine iq_icmp_ne hS 84 J_HSetter_laterFault_d81 (t := 87) rfl (fun q81 => ?_) rfl (fun q81 => ?_)
        · replace h := ed_pos q81 h
          exact J6 _ _ hM12 l13 l14 (hk6 _ h)
        · replace h := ed_neg q81 h
          refine iq_bipush hS 86 J_HSetter_laterFault_d84 (v := 8) (by decide +kernel) rfl ?_
          exact iq_iret J_HSetter_laterFault_d86 rfl rfl ⟨_, rfl, hM12, ed_some h⟩
      refine iq_if_eq hS 50 J_HSetter_laterFault_d47 (t := 72) rfl (fun q47 => ?_) rfl (fun q47 => ?_)
      · replace h := ed_pos q47 h
        refine iq_iconst hS 73 J_HSetter_laterFault_d72 (v := (-1)) (by decide +kernel) rfl ?_
        exact J9 _ _ _ hM7 l4 l5 (ed_some h)
      · replace h := ed_neg q47 h
        refine iq_aload_n hS 51 J_HSetter_laterFault_d50 l4 rfl ?_
        refine iq_getR hS 54 J_HSetter_laterFault_d51 lf_8_44 (Or.inl ⟨_, rfl⟩) (ka_15 hM7) (ra_15_3 hM7) rfl ?_
        refine iq_aload_n hS 55 J_HSetter_laterFault_d54 l4 rfl ?_
        refine iq_getR hS 58 J_HSetter_laterFault_d55 lf_8_40 (Or.inl ⟨_, rfl⟩) (ka_15 hM7) (ra_15_2 hM7) rfl ?_
        refine iq_aload_n hS 59 J_HSetter_laterFault_d58 l4 rfl ?_
        refine iq_getR hS 62 J_HSetter_laterFault_d59 lf_8_19 (Or.inr ⟨_, rfl⟩) (ka_15 hM7) (ra_15_13 hM7) rfl ?_
        refine iq_aload_n hS 63 J_HSetter_laterFault_d62 l4 rfl ?_
        refine iq_getR hS 66 J_HSetter_laterFault_d63 lf_8_22 (Or.inr ⟨_, rfl⟩) (ka_15 hM7) (ra_15_14 hM7) rfl ?_
        obtain ⟨Q10, hQ10, h⟩ := bd2_ed h
        refine iq_cwI hS 69 J_HSetter_laterFault_d66 rfl (pr_inst (vs := [_, _, _]) lc_8_149 lT_50 rfl rfl (by decide) (by decide) rfl (Nat.le_of_ble_eq_true rfl) (Nat.le_of_ble_eq_true rfl) (fun _ => Or.inl (pr_b (ka_23 hM7) (by decide) rfl))) (f_HField_build_ok (dep := dep + 0) hM7 h) rfl ?_
        intro x10 M10 hM10 h
        replace h := hQ10 _ _ h
        refine iq_goto hS J_HSetter_laterFault_d69 (t := 73) rfl ?_
        exact J9 _ _ _ hM10 l4 l5 (ed_some h)
  refine iq_if_ne hS 4 J_HSetter_laterFault_d1 (t := 26) rfl (fun q1 => ?_) rfl (fun q1 => ?_)
  · replace h := ed_pos q1 h
    exact J1 _ _ hM l0 l1 (hk1 _ h)
  · replace h := ed_neg q1 h
    refine iq_aload_n hS 5 J_HSetter_laterFault_d4 l0 rfl ?_
    refine iq_aload_n hS 6 J_HSetter_laterFault_d5 l0 rfl ?_
    refine iq_getR hS 9 J_HSetter_laterFault_d6 lf_8_25 (Or.inl ⟨_, rfl⟩) (ka_15 hM) (ra_15_0 hM) rfl ?_
    obtain ⟨Q2, hQ2, h⟩ := bd1_ed h
    refine iq_cpI hS 12 J_HSetter_laterFault_d9 rfl (pr_inst (vs := []) lc_8_137 lT_42 rfl rfl (by decide) (by decide) rfl (Nat.le_of_ble_eq_true rfl) (Nat.le_of_ble_eq_true rfl) (fun _ => Or.inl (pr_b (ka_1 hM) (by decide) rfl))) (f_HTape_endOfForm_ok (dep := dep + 4) hM h) rfl ?_
    intro x2 h
    replace h := hQ2 _ h
    refine iq_putI hS 15 J_HSetter_laterFault_d12 lf_8_140 (Or.inl rfl) rfl (ka_15 hM) rfl ?_
    refine iq_aload_n hS 16 J_HSetter_laterFault_d15 l0 rfl ?_
    refine iq_getI hS 19 J_HSetter_laterFault_d16 lf_8_140 (Or.inl rfl) (ka_15 hM) rfl ?_
    refine iq_iconst hS 20 J_HSetter_laterFault_d19 (v := (-1)) (by decide +kernel) rfl ?_
    refine iq_icmp_ne hS 23 J_HSetter_laterFault_d20 (t := 26) rfl (fun q20 => ?_) rfl (fun q20 => ?_)
    · replace h := ed_pos q20 h
      exact J1 _ _ hM l0 l1 (hk1 _ h)
    · replace h := ed_neg q20 h
      refine iq_bipush hS 25 J_HSetter_laterFault_d23 (v := 7) (by decide +kernel) rfl ?_
      exact iq_iret J_HSetter_laterFault_d25 rfl rfl ⟨_, rfl, hM, ed_some h⟩
noncomputable def f_HTape_keepForm (p0 : Int32) (p1 : Int32) (M : im_M) : Option (im_M) := gd (inb 0 5) <| gd (inb 0 5) <| gd (cpy (im_i M 8 (Int32.toNatClampNeg 0)) 4096 (p0 * 400) 3200 (p1 - (im_i M 8 (Int32.toNatClampNeg 0)))) <| gd (inb p0 8) <| gd (inb 0 5) <| some (im_setI (im_setI (im_setA M 3 (va_cpy (im_i M 2) (im_i M 3) (Int32.toNatClampNeg (im_i M 8 (Int32.toNatClampNeg 0))) (Int32.toNatClampNeg (p0 * 400)) (Int32.toNatClampNeg (p1 - (im_i M 8 (Int32.toNatClampNeg 0)))))) 4 (Int32.toNatClampNeg p0) (p1 - (im_i M 8 (Int32.toNatClampNeg 0)))) 8 (Int32.toNatClampNeg 0) (p1 + 2))
theorem J_HTape_keepForm_d0 : decode J_HTape_keepForm.2.1 0 = .ok (.iload_n 2, 1) := by decide +kernel
theorem J_HTape_keepForm_d1 : decode J_HTape_keepForm.2.1 1 = .ok (.aload_n 0, 1) := by decide +kernel
theorem J_HTape_keepForm_d2 : decode J_HTape_keepForm.2.1 2 = .ok (.getfield 31, 3) := by decide +kernel
theorem J_HTape_keepForm_d5 : decode J_HTape_keepForm.2.1 5 = .ok (.iconst 0, 1) := by decide +kernel
theorem J_HTape_keepForm_d6 : decode J_HTape_keepForm.2.1 6 = .ok (.iaload, 1) := by decide +kernel
theorem J_HTape_keepForm_d7 : decode J_HTape_keepForm.2.1 7 = .ok (.isub, 1) := by decide +kernel
theorem J_HTape_keepForm_d8 : decode J_HTape_keepForm.2.1 8 = .ok (.istore_n 3, 1) := by decide +kernel
theorem J_HTape_keepForm_d9 : decode J_HTape_keepForm.2.1 9 = .ok (.aload_n 0, 1) := by decide +kernel
theorem J_HTape_keepForm_d10 : decode J_HTape_keepForm.2.1 10 = .ok (.getfield 11, 3) := by decide +kernel
theorem J_HTape_keepForm_d13 : decode J_HTape_keepForm.2.1 13 = .ok (.aload_n 0, 1) := by decide +kernel
theorem J_HTape_keepForm_d14 : decode J_HTape_keepForm.2.1 14 = .ok (.getfield 31, 3) := by decide +kernel
theorem J_HTape_keepForm_d17 : decode J_HTape_keepForm.2.1 17 = .ok (.iconst 0, 1) := by decide +kernel
theorem J_HTape_keepForm_d18 : decode J_HTape_keepForm.2.1 18 = .ok (.iaload, 1) := by decide +kernel
theorem J_HTape_keepForm_d19 : decode J_HTape_keepForm.2.1 19 = .ok (.aload_n 0, 1) := by decide +kernel
theorem J_HTape_keepForm_d20 : decode J_HTape_keepForm.2.1 20 = .ok (.getfield 15, 3) := by decide +kernel
theorem J_HTape_keepForm_d23 : decode J_HTape_keepForm.2.1 23 = .ok (.iload_n 1, 1) := by decide +kernel
theorem J_HTape_keepForm_d24 : decode J_HTape_keepForm.2.1 24 = .ok (.sipush 400, 3) := by decide +kernel
theorem J_HTape_keepForm_d27 : decode J_HTape_keepForm.2.1 27 = .ok (.imul, 1) := by decide +kernel
theorem J_HTape_keepForm_d28 : decode J_HTape_keepForm.2.1 28 = .ok (.iload_n 3, 1) := by decide +kernel
theorem J_HTape_keepForm_d29 : decode J_HTape_keepForm.2.1 29 = .ok (.invokestatic 71, 3) := by decide +kernel
theorem J_HTape_keepForm_d32 : decode J_HTape_keepForm.2.1 32 = .ok (.aload_n 0, 1) := by decide +kernel
theorem J_HTape_keepForm_d33 : decode J_HTape_keepForm.2.1 33 = .ok (.getfield 18, 3) := by decide +kernel
theorem J_HTape_keepForm_d36 : decode J_HTape_keepForm.2.1 36 = .ok (.iload_n 1, 1) := by decide +kernel
theorem J_HTape_keepForm_d37 : decode J_HTape_keepForm.2.1 37 = .ok (.iload_n 3, 1) := by decide +kernel
theorem J_HTape_keepForm_d38 : decode J_HTape_keepForm.2.1 38 = .ok (.iastore, 1) := by decide +kernel
theorem J_HTape_keepForm_d39 : decode J_HTape_keepForm.2.1 39 = .ok (.aload_n 0, 1) := by decide +kernel
theorem J_HTape_keepForm_d40 : decode J_HTape_keepForm.2.1 40 = .ok (.getfield 31, 3) := by decide +kernel
theorem J_HTape_keepForm_d43 : decode J_HTape_keepForm.2.1 43 = .ok (.iconst 0, 1) := by decide +kernel
theorem J_HTape_keepForm_d44 : decode J_HTape_keepForm.2.1 44 = .ok (.iload_n 2, 1) := by decide +kernel
theorem J_HTape_keepForm_d45 : decode J_HTape_keepForm.2.1 45 = .ok (.iconst 2, 1) := by decide +kernel
theorem J_HTape_keepForm_d46 : decode J_HTape_keepForm.2.1 46 = .ok (.iadd, 1) := by decide +kernel
theorem J_HTape_keepForm_d47 : decode J_HTape_keepForm.2.1 47 = .ok (.iastore, 1) := by decide +kernel
theorem J_HTape_keepForm_d48 : decode J_HTape_keepForm.2.1 48 = .ok (.return_, 1) := by decide +kernel
theorem f_HTape_keepForm_ok {L : Nat} {xs : Nat → Int32} {dep : Nat} {w : Bool} {p0 : Int32} {p1 : Int32} {M : im_M} {Q : im_M → Prop} (hM : lw_S w M) (h : ed (f_HTape_keepForm p0 p1 M) Q) : ia (tb_G L xs) dep J_HTape_keepForm (rwV w Q) (0, lv_args 0 [.ref 1, .int p0, .int p1], [], M) := by
  have hS : im_St (tb_G L xs) dep J_HTape_keepForm (ia (tb_G L xs) dep J_HTape_keepForm (rwV w Q)) := ia_St
  unfold f_HTape_keepForm at h
  have l0 : im_lk (lv_args 0 [.ref 1, .int p0, .int p1]) 0 = some (.ref 1) := rfl
  have l1 : im_lk (lv_args 0 [.ref 1, .int p0, .int p1]) 1 = some (.int p0) := rfl
  have l2 : im_lk (lv_args 0 [.ref 1, .int p0, .int p1]) 2 = some (.int p1) := rfl
  refine iq_iload_n hS 1 J_HTape_keepForm_d0 l2 rfl ?_
  refine iq_aload_n hS 2 J_HTape_keepForm_d1 l0 rfl ?_
  refine iq_getR hS 5 J_HTape_keepForm_d2 lf_10_31 (Or.inr ⟨_, rfl⟩) (ka_1 hM) (ra_1_8 hM) rfl ?_
  refine iq_iconst hS 6 J_HTape_keepForm_d5 (v := 0) (by decide +kernel) rfl ?_
  obtain ⟨g6, h⟩ := ed_gd h
  refine iq_iaload hS 7 J_HTape_keepForm_d6 ⟨(ka_8 hM).1, (ka_8 hM).2, g6.1, ix_lt (kl_8 hM) g6.2⟩ rfl ?_
  refine iq_isub hS 8 J_HTape_keepForm_d7 rfl ?_
  refine iq_istore_n hS 9 J_HTape_keepForm_d8 (by decide) rfl ?_
  refine iq_aload_n hS 10 J_HTape_keepForm_d9 (lk_1r l0 (by decide)) rfl ?_
  refine iq_getR hS 13 J_HTape_keepForm_d10 lf_10_11 (Or.inr ⟨_, rfl⟩) (ka_1 hM) (ra_1_0 hM) rfl ?_
  refine iq_aload_n hS 14 J_HTape_keepForm_d13 (lk_1r l0 (by decide)) rfl ?_
  refine iq_getR hS 17 J_HTape_keepForm_d14 lf_10_31 (Or.inr ⟨_, rfl⟩) (ka_1 hM) (ra_1_8 hM) rfl ?_
  refine iq_iconst hS 18 J_HTape_keepForm_d17 (v := 0) (by decide +kernel) rfl ?_
  obtain ⟨g18, h⟩ := ed_gd h
  refine iq_iaload hS 19 J_HTape_keepForm_d18 ⟨(ka_8 hM).1, (ka_8 hM).2, g18.1, ix_lt (kl_8 hM) g18.2⟩ rfl ?_
  refine iq_aload_n hS 20 J_HTape_keepForm_d19 (lk_1r l0 (by decide)) rfl ?_
  refine iq_getR hS 23 J_HTape_keepForm_d20 lf_10_15 (Or.inr ⟨_, rfl⟩) (ka_1 hM) (ra_1_2 hM) rfl ?_
  refine iq_iload_n hS 24 J_HTape_keepForm_d23 (lk_1i l1 (by decide)) rfl ?_
  refine iq_sipush hS 27 J_HTape_keepForm_d24 (v := 400) (by decide +kernel) rfl ?_
  refine iq_imul hS 28 J_HTape_keepForm_d27 rfl ?_
  refine iq_iload_n hS 29 J_HTape_keepForm_d28 lk_1s rfl ?_
  obtain ⟨g29, h⟩ := ed_gd h
  refine iq_cpy hS 32 J_HTape_keepForm_d29 (ga_of (by decide +kernel)) (ka_3 hM) (ka_2 hM) (by decide) (kl_2 hM) (kl_3 hM) g29 (Nat.le_of_ble_eq_true rfl) rfl ?_
  refine iq_aload_n hS 33 J_HTape_keepForm_d32 (lk_1r l0 (by decide)) rfl ?_
  refine iq_getR hS 36 J_HTape_keepForm_d33 lf_10_18 (Or.inr ⟨_, rfl⟩) (ka_1 hM) (ra_1_3 hM) rfl ?_
  refine iq_iload_n hS 37 J_HTape_keepForm_d36 (lk_1i l1 (by decide)) rfl ?_
  refine iq_iload_n hS 38 J_HTape_keepForm_d37 lk_1s rfl ?_
  obtain ⟨g38, h⟩ := ed_gd h
  refine iq_iastore hS 39 J_HTape_keepForm_d38 ⟨(ka_4 hM).1, (ka_4 hM).2, g38.1, ix_lt (kl_4 hM) g38.2⟩ rfl ?_
  refine iq_aload_n hS 40 J_HTape_keepForm_d39 (lk_1r l0 (by decide)) rfl ?_
  refine iq_getR hS 43 J_HTape_keepForm_d40 lf_10_31 (Or.inr ⟨_, rfl⟩) (ka_1 hM) (ra_1_8 hM) rfl ?_
  refine iq_iconst hS 44 J_HTape_keepForm_d43 (v := 0) (by decide +kernel) rfl ?_
  refine iq_iload_n hS 45 J_HTape_keepForm_d44 (lk_1i l2 (by decide)) rfl ?_
  refine iq_iconst hS 46 J_HTape_keepForm_d45 (v := 2) (by decide +kernel) rfl ?_
  refine iq_iadd hS 47 J_HTape_keepForm_d46 rfl ?_
  obtain ⟨g47, h⟩ := ed_gd h
  refine iq_iastore hS 48 J_HTape_keepForm_d47 ⟨(ka_8 hM).1, (ka_8 hM).2, g47.1, ix_lt (kl_8 hM) g47.2⟩ rfl ?_
  exact iq_ret J_HTape_keepForm_d48 rfl ⟨rfl, hM, ed_some h⟩
noncomputable def f_HField_clear (M : im_M) : Option (im_M) := some (im_setI (im_setI (im_setI (im_setI (im_setI (im_setI (im_setI M 23 0 0) 23 1 0) 23 2 (-1)) 23 4 0) 23 5 0) 23 6 0) 23 8 0)
theorem J_HField_clear_d0 : decode J_HField_clear.2.1 0 = .ok (.aload_n 0, 1) := by decide +kernel
theorem J_HField_clear_d1 : decode J_HField_clear.2.1 1 = .ok (.iconst 0, 1) := by decide +kernel
theorem J_HField_clear_d2 : decode J_HField_clear.2.1 2 = .ok (.putfield 27, 3) := by decide +kernel
theorem J_HField_clear_d5 : decode J_HField_clear.2.1 5 = .ok (.aload_n 0, 1) := by decide +kernel
theorem J_HField_clear_d6 : decode J_HField_clear.2.1 6 = .ok (.iconst 0, 1) := by decide +kernel
theorem J_HField_clear_d7 : decode J_HField_clear.2.1 7 = .ok (.putfield 31, 3) := by decide +kernel
theorem J_HField_clear_d10 : decode J_HField_clear.2.1 10 = .ok (.aload_n 0, 1) := by decide +kernel
theorem J_HField_clear_d11 : decode J_HField_clear.2.1 11 = .ok (.iconst (-1), 1) := by decide +kernel
theorem J_HField_clear_d12 : decode J_HField_clear.2.1 12 = .ok (.putfield 34, 3) := by decide +kernel
theorem J_HField_clear_d15 : decode J_HField_clear.2.1 15 = .ok (.aload_n 0, 1) := by decide +kernel
theorem J_HField_clear_d16 : decode J_HField_clear.2.1 16 = .ok (.iconst 0, 1) := by decide +kernel
theorem J_HField_clear_d17 : decode J_HField_clear.2.1 17 = .ok (.putfield 37, 3) := by decide +kernel
theorem J_HField_clear_d20 : decode J_HField_clear.2.1 20 = .ok (.aload_n 0, 1) := by decide +kernel
theorem J_HField_clear_d21 : decode J_HField_clear.2.1 21 = .ok (.iconst 0, 1) := by decide +kernel
theorem J_HField_clear_d22 : decode J_HField_clear.2.1 22 = .ok (.putfield 41, 3) := by decide +kernel
theorem J_HField_clear_d25 : decode J_HField_clear.2.1 25 = .ok (.aload_n 0, 1) := by decide +kernel
theorem J_HField_clear_d26 : decode J_HField_clear.2.1 26 = .ok (.iconst 0, 1) := by decide +kernel
theorem J_HField_clear_d27 : decode J_HField_clear.2.1 27 = .ok (.putfield 44, 3) := by decide +kernel
theorem J_HField_clear_d30 : decode J_HField_clear.2.1 30 = .ok (.aload_n 0, 1) := by decide +kernel
theorem J_HField_clear_d31 : decode J_HField_clear.2.1 31 = .ok (.iconst 0, 1) := by decide +kernel
theorem J_HField_clear_d32 : decode J_HField_clear.2.1 32 = .ok (.putfield 47, 3) := by decide +kernel
theorem J_HField_clear_d35 : decode J_HField_clear.2.1 35 = .ok (.return_, 1) := by decide +kernel
theorem f_HField_clear_ok {L : Nat} {xs : Nat → Int32} {dep : Nat} {w : Bool} {M : im_M} {Q : im_M → Prop} (hM : lw_S w M) (h : ed (f_HField_clear M) Q) : ia (tb_G L xs) dep J_HField_clear (rwV w Q) (0, lv_args 0 [.ref 23], [], M) := by
  have hS : im_St (tb_G L xs) dep J_HField_clear (ia (tb_G L xs) dep J_HField_clear (rwV w Q)) := ia_St
  unfold f_HField_clear at h
  have l0 : im_lk (lv_args 0 [.ref 23]) 0 = some (.ref 23) := rfl
  refine iq_aload_n hS 1 J_HField_clear_d0 l0 rfl ?_
  refine iq_iconst hS 2 J_HField_clear_d1 (v := 0) (by decide +kernel) rfl ?_
  refine iq_putI hS 5 J_HField_clear_d2 lf_2_27 (Or.inl rfl) rfl (ka_23 hM) rfl ?_
  refine iq_aload_n hS 6 J_HField_clear_d5 l0 rfl ?_
  refine iq_iconst hS 7 J_HField_clear_d6 (v := 0) (by decide +kernel) rfl ?_
  refine iq_putI hS 10 J_HField_clear_d7 lf_2_31 (Or.inl rfl) rfl (ka_23 hM) rfl ?_
  refine iq_aload_n hS 11 J_HField_clear_d10 l0 rfl ?_
  refine iq_iconst hS 12 J_HField_clear_d11 (v := (-1)) (by decide +kernel) rfl ?_
  refine iq_putI hS 15 J_HField_clear_d12 lf_2_34 (Or.inl rfl) rfl (ka_23 hM) rfl ?_
  refine iq_aload_n hS 16 J_HField_clear_d15 l0 rfl ?_
  refine iq_iconst hS 17 J_HField_clear_d16 (v := 0) (by decide +kernel) rfl ?_
  refine iq_putZ hS 20 J_HField_clear_d17 lf_2_37 (Or.inl rfl) rfl (ka_23 hM) (Or.inl rfl) rfl ?_
  refine iq_aload_n hS 21 J_HField_clear_d20 l0 rfl ?_
  refine iq_iconst hS 22 J_HField_clear_d21 (v := 0) (by decide +kernel) rfl ?_
  refine iq_putZ hS 25 J_HField_clear_d22 lf_2_41 (Or.inl rfl) rfl (ka_23 hM) (Or.inl rfl) rfl ?_
  refine iq_aload_n hS 26 J_HField_clear_d25 l0 rfl ?_
  refine iq_iconst hS 27 J_HField_clear_d26 (v := 0) (by decide +kernel) rfl ?_
  refine iq_putI hS 30 J_HField_clear_d27 lf_2_44 (Or.inl rfl) rfl (ka_23 hM) rfl ?_
  refine iq_aload_n hS 31 J_HField_clear_d30 l0 rfl ?_
  refine iq_iconst hS 32 J_HField_clear_d31 (v := 0) (by decide +kernel) rfl ?_
  refine iq_putI hS 35 J_HField_clear_d32 lf_2_47 (Or.inl rfl) rfl (ka_23 hM) rfl ?_
  exact iq_ret J_HField_clear_d35 rfl ⟨rfl, hM, ed_some h⟩
noncomputable def f_HSetter_beginLabel (M : im_M) : Option (im_M) := gd (inb 0 4) <| gd (inb 1 4) <| gd (inb 0 2) <| gd (inb 1 2) <| gd (inb 0 4) <| gd (inb 1 4) <| gd (inb 2 4) <| gd (inb 3 4) <| bd1 (f_HField_clear (im_setI (im_setI (im_setI (im_setI (im_setI (im_setI (im_setI (im_setI (im_setI (im_setI (im_setI M 15 8 1) 15 10 (im_i (im_setI M 15 8 1) 9 (Int32.toNatClampNeg 0))) 15 11 (im_i (im_setI (im_setI M 15 8 1) 15 10 (im_i (im_setI M 15 8 1) 9 (Int32.toNatClampNeg 0))) 9 (Int32.toNatClampNeg 1))) 15 12 1) 17 (Int32.toNatClampNeg 0) 0) 17 (Int32.toNatClampNeg 1) 0) 18 (Int32.toNatClampNeg 0) 0) 18 (Int32.toNatClampNeg 1) 1) 18 (Int32.toNatClampNeg 2) 1) 18 (Int32.toNatClampNeg 3) 0) 19 3 0)) fun (M1 : im_M) => some M1
theorem J_HSetter_beginLabel_d0 : decode J_HSetter_beginLabel.2.1 0 = .ok (.aload_n 0, 1) := by decide +kernel
theorem J_HSetter_beginLabel_d1 : decode J_HSetter_beginLabel.2.1 1 = .ok (.iconst 1, 1) := by decide +kernel
theorem J_HSetter_beginLabel_d2 : decode J_HSetter_beginLabel.2.1 2 = .ok (.putfield 62, 3) := by decide +kernel
theorem J_HSetter_beginLabel_d5 : decode J_HSetter_beginLabel.2.1 5 = .ok (.aload_n 0, 1) := by decide +kernel
theorem J_HSetter_beginLabel_d6 : decode J_HSetter_beginLabel.2.1 6 = .ok (.aload_n 0, 1) := by decide +kernel
theorem J_HSetter_beginLabel_d7 : decode J_HSetter_beginLabel.2.1 7 = .ok (.getfield 25, 3) := by decide +kernel
theorem J_HSetter_beginLabel_d10 : decode J_HSetter_beginLabel.2.1 10 = .ok (.getfield 131, 3) := by decide +kernel
theorem J_HSetter_beginLabel_d13 : decode J_HSetter_beginLabel.2.1 13 = .ok (.iconst 0, 1) := by decide +kernel
theorem J_HSetter_beginLabel_d14 : decode J_HSetter_beginLabel.2.1 14 = .ok (.iaload, 1) := by decide +kernel
theorem J_HSetter_beginLabel_d15 : decode J_HSetter_beginLabel.2.1 15 = .ok (.putfield 232, 3) := by decide +kernel
theorem J_HSetter_beginLabel_d18 : decode J_HSetter_beginLabel.2.1 18 = .ok (.aload_n 0, 1) := by decide +kernel
theorem J_HSetter_beginLabel_d19 : decode J_HSetter_beginLabel.2.1 19 = .ok (.aload_n 0, 1) := by decide +kernel
theorem J_HSetter_beginLabel_d20 : decode J_HSetter_beginLabel.2.1 20 = .ok (.getfield 25, 3) := by decide +kernel
theorem J_HSetter_beginLabel_d23 : decode J_HSetter_beginLabel.2.1 23 = .ok (.getfield 131, 3) := by decide +kernel
theorem J_HSetter_beginLabel_d26 : decode J_HSetter_beginLabel.2.1 26 = .ok (.iconst 1, 1) := by decide +kernel
theorem J_HSetter_beginLabel_d27 : decode J_HSetter_beginLabel.2.1 27 = .ok (.iaload, 1) := by decide +kernel
theorem J_HSetter_beginLabel_d28 : decode J_HSetter_beginLabel.2.1 28 = .ok (.putfield 235, 3) := by decide +kernel
theorem J_HSetter_beginLabel_d31 : decode J_HSetter_beginLabel.2.1 31 = .ok (.aload_n 0, 1) := by decide +kernel
theorem J_HSetter_beginLabel_d32 : decode J_HSetter_beginLabel.2.1 32 = .ok (.iconst 1, 1) := by decide +kernel
theorem J_HSetter_beginLabel_d33 : decode J_HSetter_beginLabel.2.1 33 = .ok (.putfield 162, 3) := by decide +kernel
theorem J_HSetter_beginLabel_d36 : decode J_HSetter_beginLabel.2.1 36 = .ok (.aload_n 0, 1) := by decide +kernel
theorem J_HSetter_beginLabel_d37 : decode J_HSetter_beginLabel.2.1 37 = .ok (.getfield 19, 3) := by decide +kernel
theorem J_HSetter_beginLabel_d40 : decode J_HSetter_beginLabel.2.1 40 = .ok (.iconst 0, 1) := by decide +kernel
theorem J_HSetter_beginLabel_d41 : decode J_HSetter_beginLabel.2.1 41 = .ok (.iconst 0, 1) := by decide +kernel
theorem J_HSetter_beginLabel_d42 : decode J_HSetter_beginLabel.2.1 42 = .ok (.iastore, 1) := by decide +kernel
theorem J_HSetter_beginLabel_d43 : decode J_HSetter_beginLabel.2.1 43 = .ok (.aload_n 0, 1) := by decide +kernel
theorem J_HSetter_beginLabel_d44 : decode J_HSetter_beginLabel.2.1 44 = .ok (.getfield 19, 3) := by decide +kernel
theorem J_HSetter_beginLabel_d47 : decode J_HSetter_beginLabel.2.1 47 = .ok (.iconst 1, 1) := by decide +kernel
theorem J_HSetter_beginLabel_d48 : decode J_HSetter_beginLabel.2.1 48 = .ok (.iconst 0, 1) := by decide +kernel
theorem J_HSetter_beginLabel_d49 : decode J_HSetter_beginLabel.2.1 49 = .ok (.iastore, 1) := by decide +kernel
theorem J_HSetter_beginLabel_d50 : decode J_HSetter_beginLabel.2.1 50 = .ok (.aload_n 0, 1) := by decide +kernel
theorem J_HSetter_beginLabel_d51 : decode J_HSetter_beginLabel.2.1 51 = .ok (.getfield 22, 3) := by decide +kernel
theorem J_HSetter_beginLabel_d54 : decode J_HSetter_beginLabel.2.1 54 = .ok (.iconst 0, 1) := by decide +kernel
theorem J_HSetter_beginLabel_d55 : decode J_HSetter_beginLabel.2.1 55 = .ok (.iconst 0, 1) := by decide +kernel
theorem J_HSetter_beginLabel_d56 : decode J_HSetter_beginLabel.2.1 56 = .ok (.iastore, 1) := by decide +kernel
theorem J_HSetter_beginLabel_d57 : decode J_HSetter_beginLabel.2.1 57 = .ok (.aload_n 0, 1) := by decide +kernel
theorem J_HSetter_beginLabel_d58 : decode J_HSetter_beginLabel.2.1 58 = .ok (.getfield 22, 3) := by decide +kernel
theorem J_HSetter_beginLabel_d61 : decode J_HSetter_beginLabel.2.1 61 = .ok (.iconst 1, 1) := by decide +kernel
theorem J_HSetter_beginLabel_d62 : decode J_HSetter_beginLabel.2.1 62 = .ok (.iconst 1, 1) := by decide +kernel
theorem J_HSetter_beginLabel_d63 : decode J_HSetter_beginLabel.2.1 63 = .ok (.iastore, 1) := by decide +kernel
theorem J_HSetter_beginLabel_d64 : decode J_HSetter_beginLabel.2.1 64 = .ok (.aload_n 0, 1) := by decide +kernel
theorem J_HSetter_beginLabel_d65 : decode J_HSetter_beginLabel.2.1 65 = .ok (.getfield 22, 3) := by decide +kernel
theorem J_HSetter_beginLabel_d68 : decode J_HSetter_beginLabel.2.1 68 = .ok (.iconst 2, 1) := by decide +kernel
theorem J_HSetter_beginLabel_d69 : decode J_HSetter_beginLabel.2.1 69 = .ok (.iconst 1, 1) := by decide +kernel
theorem J_HSetter_beginLabel_d70 : decode J_HSetter_beginLabel.2.1 70 = .ok (.iastore, 1) := by decide +kernel
theorem J_HSetter_beginLabel_d71 : decode J_HSetter_beginLabel.2.1 71 = .ok (.aload_n 0, 1) := by decide +kernel
theorem J_HSetter_beginLabel_d72 : decode J_HSetter_beginLabel.2.1 72 = .ok (.getfield 22, 3) := by decide +kernel
theorem J_HSetter_beginLabel_d75 : decode J_HSetter_beginLabel.2.1 75 = .ok (.iconst 3, 1) := by decide +kernel
theorem J_HSetter_beginLabel_d76 : decode J_HSetter_beginLabel.2.1 76 = .ok (.iconst 0, 1) := by decide +kernel
theorem J_HSetter_beginLabel_d77 : decode J_HSetter_beginLabel.2.1 77 = .ok (.iastore, 1) := by decide +kernel
theorem J_HSetter_beginLabel_d78 : decode J_HSetter_beginLabel.2.1 78 = .ok (.aload_n 0, 1) := by decide +kernel
theorem J_HSetter_beginLabel_d79 : decode J_HSetter_beginLabel.2.1 79 = .ok (.getfield 40, 3) := by decide +kernel
theorem J_HSetter_beginLabel_d82 : decode J_HSetter_beginLabel.2.1 82 = .ok (.iconst 0, 1) := by decide +kernel
theorem J_HSetter_beginLabel_d83 : decode J_HSetter_beginLabel.2.1 83 = .ok (.putfield 54, 3) := by decide +kernel
theorem J_HSetter_beginLabel_d86 : decode J_HSetter_beginLabel.2.1 86 = .ok (.aload_n 0, 1) := by decide +kernel
theorem J_HSetter_beginLabel_d87 : decode J_HSetter_beginLabel.2.1 87 = .ok (.getfield 44, 3) := by decide +kernel
theorem J_HSetter_beginLabel_d90 : decode J_HSetter_beginLabel.2.1 90 = .ok (.invokevirtual 222, 3) := by decide +kernel
theorem J_HSetter_beginLabel_d93 : decode J_HSetter_beginLabel.2.1 93 = .ok (.return_, 1) := by decide +kernel
theorem f_HSetter_beginLabel_ok {L : Nat} {xs : Nat → Int32} {dep : Nat} {w : Bool} {M : im_M} {Q : im_M → Prop} (hM : lw_S w M) (h : ed (f_HSetter_beginLabel M) Q) : ia (tb_G L xs) (dep + 1) J_HSetter_beginLabel (rwV w Q) (0, lv_args 0 [.ref 15], [], M) := by
  have hS : im_St (tb_G L xs) (dep + 1) J_HSetter_beginLabel (ia (tb_G L xs) (dep + 1) J_HSetter_beginLabel (rwV w Q)) := ia_St
  unfold f_HSetter_beginLabel at h
  have l0 : im_lk (lv_args 0 [.ref 15]) 0 = some (.ref 15) := rfl
  refine iq_aload_n hS 1 J_HSetter_beginLabel_d0 l0 rfl ?_
  refine iq_iconst hS 2 J_HSetter_beginLabel_d1 (v := 1) (by decide +kernel) rfl ?_
  refine iq_putZ hS 5 J_HSetter_beginLabel_d2 lf_8_62 (Or.inl rfl) rfl (ka_15 hM) (Or.inr rfl) rfl ?_
  refine iq_aload_n hS 6 J_HSetter_beginLabel_d5 l0 rfl ?_
  refine iq_aload_n hS 7 J_HSetter_beginLabel_d6 l0 rfl ?_
  refine iq_getR hS 10 J_HSetter_beginLabel_d7 lf_8_25 (Or.inl ⟨_, rfl⟩) (ka_15 hM) (ra_15_0 hM) rfl ?_
  refine iq_getR hS 13 J_HSetter_beginLabel_d10 lf_8_131 (Or.inr ⟨_, rfl⟩) (ka_1 hM) (ra_1_9 hM) rfl ?_
  refine iq_iconst hS 14 J_HSetter_beginLabel_d13 (v := 0) (by decide +kernel) rfl ?_
  obtain ⟨g14, h⟩ := ed_gd h
  refine iq_iaload hS 15 J_HSetter_beginLabel_d14 ⟨(ka_9 hM).1, (ka_9 hM).2, g14.1, ix_lt (kl_9 hM) g14.2⟩ rfl ?_
  refine iq_putI hS 18 J_HSetter_beginLabel_d15 lf_8_232 (Or.inl rfl) rfl (ka_15 hM) rfl ?_
  refine iq_aload_n hS 19 J_HSetter_beginLabel_d18 l0 rfl ?_
  refine iq_aload_n hS 20 J_HSetter_beginLabel_d19 l0 rfl ?_
  refine iq_getR hS 23 J_HSetter_beginLabel_d20 lf_8_25 (Or.inl ⟨_, rfl⟩) (ka_15 hM) (ra_15_0 hM) rfl ?_
  refine iq_getR hS 26 J_HSetter_beginLabel_d23 lf_8_131 (Or.inr ⟨_, rfl⟩) (ka_1 hM) (ra_1_9 hM) rfl ?_
  refine iq_iconst hS 27 J_HSetter_beginLabel_d26 (v := 1) (by decide +kernel) rfl ?_
  obtain ⟨g27, h⟩ := ed_gd h
  refine iq_iaload hS 28 J_HSetter_beginLabel_d27 ⟨(ka_9 hM).1, (ka_9 hM).2, g27.1, ix_lt (kl_9 hM) g27.2⟩ rfl ?_
  refine iq_putI hS 31 J_HSetter_beginLabel_d28 lf_8_235 (Or.inl rfl) rfl (ka_15 hM) rfl ?_
  refine iq_aload_n hS 32 J_HSetter_beginLabel_d31 l0 rfl ?_
  refine iq_iconst hS 33 J_HSetter_beginLabel_d32 (v := 1) (by decide +kernel) rfl ?_
  refine iq_putI hS 36 J_HSetter_beginLabel_d33 lf_8_162 (Or.inl rfl) rfl (ka_15 hM) rfl ?_
  refine iq_aload_n hS 37 J_HSetter_beginLabel_d36 l0 rfl ?_
  refine iq_getR hS 40 J_HSetter_beginLabel_d37 lf_8_19 (Or.inr ⟨_, rfl⟩) (ka_15 hM) (ra_15_13 hM) rfl ?_
  refine iq_iconst hS 41 J_HSetter_beginLabel_d40 (v := 0) (by decide +kernel) rfl ?_
  refine iq_iconst hS 42 J_HSetter_beginLabel_d41 (v := 0) (by decide +kernel) rfl ?_
  obtain ⟨g42, h⟩ := ed_gd h
  refine iq_iastore hS 43 J_HSetter_beginLabel_d42 ⟨(ka_17 hM).1, (ka_17 hM).2, g42.1, ix_lt (kl_17 hM) g42.2⟩ rfl ?_
  refine iq_aload_n hS 44 J_HSetter_beginLabel_d43 l0 rfl ?_
  refine iq_getR hS 47 J_HSetter_beginLabel_d44 lf_8_19 (Or.inr ⟨_, rfl⟩) (ka_15 hM) (ra_15_13 hM) rfl ?_
  refine iq_iconst hS 48 J_HSetter_beginLabel_d47 (v := 1) (by decide +kernel) rfl ?_
  refine iq_iconst hS 49 J_HSetter_beginLabel_d48 (v := 0) (by decide +kernel) rfl ?_
  obtain ⟨g49, h⟩ := ed_gd h
  refine iq_iastore hS 50 J_HSetter_beginLabel_d49 ⟨(ka_17 hM).1, (ka_17 hM).2, g49.1, ix_lt (kl_17 hM) g49.2⟩ rfl ?_
  refine iq_aload_n hS 51 J_HSetter_beginLabel_d50 l0 rfl ?_
  refine iq_getR hS 54 J_HSetter_beginLabel_d51 lf_8_22 (Or.inr ⟨_, rfl⟩) (ka_15 hM) (ra_15_14 hM) rfl ?_
  refine iq_iconst hS 55 J_HSetter_beginLabel_d54 (v := 0) (by decide +kernel) rfl ?_
  refine iq_iconst hS 56 J_HSetter_beginLabel_d55 (v := 0) (by decide +kernel) rfl ?_
  obtain ⟨g56, h⟩ := ed_gd h
  refine iq_iastore hS 57 J_HSetter_beginLabel_d56 ⟨(ka_18 hM).1, (ka_18 hM).2, g56.1, ix_lt (kl_18 hM) g56.2⟩ rfl ?_
  refine iq_aload_n hS 58 J_HSetter_beginLabel_d57 l0 rfl ?_
  refine iq_getR hS 61 J_HSetter_beginLabel_d58 lf_8_22 (Or.inr ⟨_, rfl⟩) (ka_15 hM) (ra_15_14 hM) rfl ?_
  refine iq_iconst hS 62 J_HSetter_beginLabel_d61 (v := 1) (by decide +kernel) rfl ?_
  refine iq_iconst hS 63 J_HSetter_beginLabel_d62 (v := 1) (by decide +kernel) rfl ?_
  obtain ⟨g63, h⟩ := ed_gd h
  refine iq_iastore hS 64 J_HSetter_beginLabel_d63 ⟨(ka_18 hM).1, (ka_18 hM).2, g63.1, ix_lt (kl_18 hM) g63.2⟩ rfl ?_
  refine iq_aload_n hS 65 J_HSetter_beginLabel_d64 l0 rfl ?_
  refine iq_getR hS 68 J_HSetter_beginLabel_d65 lf_8_22 (Or.inr ⟨_, rfl⟩) (ka_15 hM) (ra_15_14 hM) rfl ?_
  refine iq_iconst hS 69 J_HSetter_beginLabel_d68 (v := 2) (by decide +kernel) rfl ?_
  refine iq_iconst hS 70 J_HSetter_beginLabel_d69 (v := 1) (by decide +kernel) rfl ?_
  obtain ⟨g70, h⟩ := ed_gd h
  refine iq_iastore hS 71 J_HSetter_beginLabel_d70 ⟨(ka_18 hM).1, (ka_18 hM).2, g70.1, ix_lt (kl_18 hM) g70.2⟩ rfl ?_
  refine iq_aload_n hS 72 J_HSetter_beginLabel_d71 l0 rfl ?_
  refine iq_getR hS 75 J_HSetter_beginLabel_d72 lf_8_22 (Or.inr ⟨_, rfl⟩) (ka_15 hM) (ra_15_14 hM) rfl ?_
  refine iq_iconst hS 76 J_HSetter_beginLabel_d75 (v := 3) (by decide +kernel) rfl ?_
  refine iq_iconst hS 77 J_HSetter_beginLabel_d76 (v := 0) (by decide +kernel) rfl ?_
  obtain ⟨g77, h⟩ := ed_gd h
  refine iq_iastore hS 78 J_HSetter_beginLabel_d77 ⟨(ka_18 hM).1, (ka_18 hM).2, g77.1, ix_lt (kl_18 hM) g77.2⟩ rfl ?_
  refine iq_aload_n hS 79 J_HSetter_beginLabel_d78 l0 rfl ?_
  refine iq_getR hS 82 J_HSetter_beginLabel_d79 lf_8_40 (Or.inl ⟨_, rfl⟩) (ka_15 hM) (ra_15_2 hM) rfl ?_
  refine iq_iconst hS 83 J_HSetter_beginLabel_d82 (v := 0) (by decide +kernel) rfl ?_
  refine iq_putI hS 86 J_HSetter_beginLabel_d83 lf_8_54 (Or.inl rfl) rfl (ka_19 hM) rfl ?_
  refine iq_aload_n hS 87 J_HSetter_beginLabel_d86 l0 rfl ?_
  refine iq_getR hS 90 J_HSetter_beginLabel_d87 lf_8_44 (Or.inl ⟨_, rfl⟩) (ka_15 hM) (ra_15_3 hM) rfl ?_
  obtain ⟨Q1, hQ1, h⟩ := bd1_ed h
  refine iq_cwV hS 93 J_HSetter_beginLabel_d90 rfl (pr_inst (vs := []) lc_8_222 lT_73 rfl rfl (by decide) (by decide) rfl (Nat.le_of_ble_eq_true rfl) (Nat.le_of_ble_eq_true rfl) (fun _ => Or.inl (pr_b (ka_23 hM) (by decide) rfl))) (f_HField_clear_ok (dep := dep + 0) hM h) rfl ?_
  intro M1 hM1 h
  replace h := hQ1 _ h
  exact iq_ret J_HSetter_beginLabel_d93 rfl ⟨rfl, hM1, ed_some h⟩
noncomputable def f_HTape_keepVariable (p0 : Int32) (M : im_M) : Option (im_M) := gd (cpy 0 200 (p0 * 200) 2000 (im_i M 1 11)) <| gd (inb p0 10) <| some (im_setI (im_setA M 5 (va_cpy (im_i M 10) (im_i M 5) (Int32.toNatClampNeg 0) (Int32.toNatClampNeg (p0 * 200)) (Int32.toNatClampNeg (im_i M 1 11)))) 6 (Int32.toNatClampNeg p0) (im_i (im_setA M 5 (va_cpy (im_i M 10) (im_i M 5) (Int32.toNatClampNeg 0) (Int32.toNatClampNeg (p0 * 200)) (Int32.toNatClampNeg (im_i M 1 11)))) 1 11))
theorem J_HTape_keepVariable_d0 : decode J_HTape_keepVariable.2.1 0 = .ok (.aload_n 0, 1) := by decide +kernel
theorem J_HTape_keepVariable_d1 : decode J_HTape_keepVariable.2.1 1 = .ok (.getfield 37, 3) := by decide +kernel
theorem J_HTape_keepVariable_d4 : decode J_HTape_keepVariable.2.1 4 = .ok (.iconst 0, 1) := by decide +kernel
theorem J_HTape_keepVariable_d5 : decode J_HTape_keepVariable.2.1 5 = .ok (.aload_n 0, 1) := by decide +kernel
theorem J_HTape_keepVariable_d6 : decode J_HTape_keepVariable.2.1 6 = .ok (.getfield 22, 3) := by decide +kernel
theorem J_HTape_keepVariable_d9 : decode J_HTape_keepVariable.2.1 9 = .ok (.iload_n 1, 1) := by decide +kernel
theorem J_HTape_keepVariable_d10 : decode J_HTape_keepVariable.2.1 10 = .ok (.sipush 200, 3) := by decide +kernel
theorem J_HTape_keepVariable_d13 : decode J_HTape_keepVariable.2.1 13 = .ok (.imul, 1) := by decide +kernel
theorem J_HTape_keepVariable_d14 : decode J_HTape_keepVariable.2.1 14 = .ok (.aload_n 0, 1) := by decide +kernel
theorem J_HTape_keepVariable_d15 : decode J_HTape_keepVariable.2.1 15 = .ok (.getfield 61, 3) := by decide +kernel
theorem J_HTape_keepVariable_d18 : decode J_HTape_keepVariable.2.1 18 = .ok (.invokestatic 71, 3) := by decide +kernel
theorem J_HTape_keepVariable_d21 : decode J_HTape_keepVariable.2.1 21 = .ok (.aload_n 0, 1) := by decide +kernel
theorem J_HTape_keepVariable_d22 : decode J_HTape_keepVariable.2.1 22 = .ok (.getfield 25, 3) := by decide +kernel
theorem J_HTape_keepVariable_d25 : decode J_HTape_keepVariable.2.1 25 = .ok (.iload_n 1, 1) := by decide +kernel
theorem J_HTape_keepVariable_d26 : decode J_HTape_keepVariable.2.1 26 = .ok (.aload_n 0, 1) := by decide +kernel
theorem J_HTape_keepVariable_d27 : decode J_HTape_keepVariable.2.1 27 = .ok (.getfield 61, 3) := by decide +kernel
theorem J_HTape_keepVariable_d30 : decode J_HTape_keepVariable.2.1 30 = .ok (.iastore, 1) := by decide +kernel
theorem J_HTape_keepVariable_d31 : decode J_HTape_keepVariable.2.1 31 = .ok (.return_, 1) := by decide +kernel
theorem f_HTape_keepVariable_ok {L : Nat} {xs : Nat → Int32} {dep : Nat} {w : Bool} {p0 : Int32} {M : im_M} {Q : im_M → Prop} (hM : lw_S w M) (h : ed (f_HTape_keepVariable p0 M) Q) : ia (tb_G L xs) dep J_HTape_keepVariable (rwV w Q) (0, lv_args 0 [.ref 1, .int p0], [], M) := by
  have hS : im_St (tb_G L xs) dep J_HTape_keepVariable (ia (tb_G L xs) dep J_HTape_keepVariable (rwV w Q)) := ia_St
  unfold f_HTape_keepVariable at h
  have l0 : im_lk (lv_args 0 [.ref 1, .int p0]) 0 = some (.ref 1) := rfl
  have l1 : im_lk (lv_args 0 [.ref 1, .int p0]) 1 = some (.int p0) := rfl
  refine iq_aload_n hS 1 J_HTape_keepVariable_d0 l0 rfl ?_
  refine iq_getR hS 4 J_HTape_keepVariable_d1 lf_10_37 (Or.inr ⟨_, rfl⟩) (ka_1 hM) (ra_1_10 hM) rfl ?_
  refine iq_iconst hS 5 J_HTape_keepVariable_d4 (v := 0) (by decide +kernel) rfl ?_
  refine iq_aload_n hS 6 J_HTape_keepVariable_d5 l0 rfl ?_
  refine iq_getR hS 9 J_HTape_keepVariable_d6 lf_10_22 (Or.inr ⟨_, rfl⟩) (ka_1 hM) (ra_1_4 hM) rfl ?_
  refine iq_iload_n hS 10 J_HTape_keepVariable_d9 l1 rfl ?_
  refine iq_sipush hS 13 J_HTape_keepVariable_d10 (v := 200) (by decide +kernel) rfl ?_
  refine iq_imul hS 14 J_HTape_keepVariable_d13 rfl ?_
  refine iq_aload_n hS 15 J_HTape_keepVariable_d14 l0 rfl ?_
  refine iq_getI hS 18 J_HTape_keepVariable_d15 lf_10_61 (Or.inl rfl) (ka_1 hM) rfl ?_
  obtain ⟨g18, h⟩ := ed_gd h
  refine iq_cpy hS 21 J_HTape_keepVariable_d18 (ga_of (by decide +kernel)) (ka_5 hM) (ka_10 hM) (by decide) (kl_10 hM) (kl_5 hM) g18 (Nat.le_of_ble_eq_true rfl) rfl ?_
  refine iq_aload_n hS 22 J_HTape_keepVariable_d21 l0 rfl ?_
  refine iq_getR hS 25 J_HTape_keepVariable_d22 lf_10_25 (Or.inr ⟨_, rfl⟩) (ka_1 hM) (ra_1_5 hM) rfl ?_
  refine iq_iload_n hS 26 J_HTape_keepVariable_d25 l1 rfl ?_
  refine iq_aload_n hS 27 J_HTape_keepVariable_d26 l0 rfl ?_
  refine iq_getI hS 30 J_HTape_keepVariable_d27 lf_10_61 (Or.inl rfl) (ka_1 hM) rfl ?_
  obtain ⟨g30, h⟩ := ed_gd h
  refine iq_iastore hS 31 J_HTape_keepVariable_d30 ⟨(ka_6 hM).1, (ka_6 hM).2, g30.1, ix_lt (kl_6 hM) g30.2⟩ rfl ?_
  exact iq_ret J_HTape_keepVariable_d31 rfl ⟨rfl, hM, ed_some h⟩
noncomputable def f_HOrders_value (p0 : Int32) (p1 : Int32) (M : im_M) : Option (Int32) := gd (inb ((p0 * 14) + p1) 1960) <| some (im_i M 21 (Int32.toNatClampNeg ((p0 * 14) + p1)))
theorem f_HOrders_value_ok {L : Nat} {xs : Nat → Int32} {dep : Nat} {w : Bool} {p0 : Int32} {p1 : Int32} {M : im_M} {Q : Int32 → Prop} (hM : lw_S w M) (h : ed (f_HOrders_value p0 p1 M) Q) : ia (tb_G L xs) dep J_HOrders_value (rpI M Q) (0, lv_args 0 [.ref 19, .int p0, .int p1], [], M) := by
  have hS : im_St (tb_G L xs) dep J_HOrders_value (ia (tb_G L xs) dep J_HOrders_value (rpI M Q)) := ia_St
  unfold f_HOrders_value at h
  have l0 : im_lk (lv_args 0 [.ref 19, .int p0, .int p1]) 0 = some (.ref 19) := rfl
  have l1 : im_lk (lv_args 0 [.ref 19, .int p0, .int p1]) 1 = some (.int p0) := rfl
  have l2 : im_lk (lv_args 0 [.ref 19, .int p0, .int p1]) 2 = some (.int p1) := rfl
  refine iq_aload_n hS 1 J_HOrders_value_d0 l0 rfl ?_
  refine iq_getR hS 4 J_HOrders_value_d1 lf_5_13 (Or.inr ⟨_, rfl⟩) (ka_19 hM) (ra_19_0 hM) rfl ?_
  refine iq_iload_n hS 5 J_HOrders_value_d4 l1 rfl ?_
  refine iq_bipush hS 7 J_HOrders_value_d5 (v := 14) (by decide +kernel) rfl ?_
  refine iq_imul hS 8 J_HOrders_value_d7 rfl ?_
  refine iq_iload_n hS 9 J_HOrders_value_d8 l2 rfl ?_
  refine iq_iadd hS 10 J_HOrders_value_d9 rfl ?_
  obtain ⟨g10, h⟩ := ed_gd h
  refine iq_iaload hS 11 J_HOrders_value_d10 ⟨(ka_21 hM).1, (ka_21 hM).2, g10.1, ix_lt (kl_21 hM) g10.2⟩ rfl ?_
  exact iq_iret J_HOrders_value_d11 rfl rfl ⟨_, rfl, rfl, ed_some h⟩
noncomputable def f_Math_floorMod (p0 : Int64) (p1 : Int64) (M : im_M) : Option (Int64) := gd (¬ p1 = (0 : Int64)) <| if 0 ≤ (lg_cmp (p0 ^^^ p1) 0) then some (p0 - p0 / p1 * p1) else if (lg_cmp (p0 - p0 / p1 * p1) 0) = 0 then some (p0 - p0 / p1 * p1) else some ((p0 - p0 / p1 * p1) + p1)
theorem J_Math_floorMod_d0 : decode J_Math_floorMod.2.1 0 = .ok (.lload_n 0, 1) := by decide +kernel
theorem J_Math_floorMod_d1 : decode J_Math_floorMod.2.1 1 = .ok (.lload_n 2, 1) := by decide +kernel
theorem J_Math_floorMod_d2 : decode J_Math_floorMod.2.1 2 = .ok (.lrem, 1) := by decide +kernel
theorem J_Math_floorMod_d3 : decode J_Math_floorMod.2.1 3 = .ok (.lstore 4, 2) := by decide +kernel
theorem J_Math_floorMod_d5 : decode J_Math_floorMod.2.1 5 = .ok (.lload_n 0, 1) := by decide +kernel
theorem J_Math_floorMod_d6 : decode J_Math_floorMod.2.1 6 = .ok (.lload_n 2, 1) := by decide +kernel
theorem J_Math_floorMod_d7 : decode J_Math_floorMod.2.1 7 = .ok (.lxor, 1) := by decide +kernel
theorem J_Math_floorMod_d8 : decode J_Math_floorMod.2.1 8 = .ok (.lconst 0, 1) := by decide +kernel
theorem J_Math_floorMod_d9 : decode J_Math_floorMod.2.1 9 = .ok (.lcmp, 1) := by decide +kernel
theorem J_Math_floorMod_d10 : decode J_Math_floorMod.2.1 10 = .ok (.ifCond .ge 15, 3) := by decide +kernel
theorem J_Math_floorMod_d13 : decode J_Math_floorMod.2.1 13 = .ok (.lload 4, 2) := by decide +kernel
theorem J_Math_floorMod_d15 : decode J_Math_floorMod.2.1 15 = .ok (.lconst 0, 1) := by decide +kernel
theorem J_Math_floorMod_d16 : decode J_Math_floorMod.2.1 16 = .ok (.lcmp, 1) := by decide +kernel
theorem J_Math_floorMod_d17 : decode J_Math_floorMod.2.1 17 = .ok (.ifCond .eq 8, 3) := by decide +kernel
theorem J_Math_floorMod_d20 : decode J_Math_floorMod.2.1 20 = .ok (.lload 4, 2) := by decide +kernel
theorem J_Math_floorMod_d22 : decode J_Math_floorMod.2.1 22 = .ok (.lload_n 2, 1) := by decide +kernel
theorem J_Math_floorMod_d23 : decode J_Math_floorMod.2.1 23 = .ok (.ladd, 1) := by decide +kernel
theorem J_Math_floorMod_d24 : decode J_Math_floorMod.2.1 24 = .ok (.lreturn, 1) := by decide +kernel
theorem J_Math_floorMod_d25 : decode J_Math_floorMod.2.1 25 = .ok (.lload 4, 2) := by decide +kernel
theorem J_Math_floorMod_d27 : decode J_Math_floorMod.2.1 27 = .ok (.lreturn, 1) := by decide +kernel
theorem f_Math_floorMod_ok {L : Nat} {xs : Nat → Int32} {dep : Nat} {w : Bool} {p0 : Int64} {p1 : Int64} {M : im_M} {Q : Int64 → Prop} (hM : lw_S w M) (h : ed (f_Math_floorMod p0 p1 M) Q) : ia (tb_G L xs) dep J_Math_floorMod (rpL M Q) (0, lv_args 0 [.long p0, .long p1], [], M) := by
  have hS : im_St (tb_G L xs) dep J_Math_floorMod (ia (tb_G L xs) dep J_Math_floorMod (rpL M Q)) := ia_St
  unfold f_Math_floorMod at h
  have l0 : im_lk (lv_args 0 [.long p0, .long p1]) 0 = some (.long p0) := rfl
  have l2 : im_lk (lv_args 0 [.long p0, .long p1]) 2 = some (.long p1) := rfl
  refine iq_lload_n hS 1 J_Math_floorMod_d0 l0 rfl ?_
  refine iq_lload_n hS 2 J_Math_floorMod_d1 l2 rfl ?_
  obtain ⟨g2, h⟩ := ed_gd h
  refine iq_lrem hS 3 J_Math_floorMod_d2 g2 rfl ?_
  refine iq_lstore hS 5 J_Math_floorMod_d3 (by decide) rfl ?_
  refine iq_lload_n hS 6 J_Math_floorMod_d5 (lk_2l l0 (by decide) (by decide) (by decide)) rfl ?_
  refine iq_lload_n hS 7 J_Math_floorMod_d6 (lk_2l l2 (by decide) (by decide) (by decide)) rfl ?_
  refine iq_lxor hS 8 J_Math_floorMod_d7 rfl ?_
  refine iq_lconst hS 9 J_Math_floorMod_d8 (v := 0) (by decide +kernel) rfl ?_
  refine iq_lcmp hS 10 J_Math_floorMod_d9 rfl ?_
  refine iq_if_ge hS 13 J_Math_floorMod_d10 (t := 25) rfl (fun q10 => ?_) rfl (fun q10 => ?_)
  · replace h := ed_pos q10 h
    refine iq_lload hS 27 J_Math_floorMod_d25 lk_2s rfl ?_
    exact iq_lret J_Math_floorMod_d27 rfl ⟨_, rfl, rfl, ed_some h⟩
  · replace h := ed_neg q10 h
    refine iq_lload hS 15 J_Math_floorMod_d13 lk_2s rfl ?_
    refine iq_lconst hS 16 J_Math_floorMod_d15 (v := 0) (by decide +kernel) rfl ?_
    refine iq_lcmp hS 17 J_Math_floorMod_d16 rfl ?_
    refine iq_if_eq hS 20 J_Math_floorMod_d17 (t := 25) rfl (fun q17 => ?_) rfl (fun q17 => ?_)
    · replace h := ed_pos q17 h
      refine iq_lload hS 27 J_Math_floorMod_d25 lk_2s rfl ?_
      exact iq_lret J_Math_floorMod_d27 rfl ⟨_, rfl, rfl, ed_some h⟩
    · replace h := ed_neg q17 h
      refine iq_lload hS 22 J_Math_floorMod_d20 lk_2s rfl ?_
      refine iq_lload_n hS 23 J_Math_floorMod_d22 (lk_2l l2 (by decide) (by decide) (by decide)) rfl ?_
      refine iq_ladd hS 24 J_Math_floorMod_d23 rfl ?_
      exact iq_lret J_Math_floorMod_d24 rfl ⟨_, rfl, rfl, ed_some h⟩
noncomputable def f_HOrders_countOn_L9 (v2 : Int32) (v3 : Int64) (M7 : im_M) (x4 : Int32) (x5 : Int64) (x6 : Int64) : Option ((Int32 × Int64 × Int64) ⊕ (Int32 × Int64 × Int64)) := if x4 ≤ 0 then some (.inr (x4, x5, x6)) else if 9 ≤ (v2 - x4) then some (.inr (x4, x5, x6)) else gd (inb (x4 - 1) 200) <| if (im_i M7 12 (Int32.toNatClampNeg (x4 - 1))) < 48 then some (.inr (x4, x5, x6)) else gd (inb (x4 - 1) 200) <| if 57 < (im_i M7 12 (Int32.toNatClampNeg (x4 - 1))) then some (.inr (x4, x5, x6)) else gd (inb (x4 + (-1)) 200) <| some (.inl ((x4 + (-1)), (x5 + (x6 * (Int32.toInt64 ((im_i M7 12 (Int32.toNatClampNeg (x4 + (-1)))) - 48)))), (x6 * 10)))
noncomputable def f_HOrders_countOn_L100 (v13 : Int32) (x14 : Int64) (x15 : Int32) (M16 : im_M) : Option ((Int64 × Int32 × im_M) ⊕ (im_M)) := if x15 < v13 then some (.inr M16) else gd (inb x15 200) <| some (.inl ((x14 / 10), (x15 + (-1)), (im_setI M16 12 (Int32.toNatClampNeg x15) (vp_nar .byte ((Int32.toInt8 (Int64.toInt32 ((48 : Int64) + (x14 - x14 / 10 * 10)))).toInt32)))))
noncomputable def f_HOrders_countOn (p0 : Int32) (p1 : Int64) (M : im_M) : Option (im_M) := bd3 (lp (uc3 (f_HOrders_countOn_L9 p0 p1 M)) (p0, 0, 1)) fun (y8 : Int32) (y9 : Int64) (y10 : Int64) => bd1 (f_Math_floorMod (y9 + p1) y10 M) fun (x11 : Int64) => bd1 (lp (uc3 (f_HOrders_countOn_L100 y8)) (x11, (p0 - 1), M)) fun (M17 : im_M) => some M17
theorem J_HOrders_countOn_d0 : decode J_HOrders_countOn.2.1 0 = .ok (.iload_n 1, 1) := by decide +kernel
theorem J_HOrders_countOn_d1 : decode J_HOrders_countOn.2.1 1 = .ok (.istore 4, 2) := by decide +kernel
theorem J_HOrders_countOn_d3 : decode J_HOrders_countOn.2.1 3 = .ok (.lconst 0, 1) := by decide +kernel
theorem J_HOrders_countOn_d4 : decode J_HOrders_countOn.2.1 4 = .ok (.lstore 5, 2) := by decide +kernel
theorem J_HOrders_countOn_d6 : decode J_HOrders_countOn.2.1 6 = .ok (.lconst 1, 1) := by decide +kernel
theorem J_HOrders_countOn_d7 : decode J_HOrders_countOn.2.1 7 = .ok (.lstore 7, 2) := by decide +kernel
theorem J_HOrders_countOn_d9 : decode J_HOrders_countOn.2.1 9 = .ok (.iload 4, 2) := by decide +kernel
theorem J_HOrders_countOn_d11 : decode J_HOrders_countOn.2.1 11 = .ok (.ifCond .le 73, 3) := by decide +kernel
theorem J_HOrders_countOn_d14 : decode J_HOrders_countOn.2.1 14 = .ok (.iload_n 1, 1) := by decide +kernel
theorem J_HOrders_countOn_d15 : decode J_HOrders_countOn.2.1 15 = .ok (.iload 4, 2) := by decide +kernel
theorem J_HOrders_countOn_d17 : decode J_HOrders_countOn.2.1 17 = .ok (.isub, 1) := by decide +kernel
theorem J_HOrders_countOn_d18 : decode J_HOrders_countOn.2.1 18 = .ok (.bipush 9, 2) := by decide +kernel
theorem J_HOrders_countOn_d20 : decode J_HOrders_countOn.2.1 20 = .ok (.if_icmp .ge 64, 3) := by decide +kernel
theorem J_HOrders_countOn_d23 : decode J_HOrders_countOn.2.1 23 = .ok (.aload_n 0, 1) := by decide +kernel
theorem J_HOrders_countOn_d24 : decode J_HOrders_countOn.2.1 24 = .ok (.getfield 9, 3) := by decide +kernel
theorem J_HOrders_countOn_d27 : decode J_HOrders_countOn.2.1 27 = .ok (.iload 4, 2) := by decide +kernel
theorem J_HOrders_countOn_d29 : decode J_HOrders_countOn.2.1 29 = .ok (.iconst 1, 1) := by decide +kernel
theorem J_HOrders_countOn_d30 : decode J_HOrders_countOn.2.1 30 = .ok (.isub, 1) := by decide +kernel
theorem J_HOrders_countOn_d31 : decode J_HOrders_countOn.2.1 31 = .ok (.baload, 1) := by decide +kernel
theorem J_HOrders_countOn_d32 : decode J_HOrders_countOn.2.1 32 = .ok (.bipush 48, 2) := by decide +kernel
theorem J_HOrders_countOn_d34 : decode J_HOrders_countOn.2.1 34 = .ok (.if_icmp .lt 50, 3) := by decide +kernel
theorem J_HOrders_countOn_d37 : decode J_HOrders_countOn.2.1 37 = .ok (.aload_n 0, 1) := by decide +kernel
theorem J_HOrders_countOn_d38 : decode J_HOrders_countOn.2.1 38 = .ok (.getfield 9, 3) := by decide +kernel
theorem J_HOrders_countOn_d41 : decode J_HOrders_countOn.2.1 41 = .ok (.iload 4, 2) := by decide +kernel
theorem J_HOrders_countOn_d43 : decode J_HOrders_countOn.2.1 43 = .ok (.iconst 1, 1) := by decide +kernel
theorem J_HOrders_countOn_d44 : decode J_HOrders_countOn.2.1 44 = .ok (.isub, 1) := by decide +kernel
theorem J_HOrders_countOn_d45 : decode J_HOrders_countOn.2.1 45 = .ok (.baload, 1) := by decide +kernel
theorem J_HOrders_countOn_d46 : decode J_HOrders_countOn.2.1 46 = .ok (.bipush 57, 2) := by decide +kernel
theorem J_HOrders_countOn_d48 : decode J_HOrders_countOn.2.1 48 = .ok (.if_icmp .gt 36, 3) := by decide +kernel
theorem J_HOrders_countOn_d51 : decode J_HOrders_countOn.2.1 51 = .ok (.iinc 4 (-1), 3) := by decide +kernel
theorem J_HOrders_countOn_d54 : decode J_HOrders_countOn.2.1 54 = .ok (.lload 5, 2) := by decide +kernel
theorem J_HOrders_countOn_d56 : decode J_HOrders_countOn.2.1 56 = .ok (.lload 7, 2) := by decide +kernel
theorem J_HOrders_countOn_d58 : decode J_HOrders_countOn.2.1 58 = .ok (.aload_n 0, 1) := by decide +kernel
theorem J_HOrders_countOn_d59 : decode J_HOrders_countOn.2.1 59 = .ok (.getfield 9, 3) := by decide +kernel
theorem J_HOrders_countOn_d62 : decode J_HOrders_countOn.2.1 62 = .ok (.iload 4, 2) := by decide +kernel
theorem J_HOrders_countOn_d64 : decode J_HOrders_countOn.2.1 64 = .ok (.baload, 1) := by decide +kernel
theorem J_HOrders_countOn_d65 : decode J_HOrders_countOn.2.1 65 = .ok (.bipush 48, 2) := by decide +kernel
theorem J_HOrders_countOn_d67 : decode J_HOrders_countOn.2.1 67 = .ok (.isub, 1) := by decide +kernel
theorem J_HOrders_countOn_d68 : decode J_HOrders_countOn.2.1 68 = .ok (.i2l, 1) := by decide +kernel
theorem J_HOrders_countOn_d69 : decode J_HOrders_countOn.2.1 69 = .ok (.lmul, 1) := by decide +kernel
theorem J_HOrders_countOn_d70 : decode J_HOrders_countOn.2.1 70 = .ok (.ladd, 1) := by decide +kernel
theorem J_HOrders_countOn_d71 : decode J_HOrders_countOn.2.1 71 = .ok (.lstore 5, 2) := by decide +kernel
theorem J_HOrders_countOn_d73 : decode J_HOrders_countOn.2.1 73 = .ok (.lload 7, 2) := by decide +kernel
theorem J_HOrders_countOn_d75 : decode J_HOrders_countOn.2.1 75 = .ok (.ldc2_w 50, 3) := by decide +kernel
theorem J_HOrders_countOn_d78 : decode J_HOrders_countOn.2.1 78 = .ok (.lmul, 1) := by decide +kernel
theorem J_HOrders_countOn_d79 : decode J_HOrders_countOn.2.1 79 = .ok (.lstore 7, 2) := by decide +kernel
theorem J_HOrders_countOn_d81 : decode J_HOrders_countOn.2.1 81 = .ok (.goto (-72), 3) := by decide +kernel
theorem J_HOrders_countOn_d84 : decode J_HOrders_countOn.2.1 84 = .ok (.lload 5, 2) := by decide +kernel
theorem J_HOrders_countOn_d86 : decode J_HOrders_countOn.2.1 86 = .ok (.lload_n 2, 1) := by decide +kernel
theorem J_HOrders_countOn_d87 : decode J_HOrders_countOn.2.1 87 = .ok (.ladd, 1) := by decide +kernel
theorem J_HOrders_countOn_d88 : decode J_HOrders_countOn.2.1 88 = .ok (.lload 7, 2) := by decide +kernel
theorem J_HOrders_countOn_d90 : decode J_HOrders_countOn.2.1 90 = .ok (.invokestatic 52, 3) := by decide +kernel
theorem J_HOrders_countOn_d93 : decode J_HOrders_countOn.2.1 93 = .ok (.lstore 5, 2) := by decide +kernel
theorem J_HOrders_countOn_d95 : decode J_HOrders_countOn.2.1 95 = .ok (.iload_n 1, 1) := by decide +kernel
theorem J_HOrders_countOn_d96 : decode J_HOrders_countOn.2.1 96 = .ok (.iconst 1, 1) := by decide +kernel
theorem J_HOrders_countOn_d97 : decode J_HOrders_countOn.2.1 97 = .ok (.isub, 1) := by decide +kernel
theorem J_HOrders_countOn_d98 : decode J_HOrders_countOn.2.1 98 = .ok (.istore 9, 2) := by decide +kernel
theorem J_HOrders_countOn_d100 : decode J_HOrders_countOn.2.1 100 = .ok (.iload 9, 2) := by decide +kernel
theorem J_HOrders_countOn_d102 : decode J_HOrders_countOn.2.1 102 = .ok (.iload 4, 2) := by decide +kernel
theorem J_HOrders_countOn_d104 : decode J_HOrders_countOn.2.1 104 = .ok (.if_icmp .lt 36, 3) := by decide +kernel
theorem J_HOrders_countOn_d107 : decode J_HOrders_countOn.2.1 107 = .ok (.aload_n 0, 1) := by decide +kernel
theorem J_HOrders_countOn_d108 : decode J_HOrders_countOn.2.1 108 = .ok (.getfield 9, 3) := by decide +kernel
theorem J_HOrders_countOn_d111 : decode J_HOrders_countOn.2.1 111 = .ok (.iload 9, 2) := by decide +kernel
theorem J_HOrders_countOn_d113 : decode J_HOrders_countOn.2.1 113 = .ok (.ldc2_w 58, 3) := by decide +kernel
theorem J_HOrders_countOn_d116 : decode J_HOrders_countOn.2.1 116 = .ok (.lload 5, 2) := by decide +kernel
theorem J_HOrders_countOn_d118 : decode J_HOrders_countOn.2.1 118 = .ok (.ldc2_w 50, 3) := by decide +kernel
theorem J_HOrders_countOn_d121 : decode J_HOrders_countOn.2.1 121 = .ok (.lrem, 1) := by decide +kernel
theorem J_HOrders_countOn_d122 : decode J_HOrders_countOn.2.1 122 = .ok (.ladd, 1) := by decide +kernel
theorem J_HOrders_countOn_d123 : decode J_HOrders_countOn.2.1 123 = .ok (.l2i, 1) := by decide +kernel
theorem J_HOrders_countOn_d124 : decode J_HOrders_countOn.2.1 124 = .ok (.i2b, 1) := by decide +kernel
theorem J_HOrders_countOn_d125 : decode J_HOrders_countOn.2.1 125 = .ok (.bastore, 1) := by decide +kernel
theorem J_HOrders_countOn_d126 : decode J_HOrders_countOn.2.1 126 = .ok (.lload 5, 2) := by decide +kernel
theorem J_HOrders_countOn_d128 : decode J_HOrders_countOn.2.1 128 = .ok (.ldc2_w 50, 3) := by decide +kernel
theorem J_HOrders_countOn_d131 : decode J_HOrders_countOn.2.1 131 = .ok (.ldiv, 1) := by decide +kernel
theorem J_HOrders_countOn_d132 : decode J_HOrders_countOn.2.1 132 = .ok (.lstore 5, 2) := by decide +kernel
theorem J_HOrders_countOn_d134 : decode J_HOrders_countOn.2.1 134 = .ok (.iinc 9 (-1), 3) := by decide +kernel
theorem J_HOrders_countOn_d137 : decode J_HOrders_countOn.2.1 137 = .ok (.goto (-37), 3) := by decide +kernel
theorem J_HOrders_countOn_d140 : decode J_HOrders_countOn.2.1 140 = .ok (.return_, 1) := by decide +kernel
theorem f_HOrders_countOn_ok {L : Nat} {xs : Nat → Int32} {dep : Nat} {w : Bool} {p0 : Int32} {p1 : Int64} {M : im_M} {Q : im_M → Prop} (hM : lw_S w M) (h : ed (f_HOrders_countOn p0 p1 M) Q) : ia (tb_G L xs) (dep + 1) J_HOrders_countOn (rwV w Q) (0, lv_args 0 [.ref 11, .int p0, .long p1], [], M) := by
  have hS : im_St (tb_G L xs) (dep + 1) J_HOrders_countOn (ia (tb_G L xs) (dep + 1) J_HOrders_countOn (rwV w Q)) := ia_St
  unfold f_HOrders_countOn at h
  have l0 : im_lk (lv_args 0 [.ref 11, .int p0, .long p1]) 0 = some (.ref 11) := rfl
  have l1 : im_lk (lv_args 0 [.ref 11, .int p0, .long p1]) 1 = some (.int p0) := rfl
  have l2 : im_lk (lv_args 0 [.ref 11, .int p0, .long p1]) 2 = some (.long p1) := rfl
  refine iq_iload_n hS 1 J_HOrders_countOn_d0 l1 rfl ?_
  refine iq_istore hS 3 J_HOrders_countOn_d1 (by decide) rfl ?_
  refine iq_lconst hS 4 J_HOrders_countOn_d3 (v := 0) (by decide +kernel) rfl ?_
  refine iq_lstore hS 6 J_HOrders_countOn_d4 (by decide) rfl ?_
  refine iq_lconst hS 7 J_HOrders_countOn_d6 (v := 1) (by decide +kernel) rfl ?_
  refine iq_lstore hS 9 J_HOrders_countOn_d7 (by decide) rfl ?_
  obtain ⟨Q1, hQ1, h⟩ := bd3_ed h
  have K1 : ∀ (y2 : Int32) (y3 : Int64) (y4 : Int64) (L' : List (Nat × Value)), im_lk L' 0 = some (.ref 11) → im_lk L' 1 = some (.int p0) → im_lk L' 2 = some (.long p1) → im_lk L' 4 = some (.int y2) → im_lk L' 5 = some (.long y3) → im_lk L' 7 = some (.long y4) → Q1 (y2, y3, y4) → ia (tb_G L xs) (dep + 1) J_HOrders_countOn (rwV w Q) (84, L', [], M) := by
    intro y2 y3 y4 L' l5 l6 l7 l8 l9 l10 h
    replace h := hQ1 _ _ _ h
    refine iq_lload hS 86 J_HOrders_countOn_d84 l9 rfl ?_
    refine iq_lload_n hS 87 J_HOrders_countOn_d86 l7 rfl ?_
    refine iq_ladd hS 88 J_HOrders_countOn_d87 rfl ?_
    refine iq_lload hS 90 J_HOrders_countOn_d88 l10 rfl ?_
    obtain ⟨Q11, hQ11, h⟩ := bd1_ed h
    refine iq_cpL hS 93 J_HOrders_countOn_d90 rfl (pr_stat (vs := [_, _]) lc_5_52 lT_79 rfl rfl (by decide) rfl (Nat.le_of_ble_eq_true rfl) (Nat.le_of_ble_eq_true rfl)) (f_Math_floorMod_ok (dep := dep + 0) hM h) rfl ?_
    intro x11 h
    replace h := hQ11 _ h
    refine iq_lstore hS 95 J_HOrders_countOn_d93 (by decide) rfl ?_
    refine iq_iload_n hS 96 J_HOrders_countOn_d95 (lk_2i l6 (by decide) (by decide)) rfl ?_
    refine iq_iconst hS 97 J_HOrders_countOn_d96 (v := 1) (by decide +kernel) rfl ?_
    refine iq_isub hS 98 J_HOrders_countOn_d97 rfl ?_
    refine iq_istore hS 100 J_HOrders_countOn_d98 (by decide) rfl ?_
    obtain ⟨Q12, hQ12, h⟩ := bd1_ed h
    have K12 : ∀ (M13 : im_M) (L' : List (Nat × Value)), lw_S w M13 → Q12 M13 → ia (tb_G L xs) (dep + 1) J_HOrders_countOn (rwV w Q) (140, L', [], M13) := by
      intro M13 L' hM13  h
      replace h := hQ12 _ h
      exact iq_ret J_HOrders_countOn_d140 rfl ⟨rfl, hM13, ed_some h⟩
    obtain ⟨r12, hr12, hq12⟩ := h
    obtain ⟨n12, hn12⟩ := lp_n hr12
    have I12 : ∀ (n : Nat) (x14 : Int64) (x15 : Int32) (M16 : im_M) (L' : List (Nat × Value)), lw_S w M16 → im_lk L' 0 = some (.ref 11) → im_lk L' 4 = some (.int y2) → im_lk L' 5 = some (.long x14) → im_lk L' 9 = some (.int x15) → lpn (uc3 (f_HOrders_countOn_L100 y2)) n (x14, x15, M16) = some r12 → ia (tb_G L xs) (dep + 1) J_HOrders_countOn (rwV w Q) (100, L', [], M16) := by
      intro n
      induction n with
      | zero => intro x14 x15 M16 L' hM16 l17 l18 l19 l20 hn; exact (lpn_0 hn).elim
      | succ n ih =>
        intro x14 x15 M16 L' hM16 l17 l18 l19 l20 hn
        have h := lpn_ed3 hn
        unfold f_HOrders_countOn_L100 at h
        refine iq_iload hS 102 J_HOrders_countOn_d100 l20 rfl ?_
        refine iq_iload hS 104 J_HOrders_countOn_d102 l18 rfl ?_
        refine iq_icmp_lt hS 107 J_HOrders_countOn_d104 (t := 140) rfl (fun q104 => ?_) rfl (fun q104 => ?_)
        · replace h := ed_pos q104 h
          exact K12 _ _ hM16  (lq_r h hq12)
        · replace h := ed_neg q104 h
          refine iq_aload_n hS 108 J_HOrders_countOn_d107 l17 rfl ?_
          refine iq_getR hS 111 J_HOrders_countOn_d108 lf_5_9 (Or.inr ⟨_, rfl⟩) (ka_11 hM16) (ra_11_2 hM16) rfl ?_
          refine iq_iload hS 113 J_HOrders_countOn_d111 l20 rfl ?_
          refine iq_ldc2_w hS 116 J_HOrders_countOn_d113 lk_5_58 rfl ?_
          refine iq_lload hS 118 J_HOrders_countOn_d116 l19 rfl ?_
          refine iq_ldc2_w hS 121 J_HOrders_countOn_d118 lk_5_50 rfl ?_
          refine iq_lrem hS 122 J_HOrders_countOn_d121 (by decide) rfl ?_
          refine iq_ladd hS 123 J_HOrders_countOn_d122 rfl ?_
          refine iq_l2i hS 124 J_HOrders_countOn_d123 rfl ?_
          refine iq_i2b hS 125 J_HOrders_countOn_d124 rfl ?_
          obtain ⟨g125, h⟩ := ed_gd h
          refine iq_bastore hS 126 J_HOrders_countOn_d125 ⟨(ka_12 hM16).1, (ka_12 hM16).2, g125.1, ix_lt (kl_12 hM16) g125.2⟩ rfl ?_
          refine iq_lload hS 128 J_HOrders_countOn_d126 l19 rfl ?_
          refine iq_ldc2_w hS 131 J_HOrders_countOn_d128 lk_5_50 rfl ?_
          refine iq_ldiv hS 132 J_HOrders_countOn_d131 (by decide) rfl ?_
          refine iq_lstore hS 134 J_HOrders_countOn_d132 (by decide) rfl ?_
          refine iq_iincv hS 137 J_HOrders_countOn_d134 (c := (-1)) (by decide +kernel) (lk_2i l20 (by decide) (by decide)) (by decide) rfl ?_
          refine iq_goto hS J_HOrders_countOn_d137 (t := 100) rfl ?_
          exact ih _ _ _ _ hM16 (lk_1r (lk_2r l17 (by decide) (by decide)) (by decide)) (lk_1i (lk_2i l18 (by decide) (by decide)) (by decide)) (lk_1l lk_2s (by decide) (by decide)) lk_1s (lq_l h)
    exact I12 n12 _ _ _ _ hM (lk_1r (lk_2r l5 (by decide) (by decide)) (by decide)) (lk_1i (lk_2i l8 (by decide) (by decide)) (by decide)) (lk_1l lk_2s (by decide) (by decide)) lk_1s hn12
  obtain ⟨r1, hr1, hq1⟩ := h
  obtain ⟨n1, hn1⟩ := lp_n hr1
  have I1 : ∀ (n : Nat) (x21 : Int32) (x22 : Int64) (x23 : Int64) (L' : List (Nat × Value)), im_lk L' 0 = some (.ref 11) → im_lk L' 1 = some (.int p0) → im_lk L' 2 = some (.long p1) → im_lk L' 4 = some (.int x21) → im_lk L' 5 = some (.long x22) → im_lk L' 7 = some (.long x23) → lpn (uc3 (f_HOrders_countOn_L9 p0 p1 M)) n (x21, x22, x23) = some r1 → ia (tb_G L xs) (dep + 1) J_HOrders_countOn (rwV w Q) (9, L', [], M) := by
    intro n
    induction n with
    | zero => intro x21 x22 x23 L' l24 l25 l26 l27 l28 l29 hn; exact (lpn_0 hn).elim
    | succ n ih =>
      intro x21 x22 x23 L' l24 l25 l26 l27 l28 l29 hn
      have h := lpn_ed3 hn
      unfold f_HOrders_countOn_L9 at h
      refine iq_iload hS 11 J_HOrders_countOn_d9 l27 rfl ?_
      refine iq_if_le hS 14 J_HOrders_countOn_d11 (t := 84) rfl (fun q11 => ?_) rfl (fun q11 => ?_)
      · replace h := ed_pos q11 h
        exact K1 _ _ _ _ l24 l25 l26 l27 l28 l29 (lq_r h hq1)
      · replace h := ed_neg q11 h
        refine iq_iload_n hS 15 J_HOrders_countOn_d14 l25 rfl ?_
        refine iq_iload hS 17 J_HOrders_countOn_d15 l27 rfl ?_
        refine iq_isub hS 18 J_HOrders_countOn_d17 rfl ?_
        refine iq_bipush hS 20 J_HOrders_countOn_d18 (v := 9) (by decide +kernel) rfl ?_
        refine iq_icmp_ge hS 23 J_HOrders_countOn_d20 (t := 84) rfl (fun q20 => ?_) rfl (fun q20 => ?_)
        · replace h := ed_pos q20 h
          exact K1 _ _ _ _ l24 l25 l26 l27 l28 l29 (lq_r h hq1)
        · replace h := ed_neg q20 h
          refine iq_aload_n hS 24 J_HOrders_countOn_d23 l24 rfl ?_
          refine iq_getR hS 27 J_HOrders_countOn_d24 lf_5_9 (Or.inr ⟨_, rfl⟩) (ka_11 hM) (ra_11_2 hM) rfl ?_
          refine iq_iload hS 29 J_HOrders_countOn_d27 l27 rfl ?_
          refine iq_iconst hS 30 J_HOrders_countOn_d29 (v := 1) (by decide +kernel) rfl ?_
          refine iq_isub hS 31 J_HOrders_countOn_d30 rfl ?_
          obtain ⟨g31, h⟩ := ed_gd h
          refine iq_baload hS 32 J_HOrders_countOn_d31 ⟨(ka_12 hM).1, (ka_12 hM).2, g31.1, ix_lt (kl_12 hM) g31.2⟩ rfl ?_
          refine iq_bipush hS 34 J_HOrders_countOn_d32 (v := 48) (by decide +kernel) rfl ?_
          refine iq_icmp_lt hS 37 J_HOrders_countOn_d34 (t := 84) rfl (fun q34 => ?_) rfl (fun q34 => ?_)
          · replace h := ed_pos q34 h
            exact K1 _ _ _ _ l24 l25 l26 l27 l28 l29 (lq_r h hq1)
          · replace h := ed_neg q34 h
            refine iq_aload_n hS 38 J_HOrders_countOn_d37 l24 rfl ?_
            refine iq_getR hS 41 J_HOrders_countOn_d38 lf_5_9 (Or.inr ⟨_, rfl⟩) (ka_11 hM) (ra_11_2 hM) rfl ?_
            refine iq_iload hS 43 J_HOrders_countOn_d41 l27 rfl ?_
            refine iq_iconst hS 44 J_HOrders_countOn_d43 (v := 1) (by decide +kernel) rfl ?_
            refine iq_isub hS 45 J_HOrders_countOn_d44 rfl ?_
            obtain ⟨g45, h⟩ := ed_gd h
            refine iq_baload hS 46 J_HOrders_countOn_d45 ⟨(ka_12 hM).1, (ka_12 hM).2, g45.1, ix_lt (kl_12 hM) g45.2⟩ rfl ?_
            refine iq_bipush hS 48 J_HOrders_countOn_d46 (v := 57) (by decide +kernel) rfl ?_
            refine iq_icmp_gt hS 51 J_HOrders_countOn_d48 (t := 84) rfl (fun q48 => ?_) rfl (fun q48 => ?_)
            · replace h := ed_pos q48 h
              exact K1 _ _ _ _ l24 l25 l26 l27 l28 l29 (lq_r h hq1)
            · replace h := ed_neg q48 h
              refine iq_iincv hS 54 J_HOrders_countOn_d51 (c := (-1)) (by decide +kernel) l27 (by decide) rfl ?_
              refine iq_lload hS 56 J_HOrders_countOn_d54 (lk_1l l28 (by decide) (by decide)) rfl ?_
              refine iq_lload hS 58 J_HOrders_countOn_d56 (lk_1l l29 (by decide) (by decide)) rfl ?_
              refine iq_aload_n hS 59 J_HOrders_countOn_d58 (lk_1r l24 (by decide)) rfl ?_
              refine iq_getR hS 62 J_HOrders_countOn_d59 lf_5_9 (Or.inr ⟨_, rfl⟩) (ka_11 hM) (ra_11_2 hM) rfl ?_
              refine iq_iload hS 64 J_HOrders_countOn_d62 lk_1s rfl ?_
              obtain ⟨g64, h⟩ := ed_gd h
              refine iq_baload hS 65 J_HOrders_countOn_d64 ⟨(ka_12 hM).1, (ka_12 hM).2, g64.1, ix_lt (kl_12 hM) g64.2⟩ rfl ?_
              refine iq_bipush hS 67 J_HOrders_countOn_d65 (v := 48) (by decide +kernel) rfl ?_
              refine iq_isub hS 68 J_HOrders_countOn_d67 rfl ?_
              refine iq_i2l hS 69 J_HOrders_countOn_d68 rfl ?_
              refine iq_lmul hS 70 J_HOrders_countOn_d69 rfl ?_
              refine iq_ladd hS 71 J_HOrders_countOn_d70 rfl ?_
              refine iq_lstore hS 73 J_HOrders_countOn_d71 (by decide) rfl ?_
              refine iq_lload hS 75 J_HOrders_countOn_d73 (lk_2l (lk_1l l29 (by decide) (by decide)) (by decide) (by decide) (by decide)) rfl ?_
              refine iq_ldc2_w hS 78 J_HOrders_countOn_d75 lk_5_50 rfl ?_
              refine iq_lmul hS 79 J_HOrders_countOn_d78 rfl ?_
              refine iq_lstore hS 81 J_HOrders_countOn_d79 (by decide) rfl ?_
              refine iq_goto hS J_HOrders_countOn_d81 (t := 9) rfl ?_
              exact ih _ _ _ _ (lk_2r (lk_2r (lk_1r l24 (by decide)) (by decide) (by decide)) (by decide) (by decide)) (lk_2i (lk_2i (lk_1i l25 (by decide)) (by decide) (by decide)) (by decide) (by decide)) (lk_2l (lk_2l (lk_1l l26 (by decide) (by decide)) (by decide) (by decide) (by decide)) (by decide) (by decide) (by decide)) (lk_2i (lk_2i lk_1s (by decide) (by decide)) (by decide) (by decide)) (lk_2l lk_2s (by decide) (by decide) (by decide)) lk_2s (lq_l h)
  exact I1 n1 _ _ _ _ (lk_2r (lk_2r (lk_1r l0 (by decide)) (by decide) (by decide)) (by decide) (by decide)) (lk_2i (lk_2i (lk_1i l1 (by decide)) (by decide) (by decide)) (by decide) (by decide)) (lk_2l (lk_2l (lk_1l l2 (by decide) (by decide)) (by decide) (by decide) (by decide)) (by decide) (by decide) (by decide)) (lk_2i (lk_2i lk_1s (by decide) (by decide)) (by decide) (by decide)) (lk_2l lk_2s (by decide) (by decide) (by decide)) lk_2s hn1
