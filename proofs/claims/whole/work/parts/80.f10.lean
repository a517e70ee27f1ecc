/-! METHODS AS FUNCTIONS -/
noncomputable def f_HFinder_add_L54 (v2 : Int32) (v3 : Int64) (x4 : Int32) (M5 : im_M) : Option ((Int32 × im_M) ⊕ (Int32 × im_M)) := if x4 ≤ 0 then some (.inr (x4, M5)) else gd (inb (x4 - 1) 300) <| if (lg_cmp (im_l M5 62 (Int32.toNatClampNeg (x4 - 1))) v3) ≤ 0 then some (.inr (x4, M5)) else gd (inb (x4 - 1) 300) <| gd (inb x4 300) <| gd (inb (x4 - 1) 300) <| gd (inb x4 300) <| some (.inl ((x4 + (-1)), (im_setI (im_setL M5 62 (Int32.toNatClampNeg x4) (im_l M5 62 (Int32.toNatClampNeg (x4 - 1)))) 63 (Int32.toNatClampNeg x4) (im_i (im_setL M5 62 (Int32.toNatClampNeg x4) (im_l M5 62 (Int32.toNatClampNeg (x4 - 1)))) 63 (Int32.toNatClampNeg (x4 - 1))))))
noncomputable def f_HFinder_add (p0 : Int32) (p1 : Int32) (p2 : Int32) (p3 : Int32) (p4 : Int32) (M : im_M) : Option (Int32 × im_M) := if ¬ (im_i M 59 8) = 300 then bd2 (lp (uc2 (f_HFinder_add_L54 p4 (((((((((Int32.toInt64 p1) * 512) + (Int32.toInt64 p0)) * 32) + (Int32.toInt64 (im_i M 59 9))) * 64) + (Int32.toInt64 p2)) * 4) + (Int32.toInt64 p3)))) ((im_i M 59 8), M)) fun (y6 : Int32) (M7 : im_M) => gd (inb y6 300) <| gd (inb y6 300) <| some (1, (im_setI (im_setI (im_setL M7 62 (Int32.toNatClampNeg y6) (((((((((Int32.toInt64 p1) * 512) + (Int32.toInt64 p0)) * 32) + (Int32.toInt64 (im_i M 59 9))) * 64) + (Int32.toInt64 p2)) * 4) + (Int32.toInt64 p3))) 63 (Int32.toNatClampNeg y6) p4) 59 8 ((im_i (im_setI (im_setL M7 62 (Int32.toNatClampNeg y6) (((((((((Int32.toInt64 p1) * 512) + (Int32.toInt64 p0)) * 32) + (Int32.toInt64 (im_i M 59 9))) * 64) + (Int32.toInt64 p2)) * 4) + (Int32.toInt64 p3))) 63 (Int32.toNatClampNeg y6) p4) 59 8) + 1))) else some (0, M)
theorem J_HFinder_add_d0 : decode J_HFinder_add.2.1 0 = .ok (.aload_n 0, 1) := by decide +kernel
theorem J_HFinder_add_d1 : decode J_HFinder_add.2.1 1 = .ok (.getfield 45, 3) := by decide +kernel
theorem J_HFinder_add_d4 : decode J_HFinder_add.2.1 4 = .ok (.sipush 300, 3) := by decide +kernel
theorem J_HFinder_add_d7 : decode J_HFinder_add.2.1 7 = .ok (.if_icmp .ne 5, 3) := by decide +kernel
theorem J_HFinder_add_d10 : decode J_HFinder_add.2.1 10 = .ok (.iconst 0, 1) := by decide +kernel
theorem J_HFinder_add_d11 : decode J_HFinder_add.2.1 11 = .ok (.ireturn, 1) := by decide +kernel
theorem J_HFinder_add_d12 : decode J_HFinder_add.2.1 12 = .ok (.iload_n 2, 1) := by decide +kernel
theorem J_HFinder_add_d13 : decode J_HFinder_add.2.1 13 = .ok (.i2l, 1) := by decide +kernel
theorem J_HFinder_add_d14 : decode J_HFinder_add.2.1 14 = .ok (.ldc2_w 118, 3) := by decide +kernel
theorem J_HFinder_add_d17 : decode J_HFinder_add.2.1 17 = .ok (.lmul, 1) := by decide +kernel
theorem J_HFinder_add_d18 : decode J_HFinder_add.2.1 18 = .ok (.iload_n 1, 1) := by decide +kernel
theorem J_HFinder_add_d19 : decode J_HFinder_add.2.1 19 = .ok (.i2l, 1) := by decide +kernel
theorem J_HFinder_add_d20 : decode J_HFinder_add.2.1 20 = .ok (.ladd, 1) := by decide +kernel
theorem J_HFinder_add_d21 : decode J_HFinder_add.2.1 21 = .ok (.ldc2_w 120, 3) := by decide +kernel
theorem J_HFinder_add_d24 : decode J_HFinder_add.2.1 24 = .ok (.lmul, 1) := by decide +kernel
theorem J_HFinder_add_d25 : decode J_HFinder_add.2.1 25 = .ok (.aload_n 0, 1) := by decide +kernel
theorem J_HFinder_add_d26 : decode J_HFinder_add.2.1 26 = .ok (.getfield 66, 3) := by decide +kernel
theorem J_HFinder_add_d29 : decode J_HFinder_add.2.1 29 = .ok (.i2l, 1) := by decide +kernel
theorem J_HFinder_add_d30 : decode J_HFinder_add.2.1 30 = .ok (.ladd, 1) := by decide +kernel
theorem J_HFinder_add_d31 : decode J_HFinder_add.2.1 31 = .ok (.ldc2_w 122, 3) := by decide +kernel
theorem J_HFinder_add_d34 : decode J_HFinder_add.2.1 34 = .ok (.lmul, 1) := by decide +kernel
theorem J_HFinder_add_d35 : decode J_HFinder_add.2.1 35 = .ok (.iload_n 3, 1) := by decide +kernel
theorem J_HFinder_add_d36 : decode J_HFinder_add.2.1 36 = .ok (.i2l, 1) := by decide +kernel
theorem J_HFinder_add_d37 : decode J_HFinder_add.2.1 37 = .ok (.ladd, 1) := by decide +kernel
theorem J_HFinder_add_d38 : decode J_HFinder_add.2.1 38 = .ok (.ldc2_w 124, 3) := by decide +kernel
theorem J_HFinder_add_d41 : decode J_HFinder_add.2.1 41 = .ok (.lmul, 1) := by decide +kernel
theorem J_HFinder_add_d42 : decode J_HFinder_add.2.1 42 = .ok (.iload 4, 2) := by decide +kernel
theorem J_HFinder_add_d44 : decode J_HFinder_add.2.1 44 = .ok (.i2l, 1) := by decide +kernel
theorem J_HFinder_add_d45 : decode J_HFinder_add.2.1 45 = .ok (.ladd, 1) := by decide +kernel
theorem J_HFinder_add_d46 : decode J_HFinder_add.2.1 46 = .ok (.lstore 6, 2) := by decide +kernel
theorem J_HFinder_add_d48 : decode J_HFinder_add.2.1 48 = .ok (.aload_n 0, 1) := by decide +kernel
theorem J_HFinder_add_d49 : decode J_HFinder_add.2.1 49 = .ok (.getfield 45, 3) := by decide +kernel
theorem J_HFinder_add_d52 : decode J_HFinder_add.2.1 52 = .ok (.istore 8, 2) := by decide +kernel
theorem J_HFinder_add_d54 : decode J_HFinder_add.2.1 54 = .ok (.iload 8, 2) := by decide +kernel
theorem J_HFinder_add_d56 : decode J_HFinder_add.2.1 56 = .ok (.ifCond .le 56, 3) := by decide +kernel
theorem J_HFinder_add_d59 : decode J_HFinder_add.2.1 59 = .ok (.aload_n 0, 1) := by decide +kernel
theorem J_HFinder_add_d60 : decode J_HFinder_add.2.1 60 = .ok (.getfield 23, 3) := by decide +kernel
theorem J_HFinder_add_d63 : decode J_HFinder_add.2.1 63 = .ok (.iload 8, 2) := by decide +kernel
theorem J_HFinder_add_d65 : decode J_HFinder_add.2.1 65 = .ok (.iconst 1, 1) := by decide +kernel
theorem J_HFinder_add_d66 : decode J_HFinder_add.2.1 66 = .ok (.isub, 1) := by decide +kernel
theorem J_HFinder_add_d67 : decode J_HFinder_add.2.1 67 = .ok (.laload, 1) := by decide +kernel
theorem J_HFinder_add_d68 : decode J_HFinder_add.2.1 68 = .ok (.lload 6, 2) := by decide +kernel
theorem J_HFinder_add_d70 : decode J_HFinder_add.2.1 70 = .ok (.lcmp, 1) := by decide +kernel
theorem J_HFinder_add_d71 : decode J_HFinder_add.2.1 71 = .ok (.ifCond .le 41, 3) := by decide +kernel
theorem J_HFinder_add_d74 : decode J_HFinder_add.2.1 74 = .ok (.aload_n 0, 1) := by decide +kernel
theorem J_HFinder_add_d75 : decode J_HFinder_add.2.1 75 = .ok (.getfield 23, 3) := by decide +kernel
theorem J_HFinder_add_d78 : decode J_HFinder_add.2.1 78 = .ok (.iload 8, 2) := by decide +kernel
theorem J_HFinder_add_d80 : decode J_HFinder_add.2.1 80 = .ok (.aload_n 0, 1) := by decide +kernel
theorem J_HFinder_add_d81 : decode J_HFinder_add.2.1 81 = .ok (.getfield 23, 3) := by decide +kernel
theorem J_HFinder_add_d84 : decode J_HFinder_add.2.1 84 = .ok (.iload 8, 2) := by decide +kernel
theorem J_HFinder_add_d86 : decode J_HFinder_add.2.1 86 = .ok (.iconst 1, 1) := by decide +kernel
theorem J_HFinder_add_d87 : decode J_HFinder_add.2.1 87 = .ok (.isub, 1) := by decide +kernel
theorem J_HFinder_add_d88 : decode J_HFinder_add.2.1 88 = .ok (.laload, 1) := by decide +kernel
theorem J_HFinder_add_d89 : decode J_HFinder_add.2.1 89 = .ok (.lastore, 1) := by decide +kernel
theorem J_HFinder_add_d90 : decode J_HFinder_add.2.1 90 = .ok (.aload_n 0, 1) := by decide +kernel
theorem J_HFinder_add_d91 : decode J_HFinder_add.2.1 91 = .ok (.getfield 27, 3) := by decide +kernel
theorem J_HFinder_add_d94 : decode J_HFinder_add.2.1 94 = .ok (.iload 8, 2) := by decide +kernel
theorem J_HFinder_add_d96 : decode J_HFinder_add.2.1 96 = .ok (.aload_n 0, 1) := by decide +kernel
theorem J_HFinder_add_d97 : decode J_HFinder_add.2.1 97 = .ok (.getfield 27, 3) := by decide +kernel
theorem J_HFinder_add_d100 : decode J_HFinder_add.2.1 100 = .ok (.iload 8, 2) := by decide +kernel
theorem J_HFinder_add_d102 : decode J_HFinder_add.2.1 102 = .ok (.iconst 1, 1) := by decide +kernel
theorem J_HFinder_add_d103 : decode J_HFinder_add.2.1 103 = .ok (.isub, 1) := by decide +kernel
theorem J_HFinder_add_d104 : decode J_HFinder_add.2.1 104 = .ok (.iaload, 1) := by decide +kernel
theorem J_HFinder_add_d105 : decode J_HFinder_add.2.1 105 = .ok (.iastore, 1) := by decide +kernel
theorem J_HFinder_add_d106 : decode J_HFinder_add.2.1 106 = .ok (.iinc 8 (-1), 3) := by decide +kernel
theorem J_HFinder_add_d109 : decode J_HFinder_add.2.1 109 = .ok (.goto (-55), 3) := by decide +kernel
theorem J_HFinder_add_d112 : decode J_HFinder_add.2.1 112 = .ok (.aload_n 0, 1) := by decide +kernel
theorem J_HFinder_add_d113 : decode J_HFinder_add.2.1 113 = .ok (.getfield 23, 3) := by decide +kernel
theorem J_HFinder_add_d116 : decode J_HFinder_add.2.1 116 = .ok (.iload 8, 2) := by decide +kernel
theorem J_HFinder_add_d118 : decode J_HFinder_add.2.1 118 = .ok (.lload 6, 2) := by decide +kernel
theorem J_HFinder_add_d120 : decode J_HFinder_add.2.1 120 = .ok (.lastore, 1) := by decide +kernel
theorem J_HFinder_add_d121 : decode J_HFinder_add.2.1 121 = .ok (.aload_n 0, 1) := by decide +kernel
theorem J_HFinder_add_d122 : decode J_HFinder_add.2.1 122 = .ok (.getfield 27, 3) := by decide +kernel
theorem J_HFinder_add_d125 : decode J_HFinder_add.2.1 125 = .ok (.iload 8, 2) := by decide +kernel
theorem J_HFinder_add_d127 : decode J_HFinder_add.2.1 127 = .ok (.iload 5, 2) := by decide +kernel
theorem J_HFinder_add_d129 : decode J_HFinder_add.2.1 129 = .ok (.iastore, 1) := by decide +kernel
theorem J_HFinder_add_d130 : decode J_HFinder_add.2.1 130 = .ok (.aload_n 0, 1) := by decide +kernel
theorem J_HFinder_add_d131 : decode J_HFinder_add.2.1 131 = .ok (.dup, 1) := by decide +kernel
theorem J_HFinder_add_d132 : decode J_HFinder_add.2.1 132 = .ok (.getfield 45, 3) := by decide +kernel
theorem J_HFinder_add_d135 : decode J_HFinder_add.2.1 135 = .ok (.iconst 1, 1) := by decide +kernel
theorem J_HFinder_add_d136 : decode J_HFinder_add.2.1 136 = .ok (.iadd, 1) := by decide +kernel
theorem J_HFinder_add_d137 : decode J_HFinder_add.2.1 137 = .ok (.putfield 45, 3) := by decide +kernel
theorem J_HFinder_add_d140 : decode J_HFinder_add.2.1 140 = .ok (.iconst 1, 1) := by decide +kernel
theorem J_HFinder_add_d141 : decode J_HFinder_add.2.1 141 = .ok (.ireturn, 1) := by decide +kernel
theorem f_HFinder_add_ok {L : Nat} {xs : Nat → Int32} {dep : Nat} {w : Bool} {p0 : Int32} {p1 : Int32} {p2 : Int32} {p3 : Int32} {p4 : Int32} {M : im_M} {Q : Int32 × im_M → Prop} (hM : lw_S w M) (h : ed (f_HFinder_add p0 p1 p2 p3 p4 M) Q) : ia (tb_G L xs) dep J_HFinder_add (rwI w Q) (0, lv_args 0 [.ref 59, .int p0, .int p1, .int p2, .int p3, .int p4], [], M) := by
  have hS : im_St (tb_G L xs) dep J_HFinder_add (ia (tb_G L xs) dep J_HFinder_add (rwI w Q)) := ia_St
  unfold f_HFinder_add at h
  have l0 : im_lk (lv_args 0 [.ref 59, .int p0, .int p1, .int p2, .int p3, .int p4]) 0 = some (.ref 59) := rfl
  have l1 : im_lk (lv_args 0 [.ref 59, .int p0, .int p1, .int p2, .int p3, .int p4]) 1 = some (.int p0) := rfl
  have l2 : im_lk (lv_args 0 [.ref 59, .int p0, .int p1, .int p2, .int p3, .int p4]) 2 = some (.int p1) := rfl
  have l3 : im_lk (lv_args 0 [.ref 59, .int p0, .int p1, .int p2, .int p3, .int p4]) 3 = some (.int p2) := rfl
  have l4 : im_lk (lv_args 0 [.ref 59, .int p0, .int p1, .int p2, .int p3, .int p4]) 4 = some (.int p3) := rfl
  have l5 : im_lk (lv_args 0 [.ref 59, .int p0, .int p1, .int p2, .int p3, .int p4]) 5 = some (.int p4) := rfl
  refine iq_aload_n hS 1 J_HFinder_add_d0 l0 rfl ?_
  refine iq_getI hS 4 J_HFinder_add_d1 lf_3_45 (Or.inl rfl) (ka_59 hM) rfl ?_
  refine iq_sipush hS 7 J_HFinder_add_d4 (v := 300) (by decide +kernel) rfl ?_
  refine iq_icmp_ne hS 10 J_HFinder_add_d7 (t := 12) rfl (fun q7 => ?_) rfl (fun q7 => ?_)
  · replace h := ed_pos q7 h
    refine iq_iload_n hS 13 J_HFinder_add_d12 l2 rfl ?_
    refine iq_i2l hS 14 J_HFinder_add_d13 rfl ?_
    refine iq_ldc2_w hS 17 J_HFinder_add_d14 lk_3_118 rfl ?_
    refine iq_lmul hS 18 J_HFinder_add_d17 rfl ?_
    refine iq_iload_n hS 19 J_HFinder_add_d18 l1 rfl ?_
    refine iq_i2l hS 20 J_HFinder_add_d19 rfl ?_
    refine iq_ladd hS 21 J_HFinder_add_d20 rfl ?_
    refine iq_ldc2_w hS 24 J_HFinder_add_d21 lk_3_120 rfl ?_
    refine iq_lmul hS 25 J_HFinder_add_d24 rfl ?_
    refine iq_aload_n hS 26 J_HFinder_add_d25 l0 rfl ?_
    refine iq_getI hS 29 J_HFinder_add_d26 lf_3_66 (Or.inl rfl) (ka_59 hM) rfl ?_
    refine iq_i2l hS 30 J_HFinder_add_d29 rfl ?_
    refine iq_ladd hS 31 J_HFinder_add_d30 rfl ?_
    refine iq_ldc2_w hS 34 J_HFinder_add_d31 lk_3_122 rfl ?_
    refine iq_lmul hS 35 J_HFinder_add_d34 rfl ?_
    refine iq_iload_n hS 36 J_HFinder_add_d35 l3 rfl ?_
    refine iq_i2l hS 37 J_HFinder_add_d36 rfl ?_
    refine iq_ladd hS 38 J_HFinder_add_d37 rfl ?_
    refine iq_ldc2_w hS 41 J_HFinder_add_d38 lk_3_124 rfl ?_
    refine iq_lmul hS 42 J_HFinder_add_d41 rfl ?_
    refine iq_iload hS 44 J_HFinder_add_d42 l4 rfl ?_
    refine iq_i2l hS 45 J_HFinder_add_d44 rfl ?_
    refine iq_ladd hS 46 J_HFinder_add_d45 rfl ?_
    refine iq_lstore hS 48 J_HFinder_add_d46 (by decide) rfl ?_
    refine iq_aload_n hS 49 J_HFinder_add_d48 (lk_2r l0 (by decide) (by decide)) rfl ?_
    refine iq_getI hS 52 J_HFinder_add_d49 lf_3_45 (Or.inl rfl) (ka_59 hM) rfl ?_
    refine iq_istore hS 54 J_HFinder_add_d52 (by decide) rfl ?_
    obtain ⟨Q1, hQ1, h⟩ := bd2_ed h
    have K1 : ∀ (y2 : Int32) (M3 : im_M) (L' : List (Nat × Value)), lw_S w M3 → im_lk L' 0 = some (.ref 59) → im_lk L' 5 = some (.int p4) → im_lk L' 6 = some (.long (((((((((Int32.toInt64 p1) * 512) + (Int32.toInt64 p0)) * 32) + (Int32.toInt64 (im_i M 59 9))) * 64) + (Int32.toInt64 p2)) * 4) + (Int32.toInt64 p3))) → im_lk L' 8 = some (.int y2) → Q1 (y2, M3) → ia (tb_G L xs) dep J_HFinder_add (rwI w Q) (112, L', [], M3) := by
      intro y2 M3 L' hM3 l4 l5 l6 l7 h
      replace h := hQ1 _ _ h
      refine iq_aload_n hS 113 J_HFinder_add_d112 l4 rfl ?_
      refine iq_getR hS 116 J_HFinder_add_d113 lf_3_23 (Or.inr ⟨_, rfl⟩) (ka_59 hM3) (ra_59_4 hM3) rfl ?_
      refine iq_iload hS 118 J_HFinder_add_d116 l7 rfl ?_
      refine iq_lload hS 120 J_HFinder_add_d118 l6 rfl ?_
      obtain ⟨g120, h⟩ := ed_gd h
      refine iq_lastore hS 121 J_HFinder_add_d120 ⟨(ka_62 hM3).1, (ka_62 hM3).2, g120.1, ix_lt (kl_62 hM3) g120.2⟩ rfl ?_
      refine iq_aload_n hS 122 J_HFinder_add_d121 l4 rfl ?_
      refine iq_getR hS 125 J_HFinder_add_d122 lf_3_27 (Or.inr ⟨_, rfl⟩) (ka_59 hM3) (ra_59_5 hM3) rfl ?_
      refine iq_iload hS 127 J_HFinder_add_d125 l7 rfl ?_
      refine iq_iload hS 129 J_HFinder_add_d127 l5 rfl ?_
      obtain ⟨g129, h⟩ := ed_gd h
      refine iq_iastore hS 130 J_HFinder_add_d129 ⟨(ka_63 hM3).1, (ka_63 hM3).2, g129.1, ix_lt (kl_63 hM3) g129.2⟩ rfl ?_
      refine iq_aload_n hS 131 J_HFinder_add_d130 l4 rfl ?_
      refine iq_dup hS 132 J_HFinder_add_d131 rfl rfl ?_
      refine iq_getI hS 135 J_HFinder_add_d132 lf_3_45 (Or.inl rfl) (ka_59 hM3) rfl ?_
      refine iq_iconst hS 136 J_HFinder_add_d135 (v := 1) (by decide +kernel) rfl ?_
      refine iq_iadd hS 137 J_HFinder_add_d136 rfl ?_
      refine iq_putI hS 140 J_HFinder_add_d137 lf_3_45 (Or.inl rfl) rfl (ka_59 hM3) rfl ?_
      refine iq_iconst hS 141 J_HFinder_add_d140 (v := 1) (by decide +kernel) rfl ?_
      exact iq_iret J_HFinder_add_d141 rfl rfl ⟨_, rfl, hM3, ed_some h⟩
    obtain ⟨r1, hr1, hq1⟩ := h
    obtain ⟨n1, hn1⟩ := lp_n hr1
    have I1 : ∀ (n : Nat) (x8 : Int32) (M9 : im_M) (L' : List (Nat × Value)), lw_S w M9 → im_lk L' 0 = some (.ref 59) → im_lk L' 5 = some (.int p4) → im_lk L' 6 = some (.long (((((((((Int32.toInt64 p1) * 512) + (Int32.toInt64 p0)) * 32) + (Int32.toInt64 (im_i M 59 9))) * 64) + (Int32.toInt64 p2)) * 4) + (Int32.toInt64 p3))) → im_lk L' 8 = some (.int x8) → lpn (uc2 (f_HFinder_add_L54 p4 (((((((((Int32.toInt64 p1) * 512) + (Int32.toInt64 p0)) * 32) + (Int32.toInt64 (im_i M 59 9))) * 64) + (Int32.toInt64 p2)) * 4) + (Int32.toInt64 p3)))) n (x8, M9) = some r1 → ia (tb_G L xs) dep J_HFinder_add (rwI w Q) (54, L', [], M9) := by
      intro n
      induction n with
      | zero => intro x8 M9 L' hM9 l10 l11 l12 l13 hn; exact (lpn_0 hn).elim
      | succ n ih =>
        intro x8 M9 L' hM9 l10 l11 l12 l13 hn
        have h := lpn_ed2 hn
        unfold f_HFinder_add_L54 at h
        refine iq_iload hS 56 J_HFinder_add_d54 l13 rfl ?_
        refine iq_if_le hS 59 J_HFinder_add_d56 (t := 112) rfl (fun q56 => ?_) rfl (fun q56 => ?_)
        · replace h := ed_pos q56 h
          exact K1 _ _ _ hM9 l10 l11 l12 l13 (lq_r h hq1)
        · replace h := ed_neg q56 h
          refine iq_aload_n hS 60 J_HFinder_add_d59 l10 rfl ?_
          refine iq_getR hS 63 J_HFinder_add_d60 lf_3_23 (Or.inr ⟨_, rfl⟩) (ka_59 hM9) (ra_59_4 hM9) rfl ?_
          refine iq_iload hS 65 J_HFinder_add_d63 l13 rfl ?_
          refine iq_iconst hS 66 J_HFinder_add_d65 (v := 1) (by decide +kernel) rfl ?_
          refine iq_isub hS 67 J_HFinder_add_d66 rfl ?_
          obtain ⟨g67, h⟩ := ed_gd h
          refine iq_laload hS 68 J_HFinder_add_d67 ⟨(ka_62 hM9).1, (ka_62 hM9).2, g67.1, ix_lt (kl_62 hM9) g67.2⟩ rfl ?_
          refine iq_lload hS 70 J_HFinder_add_d68 l12 rfl ?_
          refine iq_lcmp hS 71 J_HFinder_add_d70 rfl ?_
          refine iq_if_le hS 74 J_HFinder_add_d71 (t := 112) rfl (fun q71 => ?_) rfl (fun q71 => ?_)
          · replace h := ed_pos q71 h
            exact K1 _ _ _ hM9 l10 l11 l12 l13 (lq_r h hq1)
          · replace h := ed_neg q71 h
            refine iq_aload_n hS 75 J_HFinder_add_d74 l10 rfl ?_
            refine iq_getR hS 78 J_HFinder_add_d75 lf_3_23 (Or.inr ⟨_, rfl⟩) (ka_59 hM9) (ra_59_4 hM9) rfl ?_
            refine iq_iload hS 80 J_HFinder_add_d78 l13 rfl ?_
            refine iq_aload_n hS 81 J_HFinder_add_d80 l10 rfl ?_
            refine iq_getR hS 84 J_HFinder_add_d81 lf_3_23 (Or.inr ⟨_, rfl⟩) (ka_59 hM9) (ra_59_4 hM9) rfl ?_
            refine iq_iload hS 86 J_HFinder_add_d84 l13 rfl ?_
            refine iq_iconst hS 87 J_HFinder_add_d86 (v := 1) (by decide +kernel) rfl ?_
            refine iq_isub hS 88 J_HFinder_add_d87 rfl ?_
            obtain ⟨g88, h⟩ := ed_gd h
            refine iq_laload hS 89 J_HFinder_add_d88 ⟨(ka_62 hM9).1, (ka_62 hM9).2, g88.1, ix_lt (kl_62 hM9) g88.2⟩ rfl ?_
            obtain ⟨g89, h⟩ := ed_gd h
            refine iq_lastore hS 90 J_HFinder_add_d89 ⟨(ka_62 hM9).1, (ka_62 hM9).2, g89.1, ix_lt (kl_62 hM9) g89.2⟩ rfl ?_
            refine iq_aload_n hS 91 J_HFinder_add_d90 l10 rfl ?_
            refine iq_getR hS 94 J_HFinder_add_d91 lf_3_27 (Or.inr ⟨_, rfl⟩) (ka_59 hM9) (ra_59_5 hM9) rfl ?_
            refine iq_iload hS 96 J_HFinder_add_d94 l13 rfl ?_
            refine iq_aload_n hS 97 J_HFinder_add_d96 l10 rfl ?_
            refine iq_getR hS 100 J_HFinder_add_d97 lf_3_27 (Or.inr ⟨_, rfl⟩) (ka_59 hM9) (ra_59_5 hM9) rfl ?_
            refine iq_iload hS 102 J_HFinder_add_d100 l13 rfl ?_
            refine iq_iconst hS 103 J_HFinder_add_d102 (v := 1) (by decide +kernel) rfl ?_
            refine iq_isub hS 104 J_HFinder_add_d103 rfl ?_
            obtain ⟨g104, h⟩ := ed_gd h
            refine iq_iaload hS 105 J_HFinder_add_d104 ⟨(ka_63 hM9).1, (ka_63 hM9).2, g104.1, ix_lt (kl_63 hM9) g104.2⟩ rfl ?_
            obtain ⟨g105, h⟩ := ed_gd h
            refine iq_iastore hS 106 J_HFinder_add_d105 ⟨(ka_63 hM9).1, (ka_63 hM9).2, g105.1, ix_lt (kl_63 hM9) g105.2⟩ rfl ?_
            refine iq_iincv hS 109 J_HFinder_add_d106 (c := (-1)) (by decide +kernel) l13 (by decide) rfl ?_
            refine iq_goto hS J_HFinder_add_d109 (t := 54) rfl ?_
            exact ih _ _ _ hM9 (lk_1r l10 (by decide)) (lk_1i l11 (by decide)) (lk_1l l12 (by decide) (by decide)) lk_1s (lq_l h)
    exact I1 n1 _ _ _ hM (lk_1r (lk_2r l0 (by decide) (by decide)) (by decide)) (lk_1i (lk_2i l5 (by decide) (by decide)) (by decide)) (lk_1l lk_2s (by decide) (by decide)) lk_1s hn1
  · replace h := ed_neg q7 h
    refine iq_iconst hS 11 J_HFinder_add_d10 (v := 0) (by decide +kernel) rfl ?_
    exact iq_iret J_HFinder_add_d11 rfl rfl ⟨_, rfl, hM, ed_some h⟩
noncomputable def f_HFinder_lookAt_L74 (v2 : Int32) (v3 : Int32) (v4 : Int32) (v5 : Int32) (v6 : Int32) (v7 : Int32) (x8 : Int32) (x9 : Int32) (M10 : im_M) : Option ((Int32 × Int32 × im_M) ⊕ ((Int32 × im_M) ⊕ (Int32 × im_M))) := if 4 ≤ x9 then some (.inr (.inl (x8, M10))) else gd (inb x9 4) <| gd (inb x9 4) <| gd (inb ((((v3 + (v7 * (xa_14 x9))) * 512) + v2) + (v7 * (xa_13 x9))) 262144) <| gd (inb x9 4) <| gd (inb x9 4) <| jn0 (fun (_ : Unit) => some (.inl ((x8 + (im_i (im_setI M10 65 (Int32.toNatClampNeg x9) (im_i M10 61 (Int32.toNatClampNeg ((((v3 + (v7 * (xa_14 x9))) * 512) + v2) + (v7 * (xa_13 x9)))))) 65 (Int32.toNatClampNeg x9))), (x9 + 1), (im_setI M10 65 (Int32.toNatClampNeg x9) (im_i M10 61 (Int32.toNatClampNeg ((((v3 + (v7 * (xa_14 x9))) * 512) + v2) + (v7 * (xa_13 x9))))))))) fun k11 => if v5 ≤ x9 then k11 () else gd (inb x9 4) <| if ((im_i (im_setI M10 65 (Int32.toNatClampNeg x9) (im_i M10 61 (Int32.toNatClampNeg ((((v3 + (v7 * (xa_14 x9))) * 512) + v2) + (v7 * (xa_13 x9)))))) 59 10) / 3) < (im_i (im_setI M10 65 (Int32.toNatClampNeg x9) (im_i M10 61 (Int32.toNatClampNeg ((((v3 + (v7 * (xa_14 x9))) * 512) + v2) + (v7 * (xa_13 x9)))))) 65 (Int32.toNatClampNeg x9)) then k11 () else some (.inr (.inr (1, (im_setI M10 65 (Int32.toNatClampNeg x9) (im_i M10 61 (Int32.toNatClampNeg ((((v3 + (v7 * (xa_14 x9))) * 512) + v2) + (v7 * (xa_13 x9)))))))))
noncomputable def f_HFinder_lookAt_L165 (v24 : Int32) (v25 : Int32) (v26 : Int32) (v27 : Int32) (v28 : Int32) (x29 : Int32) (M30 : im_M) : Option ((Int32 × im_M) ⊕ ((im_M) ⊕ (Int32 × im_M))) := if 4 ≤ x29 then some (.inr (.inl M30)) else gd (inb ((3 : Int32) - x29) 4) <| bd1 (if (im_i M30 59 10) < (v28 - (im_i M30 65 (Int32.toNatClampNeg ((3 : Int32) - x29)))) then some (v28 - (im_i M30 65 (Int32.toNatClampNeg ((3 : Int32) - x29)))) else bd1 (f_HFinder_wrongAt v24 v25 v27 x29 (v28 - (im_i M30 65 (Int32.toNatClampNeg ((3 : Int32) - x29)))) M30) fun (x32 : Int32) => some x32) fun (y33 : Int32) => jn1 (fun (M44 : im_M) => some (.inl ((x29 + 1), M44))) fun k42 => if (im_i M30 59 10) < y33 then k42 M30 else bd2 (f_HFinder_add v24 v25 v26 x29 y33 M30) fun (x43 : Int32) (M43 : im_M) => if ¬ x43 = 0 then k42 M43 else some (.inr (.inr (0, M43)))
noncomputable def f_HFinder_lookAt (p0 : Int32) (p1 : Int32) (p2 : Int32) (p3 : Int32) (M : im_M) : Option (Int32 × im_M) := if p0 < 0 then some (1, M) else if p1 < 0 then some (1, M) else if (im_i M 28 0) < (p0 + (((17 : Int32) + ((4 : Int32) * p2)) * (im_i M 59 9))) then some (1, M) else if (p1 + (((17 : Int32) + ((4 : Int32) * p2)) * (im_i M 59 9))) ≤ (im_i M 28 1) then bs2 (lp (uc3 (f_HFinder_lookAt_L74 p0 p1 p2 p3 ((17 : Int32) + ((4 : Int32) * p2)) ((((17 : Int32) + ((4 : Int32) * p2)) - 7) * (im_i M 59 9)))) (0, 0, M)) (fun (y21 : Int32) (M22 : im_M) => bs1 (lp (uc2 (f_HFinder_lookAt_L165 p0 p1 p2 ((17 : Int32) + ((4 : Int32) * p2)) y21)) (0, M22)) (fun (M52 : im_M) => some (1, M52)) (fun t => some t)) (fun t => some t) else some (1, M)
theorem J_HFinder_lookAt_d0 : decode J_HFinder_lookAt.2.1 0 = .ok (.bipush 17, 2) := by decide +kernel
theorem J_HFinder_lookAt_d2 : decode J_HFinder_lookAt.2.1 2 = .ok (.iconst 4, 1) := by decide +kernel
theorem J_HFinder_lookAt_d3 : decode J_HFinder_lookAt.2.1 3 = .ok (.iload_n 3, 1) := by decide +kernel
theorem J_HFinder_lookAt_d4 : decode J_HFinder_lookAt.2.1 4 = .ok (.imul, 1) := by decide +kernel
theorem J_HFinder_lookAt_d5 : decode J_HFinder_lookAt.2.1 5 = .ok (.iadd, 1) := by decide +kernel
theorem J_HFinder_lookAt_d6 : decode J_HFinder_lookAt.2.1 6 = .ok (.istore 5, 2) := by decide +kernel
theorem J_HFinder_lookAt_d8 : decode J_HFinder_lookAt.2.1 8 = .ok (.iload_n 1, 1) := by decide +kernel
theorem J_HFinder_lookAt_d9 : decode J_HFinder_lookAt.2.1 9 = .ok (.ifCond .lt 45, 3) := by decide +kernel
theorem J_HFinder_lookAt_d12 : decode J_HFinder_lookAt.2.1 12 = .ok (.iload_n 2, 1) := by decide +kernel
theorem J_HFinder_lookAt_d13 : decode J_HFinder_lookAt.2.1 13 = .ok (.ifCond .lt 41, 3) := by decide +kernel
theorem J_HFinder_lookAt_d16 : decode J_HFinder_lookAt.2.1 16 = .ok (.iload_n 1, 1) := by decide +kernel
theorem J_HFinder_lookAt_d17 : decode J_HFinder_lookAt.2.1 17 = .ok (.iload 5, 2) := by decide +kernel
theorem J_HFinder_lookAt_d19 : decode J_HFinder_lookAt.2.1 19 = .ok (.aload_n 0, 1) := by decide +kernel
theorem J_HFinder_lookAt_d20 : decode J_HFinder_lookAt.2.1 20 = .ok (.getfield 66, 3) := by decide +kernel
theorem J_HFinder_lookAt_d23 : decode J_HFinder_lookAt.2.1 23 = .ok (.imul, 1) := by decide +kernel
theorem J_HFinder_lookAt_d24 : decode J_HFinder_lookAt.2.1 24 = .ok (.iadd, 1) := by decide +kernel
theorem J_HFinder_lookAt_d25 : decode J_HFinder_lookAt.2.1 25 = .ok (.aload_n 0, 1) := by decide +kernel
theorem J_HFinder_lookAt_d26 : decode J_HFinder_lookAt.2.1 26 = .ok (.getfield 37, 3) := by decide +kernel
theorem J_HFinder_lookAt_d29 : decode J_HFinder_lookAt.2.1 29 = .ok (.getfield 54, 3) := by decide +kernel
theorem J_HFinder_lookAt_d32 : decode J_HFinder_lookAt.2.1 32 = .ok (.if_icmp .gt 22, 3) := by decide +kernel
theorem J_HFinder_lookAt_d35 : decode J_HFinder_lookAt.2.1 35 = .ok (.iload_n 2, 1) := by decide +kernel
theorem J_HFinder_lookAt_d36 : decode J_HFinder_lookAt.2.1 36 = .ok (.iload 5, 2) := by decide +kernel
theorem J_HFinder_lookAt_d38 : decode J_HFinder_lookAt.2.1 38 = .ok (.aload_n 0, 1) := by decide +kernel
theorem J_HFinder_lookAt_d39 : decode J_HFinder_lookAt.2.1 39 = .ok (.getfield 66, 3) := by decide +kernel
theorem J_HFinder_lookAt_d42 : decode J_HFinder_lookAt.2.1 42 = .ok (.imul, 1) := by decide +kernel
theorem J_HFinder_lookAt_d43 : decode J_HFinder_lookAt.2.1 43 = .ok (.iadd, 1) := by decide +kernel
theorem J_HFinder_lookAt_d44 : decode J_HFinder_lookAt.2.1 44 = .ok (.aload_n 0, 1) := by decide +kernel
theorem J_HFinder_lookAt_d45 : decode J_HFinder_lookAt.2.1 45 = .ok (.getfield 37, 3) := by decide +kernel
theorem J_HFinder_lookAt_d48 : decode J_HFinder_lookAt.2.1 48 = .ok (.getfield 57, 3) := by decide +kernel
theorem J_HFinder_lookAt_d51 : decode J_HFinder_lookAt.2.1 51 = .ok (.if_icmp .le 5, 3) := by decide +kernel
theorem J_HFinder_lookAt_d54 : decode J_HFinder_lookAt.2.1 54 = .ok (.iconst 1, 1) := by decide +kernel
theorem J_HFinder_lookAt_d55 : decode J_HFinder_lookAt.2.1 55 = .ok (.ireturn, 1) := by decide +kernel
theorem J_HFinder_lookAt_d56 : decode J_HFinder_lookAt.2.1 56 = .ok (.iload 5, 2) := by decide +kernel
theorem J_HFinder_lookAt_d58 : decode J_HFinder_lookAt.2.1 58 = .ok (.bipush 7, 2) := by decide +kernel
theorem J_HFinder_lookAt_d60 : decode J_HFinder_lookAt.2.1 60 = .ok (.isub, 1) := by decide +kernel
theorem J_HFinder_lookAt_d61 : decode J_HFinder_lookAt.2.1 61 = .ok (.aload_n 0, 1) := by decide +kernel
theorem J_HFinder_lookAt_d62 : decode J_HFinder_lookAt.2.1 62 = .ok (.getfield 66, 3) := by decide +kernel
theorem J_HFinder_lookAt_d65 : decode J_HFinder_lookAt.2.1 65 = .ok (.imul, 1) := by decide +kernel
theorem J_HFinder_lookAt_d66 : decode J_HFinder_lookAt.2.1 66 = .ok (.istore 6, 2) := by decide +kernel
theorem J_HFinder_lookAt_d68 : decode J_HFinder_lookAt.2.1 68 = .ok (.iconst 0, 1) := by decide +kernel
theorem J_HFinder_lookAt_d69 : decode J_HFinder_lookAt.2.1 69 = .ok (.istore 7, 2) := by decide +kernel
theorem J_HFinder_lookAt_d71 : decode J_HFinder_lookAt.2.1 71 = .ok (.iconst 0, 1) := by decide +kernel
theorem J_HFinder_lookAt_d72 : decode J_HFinder_lookAt.2.1 72 = .ok (.istore 8, 2) := by decide +kernel
theorem J_HFinder_lookAt_d74 : decode J_HFinder_lookAt.2.1 74 = .ok (.iload 8, 2) := by decide +kernel
theorem J_HFinder_lookAt_d76 : decode J_HFinder_lookAt.2.1 76 = .ok (.iconst 4, 1) := by decide +kernel
theorem J_HFinder_lookAt_d77 : decode J_HFinder_lookAt.2.1 77 = .ok (.if_icmp .ge 85, 3) := by decide +kernel
theorem J_HFinder_lookAt_d80 : decode J_HFinder_lookAt.2.1 80 = .ok (.aload_n 0, 1) := by decide +kernel
theorem J_HFinder_lookAt_d81 : decode J_HFinder_lookAt.2.1 81 = .ok (.getfield 34, 3) := by decide +kernel
theorem J_HFinder_lookAt_d84 : decode J_HFinder_lookAt.2.1 84 = .ok (.iload 8, 2) := by decide +kernel
theorem J_HFinder_lookAt_d86 : decode J_HFinder_lookAt.2.1 86 = .ok (.aload_n 0, 1) := by decide +kernel
theorem J_HFinder_lookAt_d87 : decode J_HFinder_lookAt.2.1 87 = .ok (.getfield 19, 3) := by decide +kernel
theorem J_HFinder_lookAt_d90 : decode J_HFinder_lookAt.2.1 90 = .ok (.iload_n 2, 1) := by decide +kernel
theorem J_HFinder_lookAt_d91 : decode J_HFinder_lookAt.2.1 91 = .ok (.iload 6, 2) := by decide +kernel
theorem J_HFinder_lookAt_d93 : decode J_HFinder_lookAt.2.1 93 = .ok (.getstatic 97, 3) := by decide +kernel
theorem J_HFinder_lookAt_d96 : decode J_HFinder_lookAt.2.1 96 = .ok (.iload 8, 2) := by decide +kernel
theorem J_HFinder_lookAt_d98 : decode J_HFinder_lookAt.2.1 98 = .ok (.iaload, 1) := by decide +kernel
theorem J_HFinder_lookAt_d99 : decode J_HFinder_lookAt.2.1 99 = .ok (.imul, 1) := by decide +kernel
theorem J_HFinder_lookAt_d100 : decode J_HFinder_lookAt.2.1 100 = .ok (.iadd, 1) := by decide +kernel
theorem J_HFinder_lookAt_d101 : decode J_HFinder_lookAt.2.1 101 = .ok (.sipush 512, 3) := by decide +kernel
theorem J_HFinder_lookAt_d104 : decode J_HFinder_lookAt.2.1 104 = .ok (.imul, 1) := by decide +kernel
theorem J_HFinder_lookAt_d105 : decode J_HFinder_lookAt.2.1 105 = .ok (.iload_n 1, 1) := by decide +kernel
theorem J_HFinder_lookAt_d106 : decode J_HFinder_lookAt.2.1 106 = .ok (.iadd, 1) := by decide +kernel
theorem J_HFinder_lookAt_d107 : decode J_HFinder_lookAt.2.1 107 = .ok (.iload 6, 2) := by decide +kernel
theorem J_HFinder_lookAt_d109 : decode J_HFinder_lookAt.2.1 109 = .ok (.getstatic 94, 3) := by decide +kernel
theorem J_HFinder_lookAt_d112 : decode J_HFinder_lookAt.2.1 112 = .ok (.iload 8, 2) := by decide +kernel
theorem J_HFinder_lookAt_d114 : decode J_HFinder_lookAt.2.1 114 = .ok (.iaload, 1) := by decide +kernel
theorem J_HFinder_lookAt_d115 : decode J_HFinder_lookAt.2.1 115 = .ok (.imul, 1) := by decide +kernel
theorem J_HFinder_lookAt_d116 : decode J_HFinder_lookAt.2.1 116 = .ok (.iadd, 1) := by decide +kernel
theorem J_HFinder_lookAt_d117 : decode J_HFinder_lookAt.2.1 117 = .ok (.saload, 1) := by decide +kernel
theorem J_HFinder_lookAt_d118 : decode J_HFinder_lookAt.2.1 118 = .ok (.iastore, 1) := by decide +kernel
theorem J_HFinder_lookAt_d119 : decode J_HFinder_lookAt.2.1 119 = .ok (.iload 7, 2) := by decide +kernel
theorem J_HFinder_lookAt_d121 : decode J_HFinder_lookAt.2.1 121 = .ok (.aload_n 0, 1) := by decide +kernel
theorem J_HFinder_lookAt_d122 : decode J_HFinder_lookAt.2.1 122 = .ok (.getfield 34, 3) := by decide +kernel
theorem J_HFinder_lookAt_d125 : decode J_HFinder_lookAt.2.1 125 = .ok (.iload 8, 2) := by decide +kernel
theorem J_HFinder_lookAt_d127 : decode J_HFinder_lookAt.2.1 127 = .ok (.iaload, 1) := by decide +kernel
theorem J_HFinder_lookAt_d128 : decode J_HFinder_lookAt.2.1 128 = .ok (.iadd, 1) := by decide +kernel
theorem J_HFinder_lookAt_d129 : decode J_HFinder_lookAt.2.1 129 = .ok (.istore 7, 2) := by decide +kernel
theorem J_HFinder_lookAt_d131 : decode J_HFinder_lookAt.2.1 131 = .ok (.iload 8, 2) := by decide +kernel
theorem J_HFinder_lookAt_d133 : decode J_HFinder_lookAt.2.1 133 = .ok (.iload 4, 2) := by decide +kernel
theorem J_HFinder_lookAt_d135 : decode J_HFinder_lookAt.2.1 135 = .ok (.if_icmp .ge 21, 3) := by decide +kernel
theorem J_HFinder_lookAt_d138 : decode J_HFinder_lookAt.2.1 138 = .ok (.aload_n 0, 1) := by decide +kernel
theorem J_HFinder_lookAt_d139 : decode J_HFinder_lookAt.2.1 139 = .ok (.getfield 34, 3) := by decide +kernel
theorem J_HFinder_lookAt_d142 : decode J_HFinder_lookAt.2.1 142 = .ok (.iload 8, 2) := by decide +kernel
theorem J_HFinder_lookAt_d144 : decode J_HFinder_lookAt.2.1 144 = .ok (.iaload, 1) := by decide +kernel
theorem J_HFinder_lookAt_d145 : decode J_HFinder_lookAt.2.1 145 = .ok (.aload_n 0, 1) := by decide +kernel
theorem J_HFinder_lookAt_d146 : decode J_HFinder_lookAt.2.1 146 = .ok (.getfield 48, 3) := by decide +kernel
theorem J_HFinder_lookAt_d149 : decode J_HFinder_lookAt.2.1 149 = .ok (.iconst 3, 1) := by decide +kernel
theorem J_HFinder_lookAt_d150 : decode J_HFinder_lookAt.2.1 150 = .ok (.idiv, 1) := by decide +kernel
theorem J_HFinder_lookAt_d151 : decode J_HFinder_lookAt.2.1 151 = .ok (.if_icmp .gt 5, 3) := by decide +kernel
theorem J_HFinder_lookAt_d154 : decode J_HFinder_lookAt.2.1 154 = .ok (.iconst 1, 1) := by decide +kernel
theorem J_HFinder_lookAt_d155 : decode J_HFinder_lookAt.2.1 155 = .ok (.ireturn, 1) := by decide +kernel
theorem J_HFinder_lookAt_d156 : decode J_HFinder_lookAt.2.1 156 = .ok (.iinc 8 1, 3) := by decide +kernel
theorem J_HFinder_lookAt_d159 : decode J_HFinder_lookAt.2.1 159 = .ok (.goto (-85), 3) := by decide +kernel
theorem J_HFinder_lookAt_d162 : decode J_HFinder_lookAt.2.1 162 = .ok (.iconst 0, 1) := by decide +kernel
theorem J_HFinder_lookAt_d163 : decode J_HFinder_lookAt.2.1 163 = .ok (.istore 8, 2) := by decide +kernel
theorem J_HFinder_lookAt_d165 : decode J_HFinder_lookAt.2.1 165 = .ok (.iload 8, 2) := by decide +kernel
theorem J_HFinder_lookAt_d167 : decode J_HFinder_lookAt.2.1 167 = .ok (.iconst 4, 1) := by decide +kernel
theorem J_HFinder_lookAt_d168 : decode J_HFinder_lookAt.2.1 168 = .ok (.if_icmp .ge 71, 3) := by decide +kernel
theorem J_HFinder_lookAt_d171 : decode J_HFinder_lookAt.2.1 171 = .ok (.iload 7, 2) := by decide +kernel
theorem J_HFinder_lookAt_d173 : decode J_HFinder_lookAt.2.1 173 = .ok (.aload_n 0, 1) := by decide +kernel
theorem J_HFinder_lookAt_d174 : decode J_HFinder_lookAt.2.1 174 = .ok (.getfield 34, 3) := by decide +kernel
theorem J_HFinder_lookAt_d177 : decode J_HFinder_lookAt.2.1 177 = .ok (.iconst 3, 1) := by decide +kernel
theorem J_HFinder_lookAt_d178 : decode J_HFinder_lookAt.2.1 178 = .ok (.iload 8, 2) := by decide +kernel
theorem J_HFinder_lookAt_d180 : decode J_HFinder_lookAt.2.1 180 = .ok (.isub, 1) := by decide +kernel
theorem J_HFinder_lookAt_d181 : decode J_HFinder_lookAt.2.1 181 = .ok (.iaload, 1) := by decide +kernel
theorem J_HFinder_lookAt_d182 : decode J_HFinder_lookAt.2.1 182 = .ok (.isub, 1) := by decide +kernel
theorem J_HFinder_lookAt_d183 : decode J_HFinder_lookAt.2.1 183 = .ok (.istore 9, 2) := by decide +kernel
theorem J_HFinder_lookAt_d185 : decode J_HFinder_lookAt.2.1 185 = .ok (.iload 9, 2) := by decide +kernel
theorem J_HFinder_lookAt_d187 : decode J_HFinder_lookAt.2.1 187 = .ok (.aload_n 0, 1) := by decide +kernel
theorem J_HFinder_lookAt_d188 : decode J_HFinder_lookAt.2.1 188 = .ok (.getfield 48, 3) := by decide +kernel
theorem J_HFinder_lookAt_d191 : decode J_HFinder_lookAt.2.1 191 = .ok (.if_icmp .gt 17, 3) := by decide +kernel
theorem J_HFinder_lookAt_d194 : decode J_HFinder_lookAt.2.1 194 = .ok (.aload_n 0, 1) := by decide +kernel
theorem J_HFinder_lookAt_d195 : decode J_HFinder_lookAt.2.1 195 = .ok (.iload_n 1, 1) := by decide +kernel
theorem J_HFinder_lookAt_d196 : decode J_HFinder_lookAt.2.1 196 = .ok (.iload_n 2, 1) := by decide +kernel
theorem J_HFinder_lookAt_d197 : decode J_HFinder_lookAt.2.1 197 = .ok (.iload 5, 2) := by decide +kernel
theorem J_HFinder_lookAt_d199 : decode J_HFinder_lookAt.2.1 199 = .ok (.iload 8, 2) := by decide +kernel
theorem J_HFinder_lookAt_d201 : decode J_HFinder_lookAt.2.1 201 = .ok (.iload 9, 2) := by decide +kernel
theorem J_HFinder_lookAt_d203 : decode J_HFinder_lookAt.2.1 203 = .ok (.invokevirtual 104, 3) := by decide +kernel
theorem J_HFinder_lookAt_d206 : decode J_HFinder_lookAt.2.1 206 = .ok (.istore 9, 2) := by decide +kernel
theorem J_HFinder_lookAt_d208 : decode J_HFinder_lookAt.2.1 208 = .ok (.iload 9, 2) := by decide +kernel
theorem J_HFinder_lookAt_d210 : decode J_HFinder_lookAt.2.1 210 = .ok (.aload_n 0, 1) := by decide +kernel
theorem J_HFinder_lookAt_d211 : decode J_HFinder_lookAt.2.1 211 = .ok (.getfield 48, 3) := by decide +kernel
theorem J_HFinder_lookAt_d214 : decode J_HFinder_lookAt.2.1 214 = .ok (.if_icmp .gt 19, 3) := by decide +kernel
theorem J_HFinder_lookAt_d217 : decode J_HFinder_lookAt.2.1 217 = .ok (.aload_n 0, 1) := by decide +kernel
theorem J_HFinder_lookAt_d218 : decode J_HFinder_lookAt.2.1 218 = .ok (.iload_n 1, 1) := by decide +kernel
theorem J_HFinder_lookAt_d219 : decode J_HFinder_lookAt.2.1 219 = .ok (.iload_n 2, 1) := by decide +kernel
theorem J_HFinder_lookAt_d220 : decode J_HFinder_lookAt.2.1 220 = .ok (.iload_n 3, 1) := by decide +kernel
theorem J_HFinder_lookAt_d221 : decode J_HFinder_lookAt.2.1 221 = .ok (.iload 8, 2) := by decide +kernel
theorem J_HFinder_lookAt_d223 : decode J_HFinder_lookAt.2.1 223 = .ok (.iload 9, 2) := by decide +kernel
theorem J_HFinder_lookAt_d225 : decode J_HFinder_lookAt.2.1 225 = .ok (.invokevirtual 108, 3) := by decide +kernel
theorem J_HFinder_lookAt_d228 : decode J_HFinder_lookAt.2.1 228 = .ok (.ifCond .ne 5, 3) := by decide +kernel
theorem J_HFinder_lookAt_d231 : decode J_HFinder_lookAt.2.1 231 = .ok (.iconst 0, 1) := by decide +kernel
theorem J_HFinder_lookAt_d232 : decode J_HFinder_lookAt.2.1 232 = .ok (.ireturn, 1) := by decide +kernel
theorem J_HFinder_lookAt_d233 : decode J_HFinder_lookAt.2.1 233 = .ok (.iinc 8 1, 3) := by decide +kernel
theorem J_HFinder_lookAt_d236 : decode J_HFinder_lookAt.2.1 236 = .ok (.goto (-71), 3) := by decide +kernel
theorem J_HFinder_lookAt_d239 : decode J_HFinder_lookAt.2.1 239 = .ok (.iconst 1, 1) := by decide +kernel
theorem J_HFinder_lookAt_d240 : decode J_HFinder_lookAt.2.1 240 = .ok (.ireturn, 1) := by decide +kernel
theorem f_HFinder_lookAt_ok {L : Nat} {xs : Nat → Int32} {dep : Nat} {w : Bool} {p0 : Int32} {p1 : Int32} {p2 : Int32} {p3 : Int32} {M : im_M} {Q : Int32 × im_M → Prop} (hM : lw_S w M) (h : ed (f_HFinder_lookAt p0 p1 p2 p3 M) Q) : ia (tb_G L xs) (dep + 2) J_HFinder_lookAt (rwI w Q) (0, lv_args 0 [.ref 59, .int p0, .int p1, .int p2, .int p3], [], M) := by
  have hS : im_St (tb_G L xs) (dep + 2) J_HFinder_lookAt (ia (tb_G L xs) (dep + 2) J_HFinder_lookAt (rwI w Q)) := ia_St
  unfold f_HFinder_lookAt at h
  have l0 : im_lk (lv_args 0 [.ref 59, .int p0, .int p1, .int p2, .int p3]) 0 = some (.ref 59) := rfl
  have l1 : im_lk (lv_args 0 [.ref 59, .int p0, .int p1, .int p2, .int p3]) 1 = some (.int p0) := rfl
  have l2 : im_lk (lv_args 0 [.ref 59, .int p0, .int p1, .int p2, .int p3]) 2 = some (.int p1) := rfl
  have l3 : im_lk (lv_args 0 [.ref 59, .int p0, .int p1, .int p2, .int p3]) 3 = some (.int p2) := rfl
  have l4 : im_lk (lv_args 0 [.ref 59, .int p0, .int p1, .int p2, .int p3]) 4 = some (.int p3) := rfl
  refine iq_bipush hS 2 J_HFinder_lookAt_d0 (v := 17) (by decide +kernel) rfl ?_
  refine iq_iconst hS 3 J_HFinder_lookAt_d2 (v := 4) (by decide +kernel) rfl ?_
  refine iq_iload_n hS 4 J_HFinder_lookAt_d3 l3 rfl ?_
  refine iq_imul hS 5 J_HFinder_lookAt_d4 rfl ?_
  refine iq_iadd hS 6 J_HFinder_lookAt_d5 rfl ?_
  refine iq_istore hS 8 J_HFinder_lookAt_d6 (by decide) rfl ?_
  refine iq_iload_n hS 9 J_HFinder_lookAt_d8 (lk_1i l1 (by decide)) rfl ?_
  refine iq_if_lt hS 12 J_HFinder_lookAt_d9 (t := 54) rfl (fun q9 => ?_) rfl (fun q9 => ?_)
  · replace h := ed_pos q9 h
    refine iq_iconst hS 55 J_HFinder_lookAt_d54 (v := 1) (by decide +kernel) rfl ?_
    exact iq_iret J_HFinder_lookAt_d55 rfl rfl ⟨_, rfl, hM, ed_some h⟩
  · replace h := ed_neg q9 h
    refine iq_iload_n hS 13 J_HFinder_lookAt_d12 (lk_1i l2 (by decide)) rfl ?_
    refine iq_if_lt hS 16 J_HFinder_lookAt_d13 (t := 54) rfl (fun q13 => ?_) rfl (fun q13 => ?_)
    · replace h := ed_pos q13 h
      refine iq_iconst hS 55 J_HFinder_lookAt_d54 (v := 1) (by decide +kernel) rfl ?_
      exact iq_iret J_HFinder_lookAt_d55 rfl rfl ⟨_, rfl, hM, ed_some h⟩
    · replace h := ed_neg q13 h
      refine iq_iload_n hS 17 J_HFinder_lookAt_d16 (lk_1i l1 (by decide)) rfl ?_
      refine iq_iload hS 19 J_HFinder_lookAt_d17 lk_1s rfl ?_
      refine iq_aload_n hS 20 J_HFinder_lookAt_d19 (lk_1r l0 (by decide)) rfl ?_
      refine iq_getI hS 23 J_HFinder_lookAt_d20 lf_3_66 (Or.inl rfl) (ka_59 hM) rfl ?_
      refine iq_imul hS 24 J_HFinder_lookAt_d23 rfl ?_
      refine iq_iadd hS 25 J_HFinder_lookAt_d24 rfl ?_
      refine iq_aload_n hS 26 J_HFinder_lookAt_d25 (lk_1r l0 (by decide)) rfl ?_
      refine iq_getR hS 29 J_HFinder_lookAt_d26 lf_3_37 (Or.inl ⟨_, rfl⟩) (ka_59 hM) (ra_59_1 hM) rfl ?_
      refine iq_getI hS 32 J_HFinder_lookAt_d29 lf_3_54 (Or.inl rfl) (ka_28 hM) rfl ?_
      refine iq_icmp_gt hS 35 J_HFinder_lookAt_d32 (t := 54) rfl (fun q32 => ?_) rfl (fun q32 => ?_)
      · replace h := ed_pos q32 h
        refine iq_iconst hS 55 J_HFinder_lookAt_d54 (v := 1) (by decide +kernel) rfl ?_
        exact iq_iret J_HFinder_lookAt_d55 rfl rfl ⟨_, rfl, hM, ed_some h⟩
      · replace h := ed_neg q32 h
        refine iq_iload_n hS 36 J_HFinder_lookAt_d35 (lk_1i l2 (by decide)) rfl ?_
        refine iq_iload hS 38 J_HFinder_lookAt_d36 lk_1s rfl ?_
        refine iq_aload_n hS 39 J_HFinder_lookAt_d38 (lk_1r l0 (by decide)) rfl ?_
        refine iq_getI hS 42 J_HFinder_lookAt_d39 lf_3_66 (Or.inl rfl) (ka_59 hM) rfl ?_
        refine iq_imul hS 43 J_HFinder_lookAt_d42 rfl ?_
        refine iq_iadd hS 44 J_HFinder_lookAt_d43 rfl ?_
        refine iq_aload_n hS 45 J_HFinder_lookAt_d44 (lk_1r l0 (by decide)) rfl ?_
        refine iq_getR hS 48 J_HFinder_lookAt_d45 lf_3_37 (Or.inl ⟨_, rfl⟩) (ka_59 hM) (ra_59_1 hM) rfl ?_
        refine iq_getI hS 51 J_HFinder_lookAt_d48 lf_3_57 (Or.inl rfl) (ka_28 hM) rfl ?_
        refine iq_icmp_le hS 54 J_HFinder_lookAt_d51 (t := 56) rfl (fun q51 => ?_) rfl (fun q51 => ?_)
        · replace h := ed_pos q51 h
          refine iq_iload hS 58 J_HFinder_lookAt_d56 lk_1s rfl ?_
          refine iq_bipush hS 60 J_HFinder_lookAt_d58 (v := 7) (by decide +kernel) rfl ?_
          refine iq_isub hS 61 J_HFinder_lookAt_d60 rfl ?_
          refine iq_aload_n hS 62 J_HFinder_lookAt_d61 (lk_1r l0 (by decide)) rfl ?_
          refine iq_getI hS 65 J_HFinder_lookAt_d62 lf_3_66 (Or.inl rfl) (ka_59 hM) rfl ?_
          refine iq_imul hS 66 J_HFinder_lookAt_d65 rfl ?_
          refine iq_istore hS 68 J_HFinder_lookAt_d66 (by decide) rfl ?_
          refine iq_iconst hS 69 J_HFinder_lookAt_d68 (v := 0) (by decide +kernel) rfl ?_
          refine iq_istore hS 71 J_HFinder_lookAt_d69 (by decide) rfl ?_
          refine iq_iconst hS 72 J_HFinder_lookAt_d71 (v := 0) (by decide +kernel) rfl ?_
          refine iq_istore hS 74 J_HFinder_lookAt_d72 (by decide) rfl ?_
          obtain ⟨Q1, hQ1, hR1, h⟩ := bs2_ed h
          have K1 : ∀ (y2 : Int32) (M3 : im_M) (L' : List (Nat × Value)), lw_S w M3 → im_lk L' 0 = some (.ref 59) → im_lk L' 1 = some (.int p0) → im_lk L' 2 = some (.int p1) → im_lk L' 3 = some (.int p2) → im_lk L' 5 = some (.int ((17 : Int32) + ((4 : Int32) * p2))) → im_lk L' 7 = some (.int y2) → Q1 (.inl (y2, M3)) → ia (tb_G L xs) (dep + 2) J_HFinder_lookAt (rwI w Q) (162, L', [], M3) := by
            intro y2 M3 L' hM3 l4 l5 l6 l7 l8 l9 h
            replace h := hQ1 _ _ h
            refine iq_iconst hS 163 J_HFinder_lookAt_d162 (v := 0) (by decide +kernel) rfl ?_
            refine iq_istore hS 165 J_HFinder_lookAt_d163 (by decide) rfl ?_
            obtain ⟨Q10, hQ10, hR10, h⟩ := bs1_ed h
            have K10 : ∀ (M11 : im_M) (L' : List (Nat × Value)), lw_S w M11 → Q10 (.inl M11) → ia (tb_G L xs) (dep + 2) J_HFinder_lookAt (rwI w Q) (239, L', [], M11) := by
              intro M11 L' hM11  h
              replace h := hQ10 _ h
              refine iq_iconst hS 240 J_HFinder_lookAt_d239 (v := 1) (by decide +kernel) rfl ?_
              exact iq_iret J_HFinder_lookAt_d240 rfl rfl ⟨_, rfl, hM11, ed_some h⟩
            obtain ⟨r10, hr10, hq10⟩ := h
            obtain ⟨n10, hn10⟩ := lp_n hr10
            have I10 : ∀ (n : Nat) (x12 : Int32) (M13 : im_M) (L' : List (Nat × Value)), lw_S w M13 → im_lk L' 0 = some (.ref 59) → im_lk L' 1 = some (.int p0) → im_lk L' 2 = some (.int p1) → im_lk L' 3 = some (.int p2) → im_lk L' 5 = some (.int ((17 : Int32) + ((4 : Int32) * p2))) → im_lk L' 7 = some (.int y2) → im_lk L' 8 = some (.int x12) → lpn (uc2 (f_HFinder_lookAt_L165 p0 p1 p2 ((17 : Int32) + ((4 : Int32) * p2)) y2)) n (x12, M13) = some r10 → ia (tb_G L xs) (dep + 2) J_HFinder_lookAt (rwI w Q) (165, L', [], M13) := by
              intro n
              induction n with
              | zero => intro x12 M13 L' hM13 l14 l15 l16 l17 l18 l19 l20 hn; exact (lpn_0 hn).elim
              | succ n ih =>
                intro x12 M13 L' hM13 l14 l15 l16 l17 l18 l19 l20 hn
                have h := lpn_ed2 hn
                unfold f_HFinder_lookAt_L165 at h
                refine iq_iload hS 167 J_HFinder_lookAt_d165 l20 rfl ?_
                refine iq_iconst hS 168 J_HFinder_lookAt_d167 (v := 4) (by decide +kernel) rfl ?_
                refine iq_icmp_ge hS 171 J_HFinder_lookAt_d168 (t := 239) rfl (fun q168 => ?_) rfl (fun q168 => ?_)
                · replace h := ed_pos q168 h
                  exact K10 _ _ hM13  (lq_r h hq10)
                · replace h := ed_neg q168 h
                  refine iq_iload hS 173 J_HFinder_lookAt_d171 l19 rfl ?_
                  refine iq_aload_n hS 174 J_HFinder_lookAt_d173 l14 rfl ?_
                  refine iq_getR hS 177 J_HFinder_lookAt_d174 lf_3_34 (Or.inr ⟨_, rfl⟩) (ka_59 hM13) (ra_59_7 hM13) rfl ?_
                  refine iq_iconst hS 178 J_HFinder_lookAt_d177 (v := 3) (by decide +kernel) rfl ?_
                  refine iq_iload hS 180 J_HFinder_lookAt_d178 l20 rfl ?_
                  refine iq_isub hS 181 J_HFinder_lookAt_d180 rfl ?_
                  obtain ⟨g181, h⟩ := ed_gd h
                  refine iq_iaload hS 182 J_HFinder_lookAt_d181 ⟨(ka_65 hM13).1, (ka_65 hM13).2, g181.1, ix_lt (kl_65 hM13) g181.2⟩ rfl ?_
                  refine iq_isub hS 183 J_HFinder_lookAt_d182 rfl ?_
                  refine iq_istore hS 185 J_HFinder_lookAt_d183 (by decide) rfl ?_
                  refine iq_iload hS 187 J_HFinder_lookAt_d185 lk_1s rfl ?_
                  refine iq_aload_n hS 188 J_HFinder_lookAt_d187 (lk_1r l14 (by decide)) rfl ?_
                  refine iq_getI hS 191 J_HFinder_lookAt_d188 lf_3_48 (Or.inl rfl) (ka_59 hM13) rfl ?_
                  obtain ⟨Q21, hQ21, h⟩ := bd1_ed h
                  have J21 : ∀ (y23 : Int32) (L' : List (Nat × Value)), im_lk L' 0 = some (.ref 59) → im_lk L' 1 = some (.int p0) → im_lk L' 2 = some (.int p1) → im_lk L' 3 = some (.int p2) → im_lk L' 5 = some (.int ((17 : Int32) + ((4 : Int32) * p2))) → im_lk L' 7 = some (.int y2) → im_lk L' 8 = some (.int x12) → im_lk L' 9 = some (.int y23) → Q21 y23 → ia (tb_G L xs) (dep + 2) J_HFinder_lookAt (rwI w Q) (208, L', [], M13) := by
                    intro y23 L' l24 l25 l26 l27 l28 l29 l30 l31 h
                    replace h := hQ21 _ h
                    refine iq_iload hS 210 J_HFinder_lookAt_d208 l31 rfl ?_
                    refine iq_aload_n hS 211 J_HFinder_lookAt_d210 l24 rfl ?_
                    refine iq_getI hS 214 J_HFinder_lookAt_d211 lf_3_48 (Or.inl rfl) (ka_59 hM13) rfl ?_
                    obtain ⟨k32, Q32, hQ32, hk32, h⟩ := jn1_ed h
                    have J32 : ∀ (M34 : im_M) (L' : List (Nat × Value)), lw_S w M34 → im_lk L' 0 = some (.ref 59) → im_lk L' 1 = some (.int p0) → im_lk L' 2 = some (.int p1) → im_lk L' 3 = some (.int p2) → im_lk L' 5 = some (.int ((17 : Int32) + ((4 : Int32) * p2))) → im_lk L' 7 = some (.int y2) → im_lk L' 8 = some (.int x12) → Q32 M34 → ia (tb_G L xs) (dep + 2) J_HFinder_lookAt (rwI w Q) (233, L', [], M34) := by
                      intro M34 L' hM34 l35 l36 l37 l38 l39 l40 l41 h
                      replace h := hQ32 _ h
                      refine iq_iincv hS 236 J_HFinder_lookAt_d233 (c := 1) (by decide +kernel) l41 (by decide) rfl ?_
                      refine iq_goto hS J_HFinder_lookAt_d236 (t := 165) rfl ?_
                      exact ih _ _ _ hM34 (lk_1r l35 (by decide)) (lk_1i l36 (by decide)) (lk_1i l37 (by decide)) (lk_1i l38 (by decide)) (lk_1i l39 (by decide)) (lk_1i l40 (by decide)) lk_1s (lq_l h)
                    refine iq_icmp_gt hS 217 J_HFinder_lookAt_d214 (t := 233) rfl (fun q214 => ?_) rfl (fun q214 => ?_)
                    · replace h := ed_pos q214 h
                      exact J32 _ _ hM13 l24 l25 l26 l27 l28 l29 l30 (hk32 _ h)
                    · replace h := ed_neg q214 h
                      refine iq_aload_n hS 218 J_HFinder_lookAt_d217 l24 rfl ?_
                      refine iq_iload_n hS 219 J_HFinder_lookAt_d218 l25 rfl ?_
                      refine iq_iload_n hS 220 J_HFinder_lookAt_d219 l26 rfl ?_
                      refine iq_iload_n hS 221 J_HFinder_lookAt_d220 l27 rfl ?_
                      refine iq_iload hS 223 J_HFinder_lookAt_d221 l30 rfl ?_
                      refine iq_iload hS 225 J_HFinder_lookAt_d223 l31 rfl ?_
                      obtain ⟨Q33, hQ33, h⟩ := bd2_ed h
                      refine iq_cwI hS 228 J_HFinder_lookAt_d225 rfl (pr_inst (vs := [_, _, _, _, _]) lc_3_108 lT_213 rfl rfl (by decide) (by decide) rfl (Nat.le_of_ble_eq_true rfl) (Nat.le_of_ble_eq_true rfl) (fun _ => Or.inl (pr_b (ka_59 hM13) (by decide) rfl))) (f_HFinder_add_ok (dep := dep + 1) hM13 h) rfl ?_
                      intro x33 M33 hM33 h
                      replace h := hQ33 _ _ h
                      refine iq_if_ne hS 231 J_HFinder_lookAt_d228 (t := 233) rfl (fun q228 => ?_) rfl (fun q228 => ?_)
                      · replace h := ed_pos q228 h
                        exact J32 _ _ hM33 l24 l25 l26 l27 l28 l29 l30 (hk32 _ h)
                      · replace h := ed_neg q228 h
                        refine iq_iconst hS 232 J_HFinder_lookAt_d231 (v := 0) (by decide +kernel) rfl ?_
                        exact iq_iret J_HFinder_lookAt_d232 rfl rfl ⟨_, rfl, hM33, ed_some (hR10 _ (lq_r h hq10))⟩
                  refine iq_icmp_gt hS 194 J_HFinder_lookAt_d191 (t := 208) rfl (fun q191 => ?_) rfl (fun q191 => ?_)
                  · replace h := ed_pos q191 h
                    exact J21 _ _ (lk_1r l14 (by decide)) (lk_1i l15 (by decide)) (lk_1i l16 (by decide)) (lk_1i l17 (by decide)) (lk_1i l18 (by decide)) (lk_1i l19 (by decide)) (lk_1i l20 (by decide)) lk_1s (ed_some h)
                  · replace h := ed_neg q191 h
                    refine iq_aload_n hS 195 J_HFinder_lookAt_d194 (lk_1r l14 (by decide)) rfl ?_
                    refine iq_iload_n hS 196 J_HFinder_lookAt_d195 (lk_1i l15 (by decide)) rfl ?_
                    refine iq_iload_n hS 197 J_HFinder_lookAt_d196 (lk_1i l16 (by decide)) rfl ?_
                    refine iq_iload hS 199 J_HFinder_lookAt_d197 (lk_1i l18 (by decide)) rfl ?_
                    refine iq_iload hS 201 J_HFinder_lookAt_d199 (lk_1i l20 (by decide)) rfl ?_
                    refine iq_iload hS 203 J_HFinder_lookAt_d201 lk_1s rfl ?_
                    obtain ⟨Q22, hQ22, h⟩ := bd1_ed h
                    refine iq_cpI hS 206 J_HFinder_lookAt_d203 rfl (pr_inst (vs := [_, _, _, _, _]) lc_3_104 lT_210 rfl rfl (by decide) (by decide) rfl (Nat.le_of_ble_eq_true rfl) (Nat.le_of_ble_eq_true rfl) (fun _ => Or.inl (pr_b (ka_59 hM13) (by decide) rfl))) (f_HFinder_wrongAt_ok (dep := dep + 0) hM13 h) rfl ?_
                    intro x22 h
                    replace h := hQ22 _ h
                    refine iq_istore hS 208 J_HFinder_lookAt_d206 (by decide) rfl ?_
                    exact J21 _ _ (lk_1r (lk_1r l14 (by decide)) (by decide)) (lk_1i (lk_1i l15 (by decide)) (by decide)) (lk_1i (lk_1i l16 (by decide)) (by decide)) (lk_1i (lk_1i l17 (by decide)) (by decide)) (lk_1i (lk_1i l18 (by decide)) (by decide)) (lk_1i (lk_1i l19 (by decide)) (by decide)) (lk_1i (lk_1i l20 (by decide)) (by decide)) lk_1s (ed_some h)
            exact I10 n10 _ _ _ hM3 (lk_1r l4 (by decide)) (lk_1i l5 (by decide)) (lk_1i l6 (by decide)) (lk_1i l7 (by decide)) (lk_1i l8 (by decide)) (lk_1i l9 (by decide)) lk_1s hn10
          obtain ⟨r1, hr1, hq1⟩ := h
          obtain ⟨n1, hn1⟩ := lp_n hr1
          have I1 : ∀ (n : Nat) (x42 : Int32) (x43 : Int32) (M44 : im_M) (L' : List (Nat × Value)), lw_S w M44 → im_lk L' 0 = some (.ref 59) → im_lk L' 1 = some (.int p0) → im_lk L' 2 = some (.int p1) → im_lk L' 3 = some (.int p2) → im_lk L' 4 = some (.int p3) → im_lk L' 5 = some (.int ((17 : Int32) + ((4 : Int32) * p2))) → im_lk L' 6 = some (.int ((((17 : Int32) + ((4 : Int32) * p2)) - 7) * (im_i M 59 9))) → im_lk L' 7 = some (.int x42) → im_lk L' 8 = some (.int x43) → lpn (uc3 (f_HFinder_lookAt_L74 p0 p1 p2 p3 ((17 : Int32) + ((4 : Int32) * p2)) ((((17 : Int32) + ((4 : Int32) * p2)) - 7) * (im_i M 59 9)))) n (x42, x43, M44) = some r1 → ia (tb_G L xs) (dep + 2) J_HFinder_lookAt (rwI w Q) (74, L', [], M44) := by
            intro n
            induction n with
            | zero => intro x42 x43 M44 L' hM44 l45 l46 l47 l48 l49 l50 l51 l52 l53 hn; exact (lpn_0 hn).elim
            | succ n ih =>
              intro x42 x43 M44 L' hM44 l45 l46 l47 l48 l49 l50 l51 l52 l53 hn
              have h := lpn_ed3 hn
              unfold f_HFinder_lookAt_L74 at h
              refine iq_iload hS 76 J_HFinder_lookAt_d74 l53 rfl ?_
              refine iq_iconst hS 77 J_HFinder_lookAt_d76 (v := 4) (by decide +kernel) rfl ?_
              refine iq_icmp_ge hS 80 J_HFinder_lookAt_d77 (t := 162) rfl (fun q77 => ?_) rfl (fun q77 => ?_)
              · replace h := ed_pos q77 h
                exact K1 _ _ _ hM44 l45 l46 l47 l48 l50 l52 (lq_r h hq1)
              · replace h := ed_neg q77 h
                refine iq_aload_n hS 81 J_HFinder_lookAt_d80 l45 rfl ?_
                refine iq_getR hS 84 J_HFinder_lookAt_d81 lf_3_34 (Or.inr ⟨_, rfl⟩) (ka_59 hM44) (ra_59_7 hM44) rfl ?_
                refine iq_iload hS 86 J_HFinder_lookAt_d84 l53 rfl ?_
                refine iq_aload_n hS 87 J_HFinder_lookAt_d86 l45 rfl ?_
                refine iq_getR hS 90 J_HFinder_lookAt_d87 lf_3_19 (Or.inr ⟨_, rfl⟩) (ka_59 hM44) (ra_59_3 hM44) rfl ?_
                refine iq_iload_n hS 91 J_HFinder_lookAt_d90 l47 rfl ?_
                refine iq_iload hS 93 J_HFinder_lookAt_d91 l51 rfl ?_
                refine iq_getstatic hS 96 J_HFinder_lookAt_d93 gs_3_97 rfl ?_
                refine iq_iload hS 98 J_HFinder_lookAt_d96 l53 rfl ?_
                obtain ⟨g98, h⟩ := ed_gd h
                refine iq_xl_14 hS 99 J_HFinder_lookAt_d98 hM44 g98 rfl ?_
                refine iq_imul hS 100 J_HFinder_lookAt_d99 rfl ?_
                refine iq_iadd hS 101 J_HFinder_lookAt_d100 rfl ?_
                refine iq_sipush hS 104 J_HFinder_lookAt_d101 (v := 512) (by decide +kernel) rfl ?_
                refine iq_imul hS 105 J_HFinder_lookAt_d104 rfl ?_
                refine iq_iload_n hS 106 J_HFinder_lookAt_d105 l46 rfl ?_
                refine iq_iadd hS 107 J_HFinder_lookAt_d106 rfl ?_
                refine iq_iload hS 109 J_HFinder_lookAt_d107 l51 rfl ?_
                refine iq_getstatic hS 112 J_HFinder_lookAt_d109 gs_3_94 rfl ?_
                refine iq_iload hS 114 J_HFinder_lookAt_d112 l53 rfl ?_
                obtain ⟨g114, h⟩ := ed_gd h
                refine iq_xl_13 hS 115 J_HFinder_lookAt_d114 hM44 g114 rfl ?_
                refine iq_imul hS 116 J_HFinder_lookAt_d115 rfl ?_
                refine iq_iadd hS 117 J_HFinder_lookAt_d116 rfl ?_
                obtain ⟨g117, h⟩ := ed_gd h
                refine iq_saload hS 118 J_HFinder_lookAt_d117 ⟨(ka_61 hM44).1, (ka_61 hM44).2, g117.1, ix_lt (kl_61 hM44) g117.2⟩ rfl ?_
                obtain ⟨g118, h⟩ := ed_gd h
                refine iq_iastore hS 119 J_HFinder_lookAt_d118 ⟨(ka_65 hM44).1, (ka_65 hM44).2, g118.1, ix_lt (kl_65 hM44) g118.2⟩ rfl ?_
                refine iq_iload hS 121 J_HFinder_lookAt_d119 l52 rfl ?_
                refine iq_aload_n hS 122 J_HFinder_lookAt_d121 l45 rfl ?_
                refine iq_getR hS 125 J_HFinder_lookAt_d122 lf_3_34 (Or.inr ⟨_, rfl⟩) (ka_59 hM44) (ra_59_7 hM44) rfl ?_
                refine iq_iload hS 127 J_HFinder_lookAt_d125 l53 rfl ?_
                obtain ⟨g127, h⟩ := ed_gd h
                refine iq_iaload hS 128 J_HFinder_lookAt_d127 ⟨(ka_65 hM44).1, (ka_65 hM44).2, g127.1, ix_lt (kl_65 hM44) g127.2⟩ rfl ?_
                refine iq_iadd hS 129 J_HFinder_lookAt_d128 rfl ?_
                refine iq_istore hS 131 J_HFinder_lookAt_d129 (by decide) rfl ?_
                refine iq_iload hS 133 J_HFinder_lookAt_d131 (lk_1i l53 (by decide)) rfl ?_
                refine iq_iload hS 135 J_HFinder_lookAt_d133 (lk_1i l49 (by decide)) rfl ?_
                obtain ⟨k54, Q54, hQ54, hk54, h⟩ := jn0_ed h
                have J54 : ∀  (L' : List (Nat × Value)), im_lk L' 0 = some (.ref 59) → im_lk L' 1 = some (.int p0) → im_lk L' 2 = some (.int p1) → im_lk L' 3 = some (.int p2) → im_lk L' 4 = some (.int p3) → im_lk L' 5 = some (.int ((17 : Int32) + ((4 : Int32) * p2))) → im_lk L' 6 = some (.int ((((17 : Int32) + ((4 : Int32) * p2)) - 7) * (im_i M 59 9))) → im_lk L' 7 = some (.int (x42 + (im_i (im_setI M44 65 (Int32.toNatClampNeg x43) (im_i M44 61 (Int32.toNatClampNeg ((((p1 + (((((17 : Int32) + ((4 : Int32) * p2)) - 7) * (im_i M 59 9)) * (xa_14 x43))) * 512) + p0) + (((((17 : Int32) + ((4 : Int32) * p2)) - 7) * (im_i M 59 9)) * (xa_13 x43)))))) 65 (Int32.toNatClampNeg x43)))) → im_lk L' 8 = some (.int x43) → Q54 () → ia (tb_G L xs) (dep + 2) J_HFinder_lookAt (rwI w Q) (156, L', [], (im_setI M44 65 (Int32.toNatClampNeg x43) (im_i M44 61 (Int32.toNatClampNeg ((((p1 + (((((17 : Int32) + ((4 : Int32) * p2)) - 7) * (im_i M 59 9)) * (xa_14 x43))) * 512) + p0) + (((((17 : Int32) + ((4 : Int32) * p2)) - 7) * (im_i M 59 9)) * (xa_13 x43))))))) := by
                  intro  L' l55 l56 l57 l58 l59 l60 l61 l62 l63 h
                  replace h := hQ54  h
                  refine iq_iincv hS 159 J_HFinder_lookAt_d156 (c := 1) (by decide +kernel) l63 (by decide) rfl ?_
                  refine iq_goto hS J_HFinder_lookAt_d159 (t := 74) rfl ?_
                  exact ih _ _ _ _ hM44 (lk_1r l55 (by decide)) (lk_1i l56 (by decide)) (lk_1i l57 (by decide)) (lk_1i l58 (by decide)) (lk_1i l59 (by decide)) (lk_1i l60 (by decide)) (lk_1i l61 (by decide)) (lk_1i l62 (by decide)) lk_1s (lq_l h)
                refine iq_icmp_ge hS 138 J_HFinder_lookAt_d135 (t := 156) rfl (fun q135 => ?_) rfl (fun q135 => ?_)
                · replace h := ed_pos q135 h
                  exact J54  _ (lk_1r l45 (by decide)) (lk_1i l46 (by decide)) (lk_1i l47 (by decide)) (lk_1i l48 (by decide)) (lk_1i l49 (by decide)) (lk_1i l50 (by decide)) (lk_1i l51 (by decide)) lk_1s (lk_1i l53 (by decide)) (hk54  h)
                · replace h := ed_neg q135 h
                  refine iq_aload_n hS 139 J_HFinder_lookAt_d138 (lk_1r l45 (by decide)) rfl ?_
                  refine iq_getR hS 142 J_HFinder_lookAt_d139 lf_3_34 (Or.inr ⟨_, rfl⟩) (ka_59 hM44) (ra_59_7 hM44) rfl ?_
                  refine iq_iload hS 144 J_HFinder_lookAt_d142 (lk_1i l53 (by decide)) rfl ?_
                  obtain ⟨g144, h⟩ := ed_gd h
                  refine iq_iaload hS 145 J_HFinder_lookAt_d144 ⟨(ka_65 hM44).1, (ka_65 hM44).2, g144.1, ix_lt (kl_65 hM44) g144.2⟩ rfl ?_
                  refine iq_aload_n hS 146 J_HFinder_lookAt_d145 (lk_1r l45 (by decide)) rfl ?_
                  refine iq_getI hS 149 J_HFinder_lookAt_d146 lf_3_48 (Or.inl rfl) (ka_59 hM44) rfl ?_
                  refine iq_iconst hS 150 J_HFinder_lookAt_d149 (v := 3) (by decide +kernel) rfl ?_
                  refine iq_idiv hS 151 J_HFinder_lookAt_d150 (by decide) rfl ?_
                  refine iq_icmp_gt hS 154 J_HFinder_lookAt_d151 (t := 156) rfl (fun q151 => ?_) rfl (fun q151 => ?_)
                  · replace h := ed_pos q151 h
                    exact J54  _ (lk_1r l45 (by decide)) (lk_1i l46 (by decide)) (lk_1i l47 (by decide)) (lk_1i l48 (by decide)) (lk_1i l49 (by decide)) (lk_1i l50 (by decide)) (lk_1i l51 (by decide)) lk_1s (lk_1i l53 (by decide)) (hk54  h)
                  · replace h := ed_neg q151 h
                    refine iq_iconst hS 155 J_HFinder_lookAt_d154 (v := 1) (by decide +kernel) rfl ?_
                    exact iq_iret J_HFinder_lookAt_d155 rfl rfl ⟨_, rfl, hM44, ed_some (hR1 _ (lq_r h hq1))⟩
          exact I1 n1 _ _ _ _ hM (lk_1r (lk_1r (lk_1r (lk_1r l0 (by decide)) (by decide)) (by decide)) (by decide)) (lk_1i (lk_1i (lk_1i (lk_1i l1 (by decide)) (by decide)) (by decide)) (by decide)) (lk_1i (lk_1i (lk_1i (lk_1i l2 (by decide)) (by decide)) (by decide)) (by decide)) (lk_1i (lk_1i (lk_1i (lk_1i l3 (by decide)) (by decide)) (by decide)) (by decide)) (lk_1i (lk_1i (lk_1i (lk_1i l4 (by decide)) (by decide)) (by decide)) (by decide)) (lk_1i (lk_1i (lk_1i lk_1s (by decide)) (by decide)) (by decide)) (lk_1i (lk_1i lk_1s (by decide)) (by decide)) (lk_1i lk_1s (by decide)) lk_1s hn1
        · replace h := ed_neg q51 h
          refine iq_iconst hS 55 J_HFinder_lookAt_d54 (v := 1) (by decide +kernel) rfl ?_
          exact iq_iret J_HFinder_lookAt_d55 rfl rfl ⟨_, rfl, hM, ed_some h⟩
noncomputable def f_HFinder_lookFrom_L43 (v8 : Int32) (v9 : Int32) (v10 : Int32) (v11 : Int32) (v12 : Int32) (x13 : Int32) (M14 : im_M) : Option ((Int32 × im_M) ⊕ ((im_M) ⊕ (Int32 × im_M))) := if 4 ≤ x13 then some (.inr (.inl M14)) else gd (inb x13 4) <| gd (inb x13 4) <| bd2 (f_HFinder_lookAt (v8 - (v12 * (xa_13 x13))) (v9 - (v12 * (xa_14 x13))) v11 x13 M14) fun (x15 : Int32) (M15 : im_M) => if ¬ x15 = 0 then some (.inl ((x13 + 1), M15)) else some (.inr (.inr (0, M15)))
noncomputable def f_HFinder_lookFrom_L3 (v2 : Int32) (v3 : Int32) (v4 : Int32) (x5 : Int32) (M6 : im_M) : Option ((Int32 × im_M) ⊕ ((im_M) ⊕ (Int32 × im_M))) := if 40 < x5 then some (.inr (.inl M6)) else if v4 < (((17 : Int32) + ((4 : Int32) * x5)) * (im_i M6 59 9)) then some (.inr (.inl M6)) else bs1 (lp (uc2 (f_HFinder_lookFrom_L43 v2 v3 v4 x5 (((10 : Int32) + ((4 : Int32) * x5)) * (im_i M6 59 9)))) (0, M6)) (fun (M16 : im_M) => some (.inl ((x5 + 1), M16))) (fun t => some (.inr (.inr t)))
noncomputable def f_HFinder_lookFrom (p0 : Int32) (p1 : Int32) (p2 : Int32) (M : im_M) : Option (Int32 × im_M) := bs1 (lp (uc2 (f_HFinder_lookFrom_L3 p0 p1 p2)) (1, M)) (fun (M17 : im_M) => some (1, M17)) (fun t => some t)
theorem J_HFinder_lookFrom_d0 : decode J_HFinder_lookFrom.2.1 0 = .ok (.iconst 1, 1) := by decide +kernel
theorem J_HFinder_lookFrom_d1 : decode J_HFinder_lookFrom.2.1 1 = .ok (.istore 4, 2) := by decide +kernel
theorem J_HFinder_lookFrom_d3 : decode J_HFinder_lookFrom.2.1 3 = .ok (.iload 4, 2) := by decide +kernel
theorem J_HFinder_lookFrom_d5 : decode J_HFinder_lookFrom.2.1 5 = .ok (.bipush 40, 2) := by decide +kernel
theorem J_HFinder_lookFrom_d7 : decode J_HFinder_lookFrom.2.1 7 = .ok (.if_icmp .gt 89, 3) := by decide +kernel
theorem J_HFinder_lookFrom_d10 : decode J_HFinder_lookFrom.2.1 10 = .ok (.bipush 17, 2) := by decide +kernel
theorem J_HFinder_lookFrom_d12 : decode J_HFinder_lookFrom.2.1 12 = .ok (.iconst 4, 1) := by decide +kernel
theorem J_HFinder_lookFrom_d13 : decode J_HFinder_lookFrom.2.1 13 = .ok (.iload 4, 2) := by decide +kernel
theorem J_HFinder_lookFrom_d15 : decode J_HFinder_lookFrom.2.1 15 = .ok (.imul, 1) := by decide +kernel
theorem J_HFinder_lookFrom_d16 : decode J_HFinder_lookFrom.2.1 16 = .ok (.iadd, 1) := by decide +kernel
theorem J_HFinder_lookFrom_d17 : decode J_HFinder_lookFrom.2.1 17 = .ok (.aload_n 0, 1) := by decide +kernel
theorem J_HFinder_lookFrom_d18 : decode J_HFinder_lookFrom.2.1 18 = .ok (.getfield 66, 3) := by decide +kernel
theorem J_HFinder_lookFrom_d21 : decode J_HFinder_lookFrom.2.1 21 = .ok (.imul, 1) := by decide +kernel
theorem J_HFinder_lookFrom_d22 : decode J_HFinder_lookFrom.2.1 22 = .ok (.iload_n 3, 1) := by decide +kernel
theorem J_HFinder_lookFrom_d23 : decode J_HFinder_lookFrom.2.1 23 = .ok (.if_icmp .gt 73, 3) := by decide +kernel
theorem J_HFinder_lookFrom_d26 : decode J_HFinder_lookFrom.2.1 26 = .ok (.bipush 10, 2) := by decide +kernel
theorem J_HFinder_lookFrom_d28 : decode J_HFinder_lookFrom.2.1 28 = .ok (.iconst 4, 1) := by decide +kernel
theorem J_HFinder_lookFrom_d29 : decode J_HFinder_lookFrom.2.1 29 = .ok (.iload 4, 2) := by decide +kernel
theorem J_HFinder_lookFrom_d31 : decode J_HFinder_lookFrom.2.1 31 = .ok (.imul, 1) := by decide +kernel
theorem J_HFinder_lookFrom_d32 : decode J_HFinder_lookFrom.2.1 32 = .ok (.iadd, 1) := by decide +kernel
theorem J_HFinder_lookFrom_d33 : decode J_HFinder_lookFrom.2.1 33 = .ok (.aload_n 0, 1) := by decide +kernel
theorem J_HFinder_lookFrom_d34 : decode J_HFinder_lookFrom.2.1 34 = .ok (.getfield 66, 3) := by decide +kernel
theorem J_HFinder_lookFrom_d37 : decode J_HFinder_lookFrom.2.1 37 = .ok (.imul, 1) := by decide +kernel
theorem J_HFinder_lookFrom_d38 : decode J_HFinder_lookFrom.2.1 38 = .ok (.istore 5, 2) := by decide +kernel
theorem J_HFinder_lookFrom_d40 : decode J_HFinder_lookFrom.2.1 40 = .ok (.iconst 0, 1) := by decide +kernel
theorem J_HFinder_lookFrom_d41 : decode J_HFinder_lookFrom.2.1 41 = .ok (.istore 6, 2) := by decide +kernel
theorem J_HFinder_lookFrom_d43 : decode J_HFinder_lookFrom.2.1 43 = .ok (.iload 6, 2) := by decide +kernel
theorem J_HFinder_lookFrom_d45 : decode J_HFinder_lookFrom.2.1 45 = .ok (.iconst 4, 1) := by decide +kernel
theorem J_HFinder_lookFrom_d46 : decode J_HFinder_lookFrom.2.1 46 = .ok (.if_icmp .ge 44, 3) := by decide +kernel
theorem J_HFinder_lookFrom_d49 : decode J_HFinder_lookFrom.2.1 49 = .ok (.aload_n 0, 1) := by decide +kernel
theorem J_HFinder_lookFrom_d50 : decode J_HFinder_lookFrom.2.1 50 = .ok (.iload_n 1, 1) := by decide +kernel
theorem J_HFinder_lookFrom_d51 : decode J_HFinder_lookFrom.2.1 51 = .ok (.iload 5, 2) := by decide +kernel
theorem J_HFinder_lookFrom_d53 : decode J_HFinder_lookFrom.2.1 53 = .ok (.getstatic 94, 3) := by decide +kernel
theorem J_HFinder_lookFrom_d56 : decode J_HFinder_lookFrom.2.1 56 = .ok (.iload 6, 2) := by decide +kernel
theorem J_HFinder_lookFrom_d58 : decode J_HFinder_lookFrom.2.1 58 = .ok (.iaload, 1) := by decide +kernel
theorem J_HFinder_lookFrom_d59 : decode J_HFinder_lookFrom.2.1 59 = .ok (.imul, 1) := by decide +kernel
theorem J_HFinder_lookFrom_d60 : decode J_HFinder_lookFrom.2.1 60 = .ok (.isub, 1) := by decide +kernel
theorem J_HFinder_lookFrom_d61 : decode J_HFinder_lookFrom.2.1 61 = .ok (.iload_n 2, 1) := by decide +kernel
theorem J_HFinder_lookFrom_d62 : decode J_HFinder_lookFrom.2.1 62 = .ok (.iload 5, 2) := by decide +kernel
theorem J_HFinder_lookFrom_d64 : decode J_HFinder_lookFrom.2.1 64 = .ok (.getstatic 97, 3) := by decide +kernel
theorem J_HFinder_lookFrom_d67 : decode J_HFinder_lookFrom.2.1 67 = .ok (.iload 6, 2) := by decide +kernel
theorem J_HFinder_lookFrom_d69 : decode J_HFinder_lookFrom.2.1 69 = .ok (.iaload, 1) := by decide +kernel
theorem J_HFinder_lookFrom_d70 : decode J_HFinder_lookFrom.2.1 70 = .ok (.imul, 1) := by decide +kernel
theorem J_HFinder_lookFrom_d71 : decode J_HFinder_lookFrom.2.1 71 = .ok (.isub, 1) := by decide +kernel
theorem J_HFinder_lookFrom_d72 : decode J_HFinder_lookFrom.2.1 72 = .ok (.iload 4, 2) := by decide +kernel
theorem J_HFinder_lookFrom_d74 : decode J_HFinder_lookFrom.2.1 74 = .ok (.iload 6, 2) := by decide +kernel
theorem J_HFinder_lookFrom_d76 : decode J_HFinder_lookFrom.2.1 76 = .ok (.invokevirtual 100, 3) := by decide +kernel
theorem J_HFinder_lookFrom_d79 : decode J_HFinder_lookFrom.2.1 79 = .ok (.ifCond .ne 5, 3) := by decide +kernel
theorem J_HFinder_lookFrom_d82 : decode J_HFinder_lookFrom.2.1 82 = .ok (.iconst 0, 1) := by decide +kernel
theorem J_HFinder_lookFrom_d83 : decode J_HFinder_lookFrom.2.1 83 = .ok (.ireturn, 1) := by decide +kernel
theorem J_HFinder_lookFrom_d84 : decode J_HFinder_lookFrom.2.1 84 = .ok (.iinc 6 1, 3) := by decide +kernel
theorem J_HFinder_lookFrom_d87 : decode J_HFinder_lookFrom.2.1 87 = .ok (.goto (-44), 3) := by decide +kernel
theorem J_HFinder_lookFrom_d90 : decode J_HFinder_lookFrom.2.1 90 = .ok (.iinc 4 1, 3) := by decide +kernel
theorem J_HFinder_lookFrom_d93 : decode J_HFinder_lookFrom.2.1 93 = .ok (.goto (-90), 3) := by decide +kernel
theorem J_HFinder_lookFrom_d96 : decode J_HFinder_lookFrom.2.1 96 = .ok (.iconst 1, 1) := by decide +kernel
theorem J_HFinder_lookFrom_d97 : decode J_HFinder_lookFrom.2.1 97 = .ok (.ireturn, 1) := by decide +kernel
theorem f_HFinder_lookFrom_ok {L : Nat} {xs : Nat → Int32} {dep : Nat} {w : Bool} {p0 : Int32} {p1 : Int32} {p2 : Int32} {M : im_M} {Q : Int32 × im_M → Prop} (hM : lw_S w M) (h : ed (f_HFinder_lookFrom p0 p1 p2 M) Q) : ia (tb_G L xs) (dep + 3) J_HFinder_lookFrom (rwI w Q) (0, lv_args 0 [.ref 59, .int p0, .int p1, .int p2], [], M) := by
  have hS : im_St (tb_G L xs) (dep + 3) J_HFinder_lookFrom (ia (tb_G L xs) (dep + 3) J_HFinder_lookFrom (rwI w Q)) := ia_St
  unfold f_HFinder_lookFrom at h
  have l0 : im_lk (lv_args 0 [.ref 59, .int p0, .int p1, .int p2]) 0 = some (.ref 59) := rfl
  have l1 : im_lk (lv_args 0 [.ref 59, .int p0, .int p1, .int p2]) 1 = some (.int p0) := rfl
  have l2 : im_lk (lv_args 0 [.ref 59, .int p0, .int p1, .int p2]) 2 = some (.int p1) := rfl
  have l3 : im_lk (lv_args 0 [.ref 59, .int p0, .int p1, .int p2]) 3 = some (.int p2) := rfl
  refine iq_iconst hS 1 J_HFinder_lookFrom_d0 (v := 1) (by decide +kernel) rfl ?_
  refine iq_istore hS 3 J_HFinder_lookFrom_d1 (by decide) rfl ?_
  obtain ⟨Q1, hQ1, hR1, h⟩ := bs1_ed h
  have K1 : ∀ (M2 : im_M) (L' : List (Nat × Value)), lw_S w M2 → Q1 (.inl M2) → ia (tb_G L xs) (dep + 3) J_HFinder_lookFrom (rwI w Q) (96, L', [], M2) := by
    intro M2 L' hM2  h
    replace h := hQ1 _ h
    refine iq_iconst hS 97 J_HFinder_lookFrom_d96 (v := 1) (by decide +kernel) rfl ?_
    exact iq_iret J_HFinder_lookFrom_d97 rfl rfl ⟨_, rfl, hM2, ed_some h⟩
  obtain ⟨r1, hr1, hq1⟩ := h
  obtain ⟨n1, hn1⟩ := lp_n hr1
  have I1 : ∀ (n : Nat) (x3 : Int32) (M4 : im_M) (L' : List (Nat × Value)), lw_S w M4 → im_lk L' 0 = some (.ref 59) → im_lk L' 1 = some (.int p0) → im_lk L' 2 = some (.int p1) → im_lk L' 3 = some (.int p2) → im_lk L' 4 = some (.int x3) → lpn (uc2 (f_HFinder_lookFrom_L3 p0 p1 p2)) n (x3, M4) = some r1 → ia (tb_G L xs) (dep + 3) J_HFinder_lookFrom (rwI w Q) (3, L', [], M4) := by
    intro n
    induction n with
    | zero => intro x3 M4 L' hM4 l5 l6 l7 l8 l9 hn; exact (lpn_0 hn).elim
    | succ n ih =>
      intro x3 M4 L' hM4 l5 l6 l7 l8 l9 hn
      have h := lpn_ed2 hn
      unfold f_HFinder_lookFrom_L3 at h
      refine iq_iload hS 5 J_HFinder_lookFrom_d3 l9 rfl ?_
      refine iq_bipush hS 7 J_HFinder_lookFrom_d5 (v := 40) (by decide +kernel) rfl ?_
      refine iq_icmp_gt hS 10 J_HFinder_lookFrom_d7 (t := 96) rfl (fun q7 => ?_) rfl (fun q7 => ?_)
      · replace h := ed_pos q7 h
        exact K1 _ _ hM4  (lq_r h hq1)
      · replace h := ed_neg q7 h
        refine iq_bipush hS 12 J_HFinder_lookFrom_d10 (v := 17) (by decide +kernel) rfl ?_
        refine iq_iconst hS 13 J_HFinder_lookFrom_d12 (v := 4) (by decide +kernel) rfl ?_
        refine iq_iload hS 15 J_HFinder_lookFrom_d13 l9 rfl ?_
        refine iq_imul hS 16 J_HFinder_lookFrom_d15 rfl ?_
        refine iq_iadd hS 17 J_HFinder_lookFrom_d16 rfl ?_
        refine iq_aload_n hS 18 J_HFinder_lookFrom_d17 l5 rfl ?_
        refine iq_getI hS 21 J_HFinder_lookFrom_d18 lf_3_66 (Or.inl rfl) (ka_59 hM4) rfl ?_
        refine iq_imul hS 22 J_HFinder_lookFrom_d21 rfl ?_
        refine iq_iload_n hS 23 J_HFinder_lookFrom_d22 l8 rfl ?_
        refine iq_icmp_gt hS 26 J_HFinder_lookFrom_d23 (t := 96) rfl (fun q23 => ?_) rfl (fun q23 => ?_)
        · replace h := ed_pos q23 h
          exact K1 _ _ hM4  (lq_r h hq1)
        · replace h := ed_neg q23 h
          refine iq_bipush hS 28 J_HFinder_lookFrom_d26 (v := 10) (by decide +kernel) rfl ?_
          refine iq_iconst hS 29 J_HFinder_lookFrom_d28 (v := 4) (by decide +kernel) rfl ?_
          refine iq_iload hS 31 J_HFinder_lookFrom_d29 l9 rfl ?_
          refine iq_imul hS 32 J_HFinder_lookFrom_d31 rfl ?_
          refine iq_iadd hS 33 J_HFinder_lookFrom_d32 rfl ?_
          refine iq_aload_n hS 34 J_HFinder_lookFrom_d33 l5 rfl ?_
          refine iq_getI hS 37 J_HFinder_lookFrom_d34 lf_3_66 (Or.inl rfl) (ka_59 hM4) rfl ?_
          refine iq_imul hS 38 J_HFinder_lookFrom_d37 rfl ?_
          refine iq_istore hS 40 J_HFinder_lookFrom_d38 (by decide) rfl ?_
          refine iq_iconst hS 41 J_HFinder_lookFrom_d40 (v := 0) (by decide +kernel) rfl ?_
          refine iq_istore hS 43 J_HFinder_lookFrom_d41 (by decide) rfl ?_
          obtain ⟨Q10, hQ10, hR10, h⟩ := bs1_ed h
          have K10 : ∀ (M11 : im_M) (L' : List (Nat × Value)), lw_S w M11 → im_lk L' 0 = some (.ref 59) → im_lk L' 1 = some (.int p0) → im_lk L' 2 = some (.int p1) → im_lk L' 3 = some (.int p2) → im_lk L' 4 = some (.int x3) → Q10 (.inl M11) → ia (tb_G L xs) (dep + 3) J_HFinder_lookFrom (rwI w Q) (90, L', [], M11) := by
            intro M11 L' hM11 l12 l13 l14 l15 l16 h
            replace h := hQ10 _ h
            refine iq_iincv hS 93 J_HFinder_lookFrom_d90 (c := 1) (by decide +kernel) l16 (by decide) rfl ?_
            refine iq_goto hS J_HFinder_lookFrom_d93 (t := 3) rfl ?_
            exact ih _ _ _ hM11 (lk_1r l12 (by decide)) (lk_1i l13 (by decide)) (lk_1i l14 (by decide)) (lk_1i l15 (by decide)) lk_1s (lq_l h)
          obtain ⟨r10, hr10, hq10⟩ := h
          obtain ⟨n10, hn10⟩ := lp_n hr10
          have I10 : ∀ (n : Nat) (x17 : Int32) (M18 : im_M) (L' : List (Nat × Value)), lw_S w M18 → im_lk L' 0 = some (.ref 59) → im_lk L' 1 = some (.int p0) → im_lk L' 2 = some (.int p1) → im_lk L' 3 = some (.int p2) → im_lk L' 4 = some (.int x3) → im_lk L' 5 = some (.int (((10 : Int32) + ((4 : Int32) * x3)) * (im_i M4 59 9))) → im_lk L' 6 = some (.int x17) → lpn (uc2 (f_HFinder_lookFrom_L43 p0 p1 p2 x3 (((10 : Int32) + ((4 : Int32) * x3)) * (im_i M4 59 9)))) n (x17, M18) = some r10 → ia (tb_G L xs) (dep + 3) J_HFinder_lookFrom (rwI w Q) (43, L', [], M18) := by
            intro n
            induction n with
            | zero => intro x17 M18 L' hM18 l19 l20 l21 l22 l23 l24 l25 hn; exact (lpn_0 hn).elim
            | succ n ih =>
              intro x17 M18 L' hM18 l19 l20 l21 l22 l23 l24 l25 hn
              have h := lpn_ed2 hn
              unfold f_HFinder_lookFrom_L43 at h
              refine iq_iload hS 45 J_HFinder_lookFrom_d43 l25 rfl ?_
              refine iq_iconst hS 46 J_HFinder_lookFrom_d45 (v := 4) (by decide +kernel) rfl ?_
              refine iq_icmp_ge hS 49 J_HFinder_lookFrom_d46 (t := 90) rfl (fun q46 => ?_) rfl (fun q46 => ?_)
              · replace h := ed_pos q46 h
                exact K10 _ _ hM18 l19 l20 l21 l22 l23 (lq_r h hq10)
              · replace h := ed_neg q46 h
                refine iq_aload_n hS 50 J_HFinder_lookFrom_d49 l19 rfl ?_
                refine iq_iload_n hS 51 J_HFinder_lookFrom_d50 l20 rfl ?_
                refine iq_iload hS 53 J_HFinder_lookFrom_d51 l24 rfl ?_
                refine iq_getstatic hS 56 J_HFinder_lookFrom_d53 gs_3_94 rfl ?_
                refine iq_iload hS 58 J_HFinder_lookFrom_d56 l25 rfl ?_
                obtain ⟨g58, h⟩ := ed_gd h
                refine iq_xl_13 hS 59 J_HFinder_lookFrom_d58 hM18 g58 rfl ?_
                refine iq_imul hS 60 J_HFinder_lookFrom_d59 rfl ?_
                refine iq_isub hS 61 J_HFinder_lookFrom_d60 rfl ?_
                refine iq_iload_n hS 62 J_HFinder_lookFrom_d61 l21 rfl ?_
                refine iq_iload hS 64 J_HFinder_lookFrom_d62 l24 rfl ?_
                refine iq_getstatic hS 67 J_HFinder_lookFrom_d64 gs_3_97 rfl ?_
                refine iq_iload hS 69 J_HFinder_lookFrom_d67 l25 rfl ?_
                obtain ⟨g69, h⟩ := ed_gd h
                refine iq_xl_14 hS 70 J_HFinder_lookFrom_d69 hM18 g69 rfl ?_
                refine iq_imul hS 71 J_HFinder_lookFrom_d70 rfl ?_
                refine iq_isub hS 72 J_HFinder_lookFrom_d71 rfl ?_
                refine iq_iload hS 74 J_HFinder_lookFrom_d72 l23 rfl ?_
                refine iq_iload hS 76 J_HFinder_lookFrom_d74 l25 rfl ?_
                obtain ⟨Q26, hQ26, h⟩ := bd2_ed h
                refine iq_cwI hS 79 J_HFinder_lookFrom_d76 rfl (pr_inst (vs := [_, _, _, _]) lc_3_100 lT_209 rfl rfl (by decide) (by decide) rfl (Nat.le_of_ble_eq_true rfl) (Nat.le_of_ble_eq_true rfl) (fun _ => Or.inl (pr_b (ka_59 hM18) (by decide) rfl))) (f_HFinder_lookAt_ok (dep := dep + 0) hM18 h) rfl ?_
                intro x26 M26 hM26 h
                replace h := hQ26 _ _ h
                refine iq_if_ne hS 82 J_HFinder_lookFrom_d79 (t := 84) rfl (fun q79 => ?_) rfl (fun q79 => ?_)
                · replace h := ed_pos q79 h
                  refine iq_iincv hS 87 J_HFinder_lookFrom_d84 (c := 1) (by decide +kernel) l25 (by decide) rfl ?_
                  refine iq_goto hS J_HFinder_lookFrom_d87 (t := 43) rfl ?_
                  exact ih _ _ _ hM26 (lk_1r l19 (by decide)) (lk_1i l20 (by decide)) (lk_1i l21 (by decide)) (lk_1i l22 (by decide)) (lk_1i l23 (by decide)) (lk_1i l24 (by decide)) lk_1s (lq_l h)
                · replace h := ed_neg q79 h
                  refine iq_iconst hS 83 J_HFinder_lookFrom_d82 (v := 0) (by decide +kernel) rfl ?_
                  exact iq_iret J_HFinder_lookFrom_d83 rfl rfl ⟨_, rfl, hM26, ed_some (hR1 _ (lq_r (hR10 _ (lq_r h hq10)) hq1))⟩
          exact I10 n10 _ _ _ hM4 (lk_1r (lk_1r l5 (by decide)) (by decide)) (lk_1i (lk_1i l6 (by decide)) (by decide)) (lk_1i (lk_1i l7 (by decide)) (by decide)) (lk_1i (lk_1i l8 (by decide)) (by decide)) (lk_1i (lk_1i l9 (by decide)) (by decide)) (lk_1i lk_1s (by decide)) lk_1s hn10
  exact I1 n1 _ _ _ hM (lk_1r l0 (by decide)) (lk_1i l1 (by decide)) (lk_1i l2 (by decide)) (lk_1i l3 (by decide)) lk_1s hn1
noncomputable def f_HFinder_lookAtAll_L23 (v6 : Int32) (v7 : Int32) (x8 : Int32) (M9 : im_M) : Option ((Int32 × im_M) ⊕ ((im_M) ⊕ (Int32 × im_M))) := if (im_i M9 28 0) < (x8 + ((7 : Int32) * (im_i M9 59 9))) then some (.inr (.inl M9)) else gd (inb ((v7 * 512) + x8) 262144) <| jn1 (fun (M12 : im_M) => some (.inl ((x8 + 1), M12))) fun k10 => if ((im_i M9 59 10) / 3) < (im_i M9 61 (Int32.toNatClampNeg ((v7 * 512) + x8))) then k10 M9 else bd2 (f_HFinder_lookFrom x8 v7 v6 M9) fun (x11 : Int32) (M11 : im_M) => if ¬ x11 = 0 then k10 M11 else some (.inr (.inr (0, M11)))
noncomputable def f_HFinder_lookAtAll_L2 (v2 : Int32) (x3 : Int32) (M4 : im_M) : Option ((Int32 × im_M) ⊕ ((im_M) ⊕ (Int32 × im_M))) := if (im_i M4 28 1) < (x3 + ((7 : Int32) * (im_i M4 59 9))) then some (.inr (.inl M4)) else bs1 (lp (uc2 (f_HFinder_lookAtAll_L23 v2 x3)) (0, M4)) (fun (M17 : im_M) => some (.inl ((x3 + 1), M17))) (fun t => some (.inr (.inr t)))
noncomputable def f_HFinder_lookAtAll (p0 : Int32) (M : im_M) : Option (Int32 × im_M) := bs1 (lp (uc2 (f_HFinder_lookAtAll_L2 p0)) (0, M)) (fun (M18 : im_M) => some (1, M18)) (fun t => some t)
theorem J_HFinder_lookAtAll_d0 : decode J_HFinder_lookAtAll.2.1 0 = .ok (.iconst 0, 1) := by decide +kernel
theorem J_HFinder_lookAtAll_d1 : decode J_HFinder_lookAtAll.2.1 1 = .ok (.istore_n 2, 1) := by decide +kernel
theorem J_HFinder_lookAtAll_d2 : decode J_HFinder_lookAtAll.2.1 2 = .ok (.iload_n 2, 1) := by decide +kernel
theorem J_HFinder_lookAtAll_d3 : decode J_HFinder_lookAtAll.2.1 3 = .ok (.bipush 7, 2) := by decide +kernel
theorem J_HFinder_lookAtAll_d5 : decode J_HFinder_lookAtAll.2.1 5 = .ok (.aload_n 0, 1) := by decide +kernel
theorem J_HFinder_lookAtAll_d6 : decode J_HFinder_lookAtAll.2.1 6 = .ok (.getfield 66, 3) := by decide +kernel
theorem J_HFinder_lookAtAll_d9 : decode J_HFinder_lookAtAll.2.1 9 = .ok (.imul, 1) := by decide +kernel
theorem J_HFinder_lookAtAll_d10 : decode J_HFinder_lookAtAll.2.1 10 = .ok (.iadd, 1) := by decide +kernel
theorem J_HFinder_lookAtAll_d11 : decode J_HFinder_lookAtAll.2.1 11 = .ok (.aload_n 0, 1) := by decide +kernel
theorem J_HFinder_lookAtAll_d12 : decode J_HFinder_lookAtAll.2.1 12 = .ok (.getfield 37, 3) := by decide +kernel
theorem J_HFinder_lookAtAll_d15 : decode J_HFinder_lookAtAll.2.1 15 = .ok (.getfield 57, 3) := by decide +kernel
theorem J_HFinder_lookAtAll_d18 : decode J_HFinder_lookAtAll.2.1 18 = .ok (.if_icmp .gt 69, 3) := by decide +kernel
theorem J_HFinder_lookAtAll_d21 : decode J_HFinder_lookAtAll.2.1 21 = .ok (.iconst 0, 1) := by decide +kernel
theorem J_HFinder_lookAtAll_d22 : decode J_HFinder_lookAtAll.2.1 22 = .ok (.istore_n 3, 1) := by decide +kernel
theorem J_HFinder_lookAtAll_d23 : decode J_HFinder_lookAtAll.2.1 23 = .ok (.iload_n 3, 1) := by decide +kernel
theorem J_HFinder_lookAtAll_d24 : decode J_HFinder_lookAtAll.2.1 24 = .ok (.bipush 7, 2) := by decide +kernel
theorem J_HFinder_lookAtAll_d26 : decode J_HFinder_lookAtAll.2.1 26 = .ok (.aload_n 0, 1) := by decide +kernel
theorem J_HFinder_lookAtAll_d27 : decode J_HFinder_lookAtAll.2.1 27 = .ok (.getfield 66, 3) := by decide +kernel
theorem J_HFinder_lookAtAll_d30 : decode J_HFinder_lookAtAll.2.1 30 = .ok (.imul, 1) := by decide +kernel
theorem J_HFinder_lookAtAll_d31 : decode J_HFinder_lookAtAll.2.1 31 = .ok (.iadd, 1) := by decide +kernel
theorem J_HFinder_lookAtAll_d32 : decode J_HFinder_lookAtAll.2.1 32 = .ok (.aload_n 0, 1) := by decide +kernel
theorem J_HFinder_lookAtAll_d33 : decode J_HFinder_lookAtAll.2.1 33 = .ok (.getfield 37, 3) := by decide +kernel
theorem J_HFinder_lookAtAll_d36 : decode J_HFinder_lookAtAll.2.1 36 = .ok (.getfield 54, 3) := by decide +kernel
theorem J_HFinder_lookAtAll_d39 : decode J_HFinder_lookAtAll.2.1 39 = .ok (.if_icmp .gt 42, 3) := by decide +kernel
theorem J_HFinder_lookAtAll_d42 : decode J_HFinder_lookAtAll.2.1 42 = .ok (.aload_n 0, 1) := by decide +kernel
theorem J_HFinder_lookAtAll_d43 : decode J_HFinder_lookAtAll.2.1 43 = .ok (.getfield 19, 3) := by decide +kernel
theorem J_HFinder_lookAtAll_d46 : decode J_HFinder_lookAtAll.2.1 46 = .ok (.iload_n 2, 1) := by decide +kernel
theorem J_HFinder_lookAtAll_d47 : decode J_HFinder_lookAtAll.2.1 47 = .ok (.sipush 512, 3) := by decide +kernel
theorem J_HFinder_lookAtAll_d50 : decode J_HFinder_lookAtAll.2.1 50 = .ok (.imul, 1) := by decide +kernel
theorem J_HFinder_lookAtAll_d51 : decode J_HFinder_lookAtAll.2.1 51 = .ok (.iload_n 3, 1) := by decide +kernel
theorem J_HFinder_lookAtAll_d52 : decode J_HFinder_lookAtAll.2.1 52 = .ok (.iadd, 1) := by decide +kernel
theorem J_HFinder_lookAtAll_d53 : decode J_HFinder_lookAtAll.2.1 53 = .ok (.saload, 1) := by decide +kernel
theorem J_HFinder_lookAtAll_d54 : decode J_HFinder_lookAtAll.2.1 54 = .ok (.aload_n 0, 1) := by decide +kernel
theorem J_HFinder_lookAtAll_d55 : decode J_HFinder_lookAtAll.2.1 55 = .ok (.getfield 48, 3) := by decide +kernel
theorem J_HFinder_lookAtAll_d58 : decode J_HFinder_lookAtAll.2.1 58 = .ok (.iconst 3, 1) := by decide +kernel
theorem J_HFinder_lookAtAll_d59 : decode J_HFinder_lookAtAll.2.1 59 = .ok (.idiv, 1) := by decide +kernel
theorem J_HFinder_lookAtAll_d60 : decode J_HFinder_lookAtAll.2.1 60 = .ok (.if_icmp .gt 15, 3) := by decide +kernel
theorem J_HFinder_lookAtAll_d63 : decode J_HFinder_lookAtAll.2.1 63 = .ok (.aload_n 0, 1) := by decide +kernel
theorem J_HFinder_lookAtAll_d64 : decode J_HFinder_lookAtAll.2.1 64 = .ok (.iload_n 3, 1) := by decide +kernel
theorem J_HFinder_lookAtAll_d65 : decode J_HFinder_lookAtAll.2.1 65 = .ok (.iload_n 2, 1) := by decide +kernel
theorem J_HFinder_lookAtAll_d66 : decode J_HFinder_lookAtAll.2.1 66 = .ok (.iload_n 1, 1) := by decide +kernel
theorem J_HFinder_lookAtAll_d67 : decode J_HFinder_lookAtAll.2.1 67 = .ok (.invokevirtual 90, 3) := by decide +kernel
theorem J_HFinder_lookAtAll_d70 : decode J_HFinder_lookAtAll.2.1 70 = .ok (.ifCond .ne 5, 3) := by decide +kernel
theorem J_HFinder_lookAtAll_d73 : decode J_HFinder_lookAtAll.2.1 73 = .ok (.iconst 0, 1) := by decide +kernel
theorem J_HFinder_lookAtAll_d74 : decode J_HFinder_lookAtAll.2.1 74 = .ok (.ireturn, 1) := by decide +kernel
theorem J_HFinder_lookAtAll_d75 : decode J_HFinder_lookAtAll.2.1 75 = .ok (.iinc 3 1, 3) := by decide +kernel
theorem J_HFinder_lookAtAll_d78 : decode J_HFinder_lookAtAll.2.1 78 = .ok (.goto (-55), 3) := by decide +kernel
theorem J_HFinder_lookAtAll_d81 : decode J_HFinder_lookAtAll.2.1 81 = .ok (.iinc 2 1, 3) := by decide +kernel
theorem J_HFinder_lookAtAll_d84 : decode J_HFinder_lookAtAll.2.1 84 = .ok (.goto (-82), 3) := by decide +kernel
theorem J_HFinder_lookAtAll_d87 : decode J_HFinder_lookAtAll.2.1 87 = .ok (.iconst 1, 1) := by decide +kernel
theorem J_HFinder_lookAtAll_d88 : decode J_HFinder_lookAtAll.2.1 88 = .ok (.ireturn, 1) := by decide +kernel
theorem f_HFinder_lookAtAll_ok {L : Nat} {xs : Nat → Int32} {dep : Nat} {w : Bool} {p0 : Int32} {M : im_M} {Q : Int32 × im_M → Prop} (hM : lw_S w M) (h : ed (f_HFinder_lookAtAll p0 M) Q) : ia (tb_G L xs) (dep + 4) J_HFinder_lookAtAll (rwI w Q) (0, lv_args 0 [.ref 59, .int p0], [], M) := by
  have hS : im_St (tb_G L xs) (dep + 4) J_HFinder_lookAtAll (ia (tb_G L xs) (dep + 4) J_HFinder_lookAtAll (rwI w Q)) := ia_St
  unfold f_HFinder_lookAtAll at h
  have l0 : im_lk (lv_args 0 [.ref 59, .int p0]) 0 = some (.ref 59) := rfl
  have l1 : im_lk (lv_args 0 [.ref 59, .int p0]) 1 = some (.int p0) := rfl
  refine iq_iconst hS 1 J_HFinder_lookAtAll_d0 (v := 0) (by decide +kernel) rfl ?_
  refine iq_istore_n hS 2 J_HFinder_lookAtAll_d1 (by decide) rfl ?_
  obtain ⟨Q1, hQ1, hR1, h⟩ := bs1_ed h
  have K1 : ∀ (M2 : im_M) (L' : List (Nat × Value)), lw_S w M2 → Q1 (.inl M2) → ia (tb_G L xs) (dep + 4) J_HFinder_lookAtAll (rwI w Q) (87, L', [], M2) := by
    intro M2 L' hM2  h
    replace h := hQ1 _ h
    refine iq_iconst hS 88 J_HFinder_lookAtAll_d87 (v := 1) (by decide +kernel) rfl ?_
    exact iq_iret J_HFinder_lookAtAll_d88 rfl rfl ⟨_, rfl, hM2, ed_some h⟩
  obtain ⟨r1, hr1, hq1⟩ := h
  obtain ⟨n1, hn1⟩ := lp_n hr1
  have I1 : ∀ (n : Nat) (x3 : Int32) (M4 : im_M) (L' : List (Nat × Value)), lw_S w M4 → im_lk L' 0 = some (.ref 59) → im_lk L' 1 = some (.int p0) → im_lk L' 2 = some (.int x3) → lpn (uc2 (f_HFinder_lookAtAll_L2 p0)) n (x3, M4) = some r1 → ia (tb_G L xs) (dep + 4) J_HFinder_lookAtAll (rwI w Q) (2, L', [], M4) := by
    intro n
    induction n with
    | zero => intro x3 M4 L' hM4 l5 l6 l7 hn; exact (lpn_0 hn).elim
    | succ n ih =>
      intro x3 M4 L' hM4 l5 l6 l7 hn
      have h := lpn_ed2 hn
      unfold f_HFinder_lookAtAll_L2 at h
      refine iq_iload_n hS 3 J_HFinder_lookAtAll_d2 l7 rfl ?_
      refine iq_bipush hS 5 J_HFinder_lookAtAll_d3 (v := 7) (by decide +kernel) rfl ?_
      refine iq_aload_n hS 6 J_HFinder_lookAtAll_d5 l5 rfl ?_
      refine iq_getI hS 9 J_HFinder_lookAtAll_d6 lf_3_66 (Or.inl rfl) (ka_59 hM4) rfl ?_
      refine iq_imul hS 10 J_HFinder_lookAtAll_d9 rfl ?_
      refine iq_iadd hS 11 J_HFinder_lookAtAll_d10 rfl ?_
      refine iq_aload_n hS 12 J_HFinder_lookAtAll_d11 l5 rfl ?_
      refine iq_getR hS 15 J_HFinder_lookAtAll_d12 lf_3_37 (Or.inl ⟨_, rfl⟩) (ka_59 hM4) (ra_59_1 hM4) rfl ?_
      refine iq_getI hS 18 J_HFinder_lookAtAll_d15 lf_3_57 (Or.inl rfl) (ka_28 hM4) rfl ?_
      refine iq_icmp_gt hS 21 J_HFinder_lookAtAll_d18 (t := 87) rfl (fun q18 => ?_) rfl (fun q18 => ?_)
      · replace h := ed_pos q18 h
        exact K1 _ _ hM4  (lq_r h hq1)
      · replace h := ed_neg q18 h
        refine iq_iconst hS 22 J_HFinder_lookAtAll_d21 (v := 0) (by decide +kernel) rfl ?_
        refine iq_istore_n hS 23 J_HFinder_lookAtAll_d22 (by decide) rfl ?_
        obtain ⟨Q8, hQ8, hR8, h⟩ := bs1_ed h
        have K8 : ∀ (M9 : im_M) (L' : List (Nat × Value)), lw_S w M9 → im_lk L' 0 = some (.ref 59) → im_lk L' 1 = some (.int p0) → im_lk L' 2 = some (.int x3) → Q8 (.inl M9) → ia (tb_G L xs) (dep + 4) J_HFinder_lookAtAll (rwI w Q) (81, L', [], M9) := by
          intro M9 L' hM9 l10 l11 l12 h
          replace h := hQ8 _ h
          refine iq_iincv hS 84 J_HFinder_lookAtAll_d81 (c := 1) (by decide +kernel) l12 (by decide) rfl ?_
          refine iq_goto hS J_HFinder_lookAtAll_d84 (t := 2) rfl ?_
          exact ih _ _ _ hM9 (lk_1r l10 (by decide)) (lk_1i l11 (by decide)) lk_1s (lq_l h)
        obtain ⟨r8, hr8, hq8⟩ := h
        obtain ⟨n8, hn8⟩ := lp_n hr8
        have I8 : ∀ (n : Nat) (x13 : Int32) (M14 : im_M) (L' : List (Nat × Value)), lw_S w M14 → im_lk L' 0 = some (.ref 59) → im_lk L' 1 = some (.int p0) → im_lk L' 2 = some (.int x3) → im_lk L' 3 = some (.int x13) → lpn (uc2 (f_HFinder_lookAtAll_L23 p0 x3)) n (x13, M14) = some r8 → ia (tb_G L xs) (dep + 4) J_HFinder_lookAtAll (rwI w Q) (23, L', [], M14) := by
          intro n
          induction n with
          | zero => intro x13 M14 L' hM14 l15 l16 l17 l18 hn; exact (lpn_0 hn).elim
          | succ n ih =>
            intro x13 M14 L' hM14 l15 l16 l17 l18 hn
            have h := lpn_ed2 hn
            unfold f_HFinder_lookAtAll_L23 at h
            refine iq_iload_n hS 24 J_HFinder_lookAtAll_d23 l18 rfl ?_
            refine iq_bipush hS 26 J_HFinder_lookAtAll_d24 (v := 7) (by decide +kernel) rfl ?_
            refine iq_aload_n hS 27 J_HFinder_lookAtAll_d26 l15 rfl ?_
            refine iq_getI hS 30 J_HFinder_lookAtAll_d27 lf_3_66 (Or.inl rfl) (ka_59 hM14) rfl ?_
            refine iq_imul hS 31 J_HFinder_lookAtAll_d30 rfl ?_
            refine iq_iadd hS 32 J_HFinder_lookAtAll_d31 rfl ?_
            refine iq_aload_n hS 33 J_HFinder_lookAtAll_d32 l15 rfl ?_
            refine iq_getR hS 36 J_HFinder_lookAtAll_d33 lf_3_37 (Or.inl ⟨_, rfl⟩) (ka_59 hM14) (ra_59_1 hM14) rfl ?_
            refine iq_getI hS 39 J_HFinder_lookAtAll_d36 lf_3_54 (Or.inl rfl) (ka_28 hM14) rfl ?_
            refine iq_icmp_gt hS 42 J_HFinder_lookAtAll_d39 (t := 81) rfl (fun q39 => ?_) rfl (fun q39 => ?_)
            · replace h := ed_pos q39 h
              exact K8 _ _ hM14 l15 l16 l17 (lq_r h hq8)
            · replace h := ed_neg q39 h
              refine iq_aload_n hS 43 J_HFinder_lookAtAll_d42 l15 rfl ?_
              refine iq_getR hS 46 J_HFinder_lookAtAll_d43 lf_3_19 (Or.inr ⟨_, rfl⟩) (ka_59 hM14) (ra_59_3 hM14) rfl ?_
              refine iq_iload_n hS 47 J_HFinder_lookAtAll_d46 l17 rfl ?_
              refine iq_sipush hS 50 J_HFinder_lookAtAll_d47 (v := 512) (by decide +kernel) rfl ?_
              refine iq_imul hS 51 J_HFinder_lookAtAll_d50 rfl ?_
              refine iq_iload_n hS 52 J_HFinder_lookAtAll_d51 l18 rfl ?_
              refine iq_iadd hS 53 J_HFinder_lookAtAll_d52 rfl ?_
              obtain ⟨g53, h⟩ := ed_gd h
              refine iq_saload hS 54 J_HFinder_lookAtAll_d53 ⟨(ka_61 hM14).1, (ka_61 hM14).2, g53.1, ix_lt (kl_61 hM14) g53.2⟩ rfl ?_
              refine iq_aload_n hS 55 J_HFinder_lookAtAll_d54 l15 rfl ?_
              refine iq_getI hS 58 J_HFinder_lookAtAll_d55 lf_3_48 (Or.inl rfl) (ka_59 hM14) rfl ?_
              refine iq_iconst hS 59 J_HFinder_lookAtAll_d58 (v := 3) (by decide +kernel) rfl ?_
              refine iq_idiv hS 60 J_HFinder_lookAtAll_d59 (by decide) rfl ?_
              obtain ⟨k19, Q19, hQ19, hk19, h⟩ := jn1_ed h
              have J19 : ∀ (M21 : im_M) (L' : List (Nat × Value)), lw_S w M21 → im_lk L' 0 = some (.ref 59) → im_lk L' 1 = some (.int p0) → im_lk L' 2 = some (.int x3) → im_lk L' 3 = some (.int x13) → Q19 M21 → ia (tb_G L xs) (dep + 4) J_HFinder_lookAtAll (rwI w Q) (75, L', [], M21) := by
                intro M21 L' hM21 l22 l23 l24 l25 h
                replace h := hQ19 _ h
                refine iq_iincv hS 78 J_HFinder_lookAtAll_d75 (c := 1) (by decide +kernel) l25 (by decide) rfl ?_
                refine iq_goto hS J_HFinder_lookAtAll_d78 (t := 23) rfl ?_
                exact ih _ _ _ hM21 (lk_1r l22 (by decide)) (lk_1i l23 (by decide)) (lk_1i l24 (by decide)) lk_1s (lq_l h)
              refine iq_icmp_gt hS 63 J_HFinder_lookAtAll_d60 (t := 75) rfl (fun q60 => ?_) rfl (fun q60 => ?_)
              · replace h := ed_pos q60 h
                exact J19 _ _ hM14 l15 l16 l17 l18 (hk19 _ h)
              · replace h := ed_neg q60 h
                refine iq_aload_n hS 64 J_HFinder_lookAtAll_d63 l15 rfl ?_
                refine iq_iload_n hS 65 J_HFinder_lookAtAll_d64 l18 rfl ?_
                refine iq_iload_n hS 66 J_HFinder_lookAtAll_d65 l17 rfl ?_
                refine iq_iload_n hS 67 J_HFinder_lookAtAll_d66 l16 rfl ?_
                obtain ⟨Q20, hQ20, h⟩ := bd2_ed h
                refine iq_cwI hS 70 J_HFinder_lookAtAll_d67 rfl (pr_inst (vs := [_, _, _]) lc_3_90 lT_208 rfl rfl (by decide) (by decide) rfl (Nat.le_of_ble_eq_true rfl) (Nat.le_of_ble_eq_true rfl) (fun _ => Or.inl (pr_b (ka_59 hM14) (by decide) rfl))) (f_HFinder_lookFrom_ok (dep := dep + 0) hM14 h) rfl ?_
                intro x20 M20 hM20 h
                replace h := hQ20 _ _ h
                refine iq_if_ne hS 73 J_HFinder_lookAtAll_d70 (t := 75) rfl (fun q70 => ?_) rfl (fun q70 => ?_)
                · replace h := ed_pos q70 h
                  exact J19 _ _ hM20 l15 l16 l17 l18 (hk19 _ h)
                · replace h := ed_neg q70 h
                  refine iq_iconst hS 74 J_HFinder_lookAtAll_d73 (v := 0) (by decide +kernel) rfl ?_
                  exact iq_iret J_HFinder_lookAtAll_d74 rfl rfl ⟨_, rfl, hM20, ed_some (hR1 _ (lq_r (hR8 _ (lq_r h hq8)) hq1))⟩
        exact I8 n8 _ _ _ hM4 (lk_1r l5 (by decide)) (lk_1i l6 (by decide)) (lk_1i l7 (by decide)) lk_1s hn8
  exact I1 n1 _ _ _ hM (lk_1r l0 (by decide)) (lk_1i l1 (by decide)) lk_1s hn1
noncomputable def f_HFinder_part (p0 : Int32) (p1 : Int32) (M : im_M) : Option (Int32) := gd (inb p0 300) <| if p1 = 0 then some ((Int64.toInt32 ((im_l M 62 (Int32.toNatClampNeg p0)) >>> (Int32.toInt64 13 &&& 63))) &&& 511) else if p1 = 1 then some (Int64.toInt32 ((im_l M 62 (Int32.toNatClampNeg p0)) >>> (Int32.toInt64 22 &&& 63))) else if p1 = 2 then some ((Int64.toInt32 ((im_l M 62 (Int32.toNatClampNeg p0)) >>> (Int32.toInt64 8 &&& 63))) &&& 31) else if p1 = 3 then some ((Int64.toInt32 ((im_l M 62 (Int32.toNatClampNeg p0)) >>> (Int32.toInt64 2 &&& 63))) &&& 63) else if p1 = 4 then some ((Int64.toInt32 (im_l M 62 (Int32.toNatClampNeg p0))) &&& 3) else gd (inb p0 300) <| some (im_i M 63 (Int32.toNatClampNeg p0))
theorem J_HFinder_part_d0 : decode J_HFinder_part.2.1 0 = .ok (.aload_n 0, 1) := by decide +kernel
theorem J_HFinder_part_d1 : decode J_HFinder_part.2.1 1 = .ok (.getfield 23, 3) := by decide +kernel
theorem J_HFinder_part_d4 : decode J_HFinder_part.2.1 4 = .ok (.iload_n 1, 1) := by decide +kernel
theorem J_HFinder_part_d5 : decode J_HFinder_part.2.1 5 = .ok (.laload, 1) := by decide +kernel
theorem J_HFinder_part_d6 : decode J_HFinder_part.2.1 6 = .ok (.lstore_n 3, 1) := by decide +kernel
theorem J_HFinder_part_d7 : decode J_HFinder_part.2.1 7 = .ok (.iload_n 2, 1) := by decide +kernel
theorem J_HFinder_part_d8 : decode J_HFinder_part.2.1 8 = .ok (.tableswitch 74 0 4 #[36, 46, 52, 61, 69], 36) := by decide +kernel
theorem J_HFinder_part_d44 : decode J_HFinder_part.2.1 44 = .ok (.lload_n 3, 1) := by decide +kernel
theorem J_HFinder_part_d45 : decode J_HFinder_part.2.1 45 = .ok (.bipush 13, 2) := by decide +kernel
theorem J_HFinder_part_d47 : decode J_HFinder_part.2.1 47 = .ok (.lshr, 1) := by decide +kernel
theorem J_HFinder_part_d48 : decode J_HFinder_part.2.1 48 = .ok (.l2i, 1) := by decide +kernel
theorem J_HFinder_part_d49 : decode J_HFinder_part.2.1 49 = .ok (.sipush 511, 3) := by decide +kernel
theorem J_HFinder_part_d52 : decode J_HFinder_part.2.1 52 = .ok (.iand, 1) := by decide +kernel
theorem J_HFinder_part_d53 : decode J_HFinder_part.2.1 53 = .ok (.ireturn, 1) := by decide +kernel
theorem J_HFinder_part_d54 : decode J_HFinder_part.2.1 54 = .ok (.lload_n 3, 1) := by decide +kernel
theorem J_HFinder_part_d55 : decode J_HFinder_part.2.1 55 = .ok (.bipush 22, 2) := by decide +kernel
theorem J_HFinder_part_d57 : decode J_HFinder_part.2.1 57 = .ok (.lshr, 1) := by decide +kernel
theorem J_HFinder_part_d58 : decode J_HFinder_part.2.1 58 = .ok (.l2i, 1) := by decide +kernel
theorem J_HFinder_part_d59 : decode J_HFinder_part.2.1 59 = .ok (.ireturn, 1) := by decide +kernel
theorem J_HFinder_part_d60 : decode J_HFinder_part.2.1 60 = .ok (.lload_n 3, 1) := by decide +kernel
theorem J_HFinder_part_d61 : decode J_HFinder_part.2.1 61 = .ok (.bipush 8, 2) := by decide +kernel
theorem J_HFinder_part_d63 : decode J_HFinder_part.2.1 63 = .ok (.lshr, 1) := by decide +kernel
theorem J_HFinder_part_d64 : decode J_HFinder_part.2.1 64 = .ok (.l2i, 1) := by decide +kernel
theorem J_HFinder_part_d65 : decode J_HFinder_part.2.1 65 = .ok (.bipush 31, 2) := by decide +kernel
theorem J_HFinder_part_d67 : decode J_HFinder_part.2.1 67 = .ok (.iand, 1) := by decide +kernel
theorem J_HFinder_part_d68 : decode J_HFinder_part.2.1 68 = .ok (.ireturn, 1) := by decide +kernel
theorem J_HFinder_part_d69 : decode J_HFinder_part.2.1 69 = .ok (.lload_n 3, 1) := by decide +kernel
theorem J_HFinder_part_d70 : decode J_HFinder_part.2.1 70 = .ok (.iconst 2, 1) := by decide +kernel
theorem J_HFinder_part_d71 : decode J_HFinder_part.2.1 71 = .ok (.lshr, 1) := by decide +kernel
theorem J_HFinder_part_d72 : decode J_HFinder_part.2.1 72 = .ok (.l2i, 1) := by decide +kernel
theorem J_HFinder_part_d73 : decode J_HFinder_part.2.1 73 = .ok (.bipush 63, 2) := by decide +kernel
theorem J_HFinder_part_d75 : decode J_HFinder_part.2.1 75 = .ok (.iand, 1) := by decide +kernel
theorem J_HFinder_part_d76 : decode J_HFinder_part.2.1 76 = .ok (.ireturn, 1) := by decide +kernel
theorem J_HFinder_part_d77 : decode J_HFinder_part.2.1 77 = .ok (.lload_n 3, 1) := by decide +kernel
theorem J_HFinder_part_d78 : decode J_HFinder_part.2.1 78 = .ok (.l2i, 1) := by decide +kernel
theorem J_HFinder_part_d79 : decode J_HFinder_part.2.1 79 = .ok (.iconst 3, 1) := by decide +kernel
theorem J_HFinder_part_d80 : decode J_HFinder_part.2.1 80 = .ok (.iand, 1) := by decide +kernel
theorem J_HFinder_part_d81 : decode J_HFinder_part.2.1 81 = .ok (.ireturn, 1) := by decide +kernel
theorem J_HFinder_part_d82 : decode J_HFinder_part.2.1 82 = .ok (.aload_n 0, 1) := by decide +kernel
theorem J_HFinder_part_d83 : decode J_HFinder_part.2.1 83 = .ok (.getfield 27, 3) := by decide +kernel
theorem J_HFinder_part_d86 : decode J_HFinder_part.2.1 86 = .ok (.iload_n 1, 1) := by decide +kernel
theorem J_HFinder_part_d87 : decode J_HFinder_part.2.1 87 = .ok (.iaload, 1) := by decide +kernel
theorem J_HFinder_part_d88 : decode J_HFinder_part.2.1 88 = .ok (.ireturn, 1) := by decide +kernel
theorem f_HFinder_part_ok {L : Nat} {xs : Nat → Int32} {dep : Nat} {w : Bool} {p0 : Int32} {p1 : Int32} {M : im_M} {Q : Int32 → Prop} (hM : lw_S w M) (h : ed (f_HFinder_part p0 p1 M) Q) : ia (tb_G L xs) dep J_HFinder_part (rpI M Q) (0, lv_args 0 [.ref 59, .int p0, .int p1], [], M) := by
  have hS : im_St (tb_G L xs) dep J_HFinder_part (ia (tb_G L xs) dep J_HFinder_part (rpI M Q)) := ia_St
  unfold f_HFinder_part at h
  have l0 : im_lk (lv_args 0 [.ref 59, .int p0, .int p1]) 0 = some (.ref 59) := rfl
  have l1 : im_lk (lv_args 0 [.ref 59, .int p0, .int p1]) 1 = some (.int p0) := rfl
  have l2 : im_lk (lv_args 0 [.ref 59, .int p0, .int p1]) 2 = some (.int p1) := rfl
  refine iq_aload_n hS 1 J_HFinder_part_d0 l0 rfl ?_
  refine iq_getR hS 4 J_HFinder_part_d1 lf_3_23 (Or.inr ⟨_, rfl⟩) (ka_59 hM) (ra_59_4 hM) rfl ?_
  refine iq_iload_n hS 5 J_HFinder_part_d4 l1 rfl ?_
  obtain ⟨g5, h⟩ := ed_gd h
  refine iq_laload hS 6 J_HFinder_part_d5 ⟨(ka_62 hM).1, (ka_62 hM).2, g5.1, ix_lt (kl_62 hM) g5.2⟩ rfl ?_
  refine iq_lstore_n hS 7 J_HFinder_part_d6 (by decide) rfl ?_
  refine iq_iload_n hS 8 J_HFinder_part_d7 (lk_2i l2 (by decide) (by decide)) rfl ?_
  by_cases q8_0 : p1 = 0
  · replace h := ed_pos q8_0 h
    refine iq_tsw hS J_HFinder_part_d8 (t := 44) (sw_v q8_0 (by decide +kernel)) ?_
    refine iq_lload_n hS 45 J_HFinder_part_d44 lk_2s rfl ?_
    refine iq_bipush hS 47 J_HFinder_part_d45 (v := 13) (by decide +kernel) rfl ?_
    refine iq_lshr hS 48 J_HFinder_part_d47 rfl ?_
    refine iq_l2i hS 49 J_HFinder_part_d48 rfl ?_
    refine iq_sipush hS 52 J_HFinder_part_d49 (v := 511) (by decide +kernel) rfl ?_
    refine iq_iand hS 53 J_HFinder_part_d52 rfl ?_
    exact iq_iret J_HFinder_part_d53 rfl rfl ⟨_, rfl, rfl, ed_some h⟩
  replace h := ed_neg q8_0 h
  by_cases q8_1 : p1 = 1
  · replace h := ed_pos q8_1 h
    refine iq_tsw hS J_HFinder_part_d8 (t := 54) (sw_v q8_1 (by decide +kernel)) ?_
    refine iq_lload_n hS 55 J_HFinder_part_d54 lk_2s rfl ?_
    refine iq_bipush hS 57 J_HFinder_part_d55 (v := 22) (by decide +kernel) rfl ?_
    refine iq_lshr hS 58 J_HFinder_part_d57 rfl ?_
    refine iq_l2i hS 59 J_HFinder_part_d58 rfl ?_
    exact iq_iret J_HFinder_part_d59 rfl rfl ⟨_, rfl, rfl, ed_some h⟩
  replace h := ed_neg q8_1 h
  by_cases q8_2 : p1 = 2
  · replace h := ed_pos q8_2 h
    refine iq_tsw hS J_HFinder_part_d8 (t := 60) (sw_v q8_2 (by decide +kernel)) ?_
    refine iq_lload_n hS 61 J_HFinder_part_d60 lk_2s rfl ?_
    refine iq_bipush hS 63 J_HFinder_part_d61 (v := 8) (by decide +kernel) rfl ?_
    refine iq_lshr hS 64 J_HFinder_part_d63 rfl ?_
    refine iq_l2i hS 65 J_HFinder_part_d64 rfl ?_
    refine iq_bipush hS 67 J_HFinder_part_d65 (v := 31) (by decide +kernel) rfl ?_
    refine iq_iand hS 68 J_HFinder_part_d67 rfl ?_
    exact iq_iret J_HFinder_part_d68 rfl rfl ⟨_, rfl, rfl, ed_some h⟩
  replace h := ed_neg q8_2 h
  by_cases q8_3 : p1 = 3
  · replace h := ed_pos q8_3 h
    refine iq_tsw hS J_HFinder_part_d8 (t := 69) (sw_v q8_3 (by decide +kernel)) ?_
    refine iq_lload_n hS 70 J_HFinder_part_d69 lk_2s rfl ?_
    refine iq_iconst hS 71 J_HFinder_part_d70 (v := 2) (by decide +kernel) rfl ?_
    refine iq_lshr hS 72 J_HFinder_part_d71 rfl ?_
    refine iq_l2i hS 73 J_HFinder_part_d72 rfl ?_
    refine iq_bipush hS 75 J_HFinder_part_d73 (v := 63) (by decide +kernel) rfl ?_
    refine iq_iand hS 76 J_HFinder_part_d75 rfl ?_
    exact iq_iret J_HFinder_part_d76 rfl rfl ⟨_, rfl, rfl, ed_some h⟩
  replace h := ed_neg q8_3 h
  by_cases q8_4 : p1 = 4
  · replace h := ed_pos q8_4 h
    refine iq_tsw hS J_HFinder_part_d8 (t := 77) (sw_v q8_4 (by decide +kernel)) ?_
    refine iq_lload_n hS 78 J_HFinder_part_d77 lk_2s rfl ?_
    refine iq_l2i hS 79 J_HFinder_part_d78 rfl ?_
    refine iq_iconst hS 80 J_HFinder_part_d79 (v := 3) (by decide +kernel) rfl ?_
    refine iq_iand hS 81 J_HFinder_part_d80 rfl ?_
    exact iq_iret J_HFinder_part_d81 rfl rfl ⟨_, rfl, rfl, ed_some h⟩
  replace h := ed_neg q8_4 h
  refine iq_tsw hS J_HFinder_part_d8 (t := 82) (sw_d [0, 1, 2, 3, 4] (by decide) (by decide) (by decide +kernel) (sw_nc q8_0 (sw_nc q8_1 (sw_nc q8_2 (sw_nc q8_3 (sw_nc q8_4 sw_nn)))))) ?_
  refine iq_aload_n hS 83 J_HFinder_part_d82 (lk_2r l0 (by decide) (by decide)) rfl ?_
  refine iq_getR hS 86 J_HFinder_part_d83 lf_3_27 (Or.inr ⟨_, rfl⟩) (ka_59 hM) (ra_59_5 hM) rfl ?_
  refine iq_iload_n hS 87 J_HFinder_part_d86 (lk_2i l1 (by decide) (by decide)) rfl ?_
  obtain ⟨g87, h⟩ := ed_gd h
  refine iq_iaload hS 88 J_HFinder_part_d87 ⟨(ka_63 hM).1, (ka_63 hM).2, g87.1, ix_lt (kl_63 hM) g87.2⟩ rfl ?_
  exact iq_iret J_HFinder_part_d88 rfl rfl ⟨_, rfl, rfl, ed_some h⟩
noncomputable def f_HFinder_haveCommonDot (p0 : Int32) (p1 : Int32) (M : im_M) : Option (Int32) := bd1 (f_HFinder_part p0 2 M) fun (x1 : Int32) => bd1 (f_HFinder_part p0 3 M) fun (x2 : Int32) => bd1 (f_HFinder_part p1 2 M) fun (x3 : Int32) => bd1 (f_HFinder_part p1 3 M) fun (x4 : Int32) => bd1 (f_HFinder_part p0 0 M) fun (x5 : Int32) => bd1 (f_HFinder_part p1 0 M) fun (x6 : Int32) => if (x6 + (x3 * ((17 : Int32) + ((4 : Int32) * x4)))) ≤ x5 then some 0 else bd1 (f_HFinder_part p1 0 M) fun (x7 : Int32) => bd1 (f_HFinder_part p0 0 M) fun (x8 : Int32) => if (x8 + (x1 * ((17 : Int32) + ((4 : Int32) * x2)))) ≤ x7 then some 0 else bd1 (f_HFinder_part p0 1 M) fun (x9 : Int32) => bd1 (f_HFinder_part p1 1 M) fun (x10 : Int32) => if (x10 + (x3 * ((17 : Int32) + ((4 : Int32) * x4)))) ≤ x9 then some 0 else bd1 (f_HFinder_part p1 1 M) fun (x11 : Int32) => bd1 (f_HFinder_part p0 1 M) fun (x12 : Int32) => if (x12 + (x1 * ((17 : Int32) + ((4 : Int32) * x2)))) ≤ x11 then some 0 else some 1
theorem J_HFinder_haveCommonDot_d0 : decode J_HFinder_haveCommonDot.2.1 0 = .ok (.aload_n 0, 1) := by decide +kernel
theorem J_HFinder_haveCommonDot_d1 : decode J_HFinder_haveCommonDot.2.1 1 = .ok (.iload_n 1, 1) := by decide +kernel
theorem J_HFinder_haveCommonDot_d2 : decode J_HFinder_haveCommonDot.2.1 2 = .ok (.iconst 2, 1) := by decide +kernel
theorem J_HFinder_haveCommonDot_d3 : decode J_HFinder_haveCommonDot.2.1 3 = .ok (.invokevirtual 129, 3) := by decide +kernel
theorem J_HFinder_haveCommonDot_d6 : decode J_HFinder_haveCommonDot.2.1 6 = .ok (.bipush 17, 2) := by decide +kernel
theorem J_HFinder_haveCommonDot_d8 : decode J_HFinder_haveCommonDot.2.1 8 = .ok (.iconst 4, 1) := by decide +kernel
theorem J_HFinder_haveCommonDot_d9 : decode J_HFinder_haveCommonDot.2.1 9 = .ok (.aload_n 0, 1) := by decide +kernel
theorem J_HFinder_haveCommonDot_d10 : decode J_HFinder_haveCommonDot.2.1 10 = .ok (.iload_n 1, 1) := by decide +kernel
theorem J_HFinder_haveCommonDot_d11 : decode J_HFinder_haveCommonDot.2.1 11 = .ok (.iconst 3, 1) := by decide +kernel
theorem J_HFinder_haveCommonDot_d12 : decode J_HFinder_haveCommonDot.2.1 12 = .ok (.invokevirtual 129, 3) := by decide +kernel
theorem J_HFinder_haveCommonDot_d15 : decode J_HFinder_haveCommonDot.2.1 15 = .ok (.imul, 1) := by decide +kernel
theorem J_HFinder_haveCommonDot_d16 : decode J_HFinder_haveCommonDot.2.1 16 = .ok (.iadd, 1) := by decide +kernel
theorem J_HFinder_haveCommonDot_d17 : decode J_HFinder_haveCommonDot.2.1 17 = .ok (.imul, 1) := by decide +kernel
theorem J_HFinder_haveCommonDot_d18 : decode J_HFinder_haveCommonDot.2.1 18 = .ok (.istore_n 3, 1) := by decide +kernel
theorem J_HFinder_haveCommonDot_d19 : decode J_HFinder_haveCommonDot.2.1 19 = .ok (.aload_n 0, 1) := by decide +kernel
theorem J_HFinder_haveCommonDot_d20 : decode J_HFinder_haveCommonDot.2.1 20 = .ok (.iload_n 2, 1) := by decide +kernel
theorem J_HFinder_haveCommonDot_d21 : decode J_HFinder_haveCommonDot.2.1 21 = .ok (.iconst 2, 1) := by decide +kernel
theorem J_HFinder_haveCommonDot_d22 : decode J_HFinder_haveCommonDot.2.1 22 = .ok (.invokevirtual 129, 3) := by decide +kernel
theorem J_HFinder_haveCommonDot_d25 : decode J_HFinder_haveCommonDot.2.1 25 = .ok (.bipush 17, 2) := by decide +kernel
theorem J_HFinder_haveCommonDot_d27 : decode J_HFinder_haveCommonDot.2.1 27 = .ok (.iconst 4, 1) := by decide +kernel
theorem J_HFinder_haveCommonDot_d28 : decode J_HFinder_haveCommonDot.2.1 28 = .ok (.aload_n 0, 1) := by decide +kernel
theorem J_HFinder_haveCommonDot_d29 : decode J_HFinder_haveCommonDot.2.1 29 = .ok (.iload_n 2, 1) := by decide +kernel
theorem J_HFinder_haveCommonDot_d30 : decode J_HFinder_haveCommonDot.2.1 30 = .ok (.iconst 3, 1) := by decide +kernel
theorem J_HFinder_haveCommonDot_d31 : decode J_HFinder_haveCommonDot.2.1 31 = .ok (.invokevirtual 129, 3) := by decide +kernel
theorem J_HFinder_haveCommonDot_d34 : decode J_HFinder_haveCommonDot.2.1 34 = .ok (.imul, 1) := by decide +kernel
theorem J_HFinder_haveCommonDot_d35 : decode J_HFinder_haveCommonDot.2.1 35 = .ok (.iadd, 1) := by decide +kernel
theorem J_HFinder_haveCommonDot_d36 : decode J_HFinder_haveCommonDot.2.1 36 = .ok (.imul, 1) := by decide +kernel
theorem J_HFinder_haveCommonDot_d37 : decode J_HFinder_haveCommonDot.2.1 37 = .ok (.istore 4, 2) := by decide +kernel
theorem J_HFinder_haveCommonDot_d39 : decode J_HFinder_haveCommonDot.2.1 39 = .ok (.aload_n 0, 1) := by decide +kernel
theorem J_HFinder_haveCommonDot_d40 : decode J_HFinder_haveCommonDot.2.1 40 = .ok (.iload_n 1, 1) := by decide +kernel
theorem J_HFinder_haveCommonDot_d41 : decode J_HFinder_haveCommonDot.2.1 41 = .ok (.iconst 0, 1) := by decide +kernel
theorem J_HFinder_haveCommonDot_d42 : decode J_HFinder_haveCommonDot.2.1 42 = .ok (.invokevirtual 129, 3) := by decide +kernel
theorem J_HFinder_haveCommonDot_d45 : decode J_HFinder_haveCommonDot.2.1 45 = .ok (.aload_n 0, 1) := by decide +kernel
theorem J_HFinder_haveCommonDot_d46 : decode J_HFinder_haveCommonDot.2.1 46 = .ok (.iload_n 2, 1) := by decide +kernel
theorem J_HFinder_haveCommonDot_d47 : decode J_HFinder_haveCommonDot.2.1 47 = .ok (.iconst 0, 1) := by decide +kernel
theorem J_HFinder_haveCommonDot_d48 : decode J_HFinder_haveCommonDot.2.1 48 = .ok (.invokevirtual 129, 3) := by decide +kernel
theorem J_HFinder_haveCommonDot_d51 : decode J_HFinder_haveCommonDot.2.1 51 = .ok (.iload 4, 2) := by decide +kernel
theorem J_HFinder_haveCommonDot_d53 : decode J_HFinder_haveCommonDot.2.1 53 = .ok (.iadd, 1) := by decide +kernel
theorem J_HFinder_haveCommonDot_d54 : decode J_HFinder_haveCommonDot.2.1 54 = .ok (.if_icmp .ge 59, 3) := by decide +kernel
theorem J_HFinder_haveCommonDot_d57 : decode J_HFinder_haveCommonDot.2.1 57 = .ok (.aload_n 0, 1) := by decide +kernel
theorem J_HFinder_haveCommonDot_d58 : decode J_HFinder_haveCommonDot.2.1 58 = .ok (.iload_n 2, 1) := by decide +kernel
theorem J_HFinder_haveCommonDot_d59 : decode J_HFinder_haveCommonDot.2.1 59 = .ok (.iconst 0, 1) := by decide +kernel
theorem J_HFinder_haveCommonDot_d60 : decode J_HFinder_haveCommonDot.2.1 60 = .ok (.invokevirtual 129, 3) := by decide +kernel
theorem J_HFinder_haveCommonDot_d63 : decode J_HFinder_haveCommonDot.2.1 63 = .ok (.aload_n 0, 1) := by decide +kernel
theorem J_HFinder_haveCommonDot_d64 : decode J_HFinder_haveCommonDot.2.1 64 = .ok (.iload_n 1, 1) := by decide +kernel
theorem J_HFinder_haveCommonDot_d65 : decode J_HFinder_haveCommonDot.2.1 65 = .ok (.iconst 0, 1) := by decide +kernel
theorem J_HFinder_haveCommonDot_d66 : decode J_HFinder_haveCommonDot.2.1 66 = .ok (.invokevirtual 129, 3) := by decide +kernel
theorem J_HFinder_haveCommonDot_d69 : decode J_HFinder_haveCommonDot.2.1 69 = .ok (.iload_n 3, 1) := by decide +kernel
theorem J_HFinder_haveCommonDot_d70 : decode J_HFinder_haveCommonDot.2.1 70 = .ok (.iadd, 1) := by decide +kernel
theorem J_HFinder_haveCommonDot_d71 : decode J_HFinder_haveCommonDot.2.1 71 = .ok (.if_icmp .ge 42, 3) := by decide +kernel
theorem J_HFinder_haveCommonDot_d74 : decode J_HFinder_haveCommonDot.2.1 74 = .ok (.aload_n 0, 1) := by decide +kernel
theorem J_HFinder_haveCommonDot_d75 : decode J_HFinder_haveCommonDot.2.1 75 = .ok (.iload_n 1, 1) := by decide +kernel
theorem J_HFinder_haveCommonDot_d76 : decode J_HFinder_haveCommonDot.2.1 76 = .ok (.iconst 1, 1) := by decide +kernel
theorem J_HFinder_haveCommonDot_d77 : decode J_HFinder_haveCommonDot.2.1 77 = .ok (.invokevirtual 129, 3) := by decide +kernel
theorem J_HFinder_haveCommonDot_d80 : decode J_HFinder_haveCommonDot.2.1 80 = .ok (.aload_n 0, 1) := by decide +kernel
theorem J_HFinder_haveCommonDot_d81 : decode J_HFinder_haveCommonDot.2.1 81 = .ok (.iload_n 2, 1) := by decide +kernel
theorem J_HFinder_haveCommonDot_d82 : decode J_HFinder_haveCommonDot.2.1 82 = .ok (.iconst 1, 1) := by decide +kernel
theorem J_HFinder_haveCommonDot_d83 : decode J_HFinder_haveCommonDot.2.1 83 = .ok (.invokevirtual 129, 3) := by decide +kernel
theorem J_HFinder_haveCommonDot_d86 : decode J_HFinder_haveCommonDot.2.1 86 = .ok (.iload 4, 2) := by decide +kernel
theorem J_HFinder_haveCommonDot_d88 : decode J_HFinder_haveCommonDot.2.1 88 = .ok (.iadd, 1) := by decide +kernel
theorem J_HFinder_haveCommonDot_d89 : decode J_HFinder_haveCommonDot.2.1 89 = .ok (.if_icmp .ge 24, 3) := by decide +kernel
theorem J_HFinder_haveCommonDot_d92 : decode J_HFinder_haveCommonDot.2.1 92 = .ok (.aload_n 0, 1) := by decide +kernel
theorem J_HFinder_haveCommonDot_d93 : decode J_HFinder_haveCommonDot.2.1 93 = .ok (.iload_n 2, 1) := by decide +kernel
theorem J_HFinder_haveCommonDot_d94 : decode J_HFinder_haveCommonDot.2.1 94 = .ok (.iconst 1, 1) := by decide +kernel
theorem J_HFinder_haveCommonDot_d95 : decode J_HFinder_haveCommonDot.2.1 95 = .ok (.invokevirtual 129, 3) := by decide +kernel
theorem J_HFinder_haveCommonDot_d98 : decode J_HFinder_haveCommonDot.2.1 98 = .ok (.aload_n 0, 1) := by decide +kernel
theorem J_HFinder_haveCommonDot_d99 : decode J_HFinder_haveCommonDot.2.1 99 = .ok (.iload_n 1, 1) := by decide +kernel
theorem J_HFinder_haveCommonDot_d100 : decode J_HFinder_haveCommonDot.2.1 100 = .ok (.iconst 1, 1) := by decide +kernel
theorem J_HFinder_haveCommonDot_d101 : decode J_HFinder_haveCommonDot.2.1 101 = .ok (.invokevirtual 129, 3) := by decide +kernel
theorem J_HFinder_haveCommonDot_d104 : decode J_HFinder_haveCommonDot.2.1 104 = .ok (.iload_n 3, 1) := by decide +kernel
theorem J_HFinder_haveCommonDot_d105 : decode J_HFinder_haveCommonDot.2.1 105 = .ok (.iadd, 1) := by decide +kernel
theorem J_HFinder_haveCommonDot_d106 : decode J_HFinder_haveCommonDot.2.1 106 = .ok (.if_icmp .ge 7, 3) := by decide +kernel
theorem J_HFinder_haveCommonDot_d109 : decode J_HFinder_haveCommonDot.2.1 109 = .ok (.iconst 1, 1) := by decide +kernel
theorem J_HFinder_haveCommonDot_d110 : decode J_HFinder_haveCommonDot.2.1 110 = .ok (.goto 4, 3) := by decide +kernel
theorem J_HFinder_haveCommonDot_d113 : decode J_HFinder_haveCommonDot.2.1 113 = .ok (.iconst 0, 1) := by decide +kernel
theorem J_HFinder_haveCommonDot_d114 : decode J_HFinder_haveCommonDot.2.1 114 = .ok (.ireturn, 1) := by decide +kernel
theorem f_HFinder_haveCommonDot_ok {L : Nat} {xs : Nat → Int32} {dep : Nat} {w : Bool} {p0 : Int32} {p1 : Int32} {M : im_M} {Q : Int32 → Prop} (hM : lw_S w M) (h : ed (f_HFinder_haveCommonDot p0 p1 M) Q) : ia (tb_G L xs) (dep + 1) J_HFinder_haveCommonDot (rpI M Q) (0, lv_args 0 [.ref 59, .int p0, .int p1], [], M) := by
  have hS : im_St (tb_G L xs) (dep + 1) J_HFinder_haveCommonDot (ia (tb_G L xs) (dep + 1) J_HFinder_haveCommonDot (rpI M Q)) := ia_St
  unfold f_HFinder_haveCommonDot at h
  have l0 : im_lk (lv_args 0 [.ref 59, .int p0, .int p1]) 0 = some (.ref 59) := rfl
  have l1 : im_lk (lv_args 0 [.ref 59, .int p0, .int p1]) 1 = some (.int p0) := rfl
  have l2 : im_lk (lv_args 0 [.ref 59, .int p0, .int p1]) 2 = some (.int p1) := rfl
  refine iq_aload_n hS 1 J_HFinder_haveCommonDot_d0 l0 rfl ?_
  refine iq_iload_n hS 2 J_HFinder_haveCommonDot_d1 l1 rfl ?_
  refine iq_iconst hS 3 J_HFinder_haveCommonDot_d2 (v := 2) (by decide +kernel) rfl ?_
  obtain ⟨Q1, hQ1, h⟩ := bd1_ed h
  refine iq_cpI hS 6 J_HFinder_haveCommonDot_d3 rfl (pr_inst (vs := [_, _]) lc_3_129 lT_216 rfl rfl (by decide) (by decide) rfl (Nat.le_of_ble_eq_true rfl) (Nat.le_of_ble_eq_true rfl) (fun _ => Or.inl (pr_b (ka_59 hM) (by decide) rfl))) (f_HFinder_part_ok (dep := dep + 0) hM h) rfl ?_
  intro x1 h
  replace h := hQ1 _ h
  refine iq_bipush hS 8 J_HFinder_haveCommonDot_d6 (v := 17) (by decide +kernel) rfl ?_
  refine iq_iconst hS 9 J_HFinder_haveCommonDot_d8 (v := 4) (by decide +kernel) rfl ?_
  refine iq_aload_n hS 10 J_HFinder_haveCommonDot_d9 l0 rfl ?_
  refine iq_iload_n hS 11 J_HFinder_haveCommonDot_d10 l1 rfl ?_
  refine iq_iconst hS 12 J_HFinder_haveCommonDot_d11 (v := 3) (by decide +kernel) rfl ?_
  obtain ⟨Q2, hQ2, h⟩ := bd1_ed h
  refine iq_cpI hS 15 J_HFinder_haveCommonDot_d12 rfl (pr_inst (vs := [_, _]) lc_3_129 lT_216 rfl rfl (by decide) (by decide) rfl (Nat.le_of_ble_eq_true rfl) (Nat.le_of_ble_eq_true rfl) (fun _ => Or.inl (pr_b (ka_59 hM) (by decide) rfl))) (f_HFinder_part_ok (dep := dep + 0) hM h) rfl ?_
  intro x2 h
  replace h := hQ2 _ h
  refine iq_imul hS 16 J_HFinder_haveCommonDot_d15 rfl ?_
  refine iq_iadd hS 17 J_HFinder_haveCommonDot_d16 rfl ?_
  refine iq_imul hS 18 J_HFinder_haveCommonDot_d17 rfl ?_
  refine iq_istore_n hS 19 J_HFinder_haveCommonDot_d18 (by decide) rfl ?_
  refine iq_aload_n hS 20 J_HFinder_haveCommonDot_d19 (lk_1r l0 (by decide)) rfl ?_
  refine iq_iload_n hS 21 J_HFinder_haveCommonDot_d20 (lk_1i l2 (by decide)) rfl ?_
  refine iq_iconst hS 22 J_HFinder_haveCommonDot_d21 (v := 2) (by decide +kernel) rfl ?_
  obtain ⟨Q3, hQ3, h⟩ := bd1_ed h
  refine iq_cpI hS 25 J_HFinder_haveCommonDot_d22 rfl (pr_inst (vs := [_, _]) lc_3_129 lT_216 rfl rfl (by decide) (by decide) rfl (Nat.le_of_ble_eq_true rfl) (Nat.le_of_ble_eq_true rfl) (fun _ => Or.inl (pr_b (ka_59 hM) (by decide) rfl))) (f_HFinder_part_ok (dep := dep + 0) hM h) rfl ?_
  intro x3 h
  replace h := hQ3 _ h
  refine iq_bipush hS 27 J_HFinder_haveCommonDot_d25 (v := 17) (by decide +kernel) rfl ?_
  refine iq_iconst hS 28 J_HFinder_haveCommonDot_d27 (v := 4) (by decide +kernel) rfl ?_
  refine iq_aload_n hS 29 J_HFinder_haveCommonDot_d28 (lk_1r l0 (by decide)) rfl ?_
  refine iq_iload_n hS 30 J_HFinder_haveCommonDot_d29 (lk_1i l2 (by decide)) rfl ?_
  refine iq_iconst hS 31 J_HFinder_haveCommonDot_d30 (v := 3) (by decide +kernel) rfl ?_
  obtain ⟨Q4, hQ4, h⟩ := bd1_ed h
  refine iq_cpI hS 34 J_HFinder_haveCommonDot_d31 rfl (pr_inst (vs := [_, _]) lc_3_129 lT_216 rfl rfl (by decide) (by decide) rfl (Nat.le_of_ble_eq_true rfl) (Nat.le_of_ble_eq_true rfl) (fun _ => Or.inl (pr_b (ka_59 hM) (by decide) rfl))) (f_HFinder_part_ok (dep := dep + 0) hM h) rfl ?_
  intro x4 h
  replace h := hQ4 _ h
  refine iq_imul hS 35 J_HFinder_haveCommonDot_d34 rfl ?_
  refine iq_iadd hS 36 J_HFinder_haveCommonDot_d35 rfl ?_
  refine iq_imul hS 37 J_HFinder_haveCommonDot_d36 rfl ?_
  refine iq_istore hS 39 J_HFinder_haveCommonDot_d37 (by decide) rfl ?_
  refine iq_aload_n hS 40 J_HFinder_haveCommonDot_d39 (lk_1r (lk_1r l0 (by decide)) (by decide)) rfl ?_
  refine iq_iload_n hS 41 J_HFinder_haveCommonDot_d40 (lk_1i (lk_1i l1 (by decide)) (by decide)) rfl ?_
  refine iq_iconst hS 42 J_HFinder_haveCommonDot_d41 (v := 0) (by decide +kernel) rfl ?_
  obtain ⟨Q5, hQ5, h⟩ := bd1_ed h
  refine iq_cpI hS 45 J_HFinder_haveCommonDot_d42 rfl (pr_inst (vs := [_, _]) lc_3_129 lT_216 rfl rfl (by decide) (by decide) rfl (Nat.le_of_ble_eq_true rfl) (Nat.le_of_ble_eq_true rfl) (fun _ => Or.inl (pr_b (ka_59 hM) (by decide) rfl))) (f_HFinder_part_ok (dep := dep + 0) hM h) rfl ?_
  intro x5 h
  replace h := hQ5 _ h
  refine iq_aload_n hS 46 J_HFinder_haveCommonDot_d45 (lk_1r (lk_1r l0 (by decide)) (by decide)) rfl ?_
  refine iq_iload_n hS 47 J_HFinder_haveCommonDot_d46 (lk_1i (lk_1i l2 (by decide)) (by decide)) rfl ?_
  refine iq_iconst hS 48 J_HFinder_haveCommonDot_d47 (v := 0) (by decide +kernel) rfl ?_
  obtain ⟨Q6, hQ6, h⟩ := bd1_ed h
  refine iq_cpI hS 51 J_HFinder_haveCommonDot_d48 rfl (pr_inst (vs := [_, _]) lc_3_129 lT_216 rfl rfl (by decide) (by decide) rfl (Nat.le_of_ble_eq_true rfl) (Nat.le_of_ble_eq_true rfl) (fun _ => Or.inl (pr_b (ka_59 hM) (by decide) rfl))) (f_HFinder_part_ok (dep := dep + 0) hM h) rfl ?_
  intro x6 h
  replace h := hQ6 _ h
  refine iq_iload hS 53 J_HFinder_haveCommonDot_d51 lk_1s rfl ?_
  refine iq_iadd hS 54 J_HFinder_haveCommonDot_d53 rfl ?_
  refine iq_icmp_ge hS 57 J_HFinder_haveCommonDot_d54 (t := 113) rfl (fun q54 => ?_) rfl (fun q54 => ?_)
  · replace h := ed_pos q54 h
    refine iq_iconst hS 114 J_HFinder_haveCommonDot_d113 (v := 0) (by decide +kernel) rfl ?_
    exact iq_iret J_HFinder_haveCommonDot_d114 rfl rfl ⟨_, rfl, rfl, ed_some h⟩
  · replace h := ed_neg q54 h
    refine iq_aload_n hS 58 J_HFinder_haveCommonDot_d57 (lk_1r (lk_1r l0 (by decide)) (by decide)) rfl ?_
    refine iq_iload_n hS 59 J_HFinder_haveCommonDot_d58 (lk_1i (lk_1i l2 (by decide)) (by decide)) rfl ?_
    refine iq_iconst hS 60 J_HFinder_haveCommonDot_d59 (v := 0) (by decide +kernel) rfl ?_
    obtain ⟨Q7, hQ7, h⟩ := bd1_ed h
    refine iq_cpI hS 63 J_HFinder_haveCommonDot_d60 rfl (pr_inst (vs := [_, _]) lc_3_129 lT_216 rfl rfl (by decide) (by decide) rfl (Nat.le_of_ble_eq_true rfl) (Nat.le_of_ble_eq_true rfl) (fun _ => Or.inl (pr_b (ka_59 hM) (by decide) rfl))) (f_HFinder_part_ok (dep := dep + 0) hM h) rfl ?_
    intro x7 h
    replace h := hQ7 _ h
    refine iq_aload_n hS 64 J_HFinder_haveCommonDot_d63 (lk_1r (lk_1r l0 (by decide)) (by decide)) rfl ?_
    refine iq_iload_n hS 65 J_HFinder_haveCommonDot_d64 (lk_1i (lk_1i l1 (by decide)) (by decide)) rfl ?_
    refine iq_iconst hS 66 J_HFinder_haveCommonDot_d65 (v := 0) (by decide +kernel) rfl ?_
    obtain ⟨Q8, hQ8, h⟩ := bd1_ed h
    refine iq_cpI hS 69 J_HFinder_haveCommonDot_d66 rfl (pr_inst (vs := [_, _]) lc_3_129 lT_216 rfl rfl (by decide) (by decide) rfl (Nat.le_of_ble_eq_true rfl) (Nat.le_of_ble_eq_true rfl) (fun _ => Or.inl (pr_b (ka_59 hM) (by decide) rfl))) (f_HFinder_part_ok (dep := dep + 0) hM h) rfl ?_
    intro x8 h
    replace h := hQ8 _ h
    refine iq_iload_n hS 70 J_HFinder_haveCommonDot_d69 (lk_1i lk_1s (by decide)) rfl ?_
    refine iq_iadd hS 71 J_HFinder_haveCommonDot_d70 rfl ?_
    refine iq_icmp_ge hS 74 J_HFinder_haveCommonDot_d71 (t := 113) rfl (fun q71 => ?_) rfl (fun q71 => ?_)
    · replace h := ed_pos q71 h
      refine iq_iconst hS 114 J_HFinder_haveCommonDot_d113 (v := 0) (by decide +kernel) rfl ?_
      exact iq_iret J_HFinder_haveCommonDot_d114 rfl rfl ⟨_, rfl, rfl, ed_some h⟩
    · replace h := ed_neg q71 h
      refine iq_aload_n hS 75 J_HFinder_haveCommonDot_d74 (lk_1r (lk_1r l0 (by decide)) (by decide)) rfl ?_
      refine iq_iload_n hS 76 J_HFinder_haveCommonDot_d75 (lk_1i (lk_1i l1 (by decide)) (by decide)) rfl ?_
      refine iq_iconst hS 77 J_HFinder_haveCommonDot_d76 (v := 1) (by decide +kernel) rfl ?_
      obtain ⟨Q9, hQ9, h⟩ := bd1_ed h
      refine iq_cpI hS 80 J_HFinder_haveCommonDot_d77 rfl (pr_inst (vs := [_, _]) lc_3_129 lT_216 rfl rfl (by decide) (by decide) rfl (Nat.le_of_ble_eq_true rfl) (Nat.le_of_ble_eq_true rfl) (fun _ => Or.inl (pr_b (ka_59 hM) (by decide) rfl))) (f_HFinder_part_ok (dep := dep + 0) hM h) rfl ?_
      intro x9 h
      replace h := hQ9 _ h
      refine iq_aload_n hS 81 J_HFinder_haveCommonDot_d80 (lk_1r (lk_1r l0 (by decide)) (by decide)) rfl ?_
      refine iq_iload_n hS 82 J_HFinder_haveCommonDot_d81 (lk_1i (lk_1i l2 (by decide)) (by decide)) rfl ?_
      refine iq_iconst hS 83 J_HFinder_haveCommonDot_d82 (v := 1) (by decide +kernel) rfl ?_
      obtain ⟨Q10, hQ10, h⟩ := bd1_ed h
      refine iq_cpI hS 86 J_HFinder_haveCommonDot_d83 rfl (pr_inst (vs := [_, _]) lc_3_129 lT_216 rfl rfl (by decide) (by decide) rfl (Nat.le_of_ble_eq_true rfl) (Nat.le_of_ble_eq_true rfl) (fun _ => Or.inl (pr_b (ka_59 hM) (by decide) rfl))) (f_HFinder_part_ok (dep := dep + 0) hM h) rfl ?_
      intro x10 h
      replace h := hQ10 _ h
      refine iq_iload hS 88 J_HFinder_haveCommonDot_d86 lk_1s rfl ?_
      refine iq_iadd hS 89 J_HFinder_haveCommonDot_d88 rfl ?_
      refine iq_icmp_ge hS 92 J_HFinder_haveCommonDot_d89 (t := 113) rfl (fun q89 => ?_) rfl (fun q89 => ?_)
      · replace h := ed_pos q89 h
        refine iq_iconst hS 114 J_HFinder_haveCommonDot_d113 (v := 0) (by decide +kernel) rfl ?_
        exact iq_iret J_HFinder_haveCommonDot_d114 rfl rfl ⟨_, rfl, rfl, ed_some h⟩
      · replace h := ed_neg q89 h
        refine iq_aload_n hS 93 J_HFinder_haveCommonDot_d92 (lk_1r (lk_1r l0 (by decide)) (by decide)) rfl ?_
        refine iq_iload_n hS 94 J_HFinder_haveCommonDot_d93 (lk_1i (lk_1i l2 (by decide)) (by decide)) rfl ?_
        refine iq_iconst hS 95 J_HFinder_haveCommonDot_d94 (v := 1) (by decide +kernel) rfl ?_
        obtain ⟨Q11, hQ11, h⟩ := bd1_ed h
        refine iq_cpI hS 98 J_HFinder_haveCommonDot_d95 rfl (pr_inst (vs := [_, _]) lc_3_129 lT_216 rfl rfl (by decide) (by decide) rfl (Nat.le_of_ble_eq_true rfl) (Nat.le_of_ble_eq_true rfl) (fun _ => Or.inl (pr_b (ka_59 hM) (by decide) rfl))) (f_HFinder_part_ok (dep := dep + 0) hM h) rfl ?_
        intro x11 h
        replace h := hQ11 _ h
        refine iq_aload_n hS 99 J_HFinder_haveCommonDot_d98 (lk_1r (lk_1r l0 (by decide)) (by decide)) rfl ?_
        refine iq_iload_n hS 100 J_HFinder_haveCommonDot_d99 (lk_1i (lk_1i l1 (by decide)) (by decide)) rfl ?_
        refine iq_iconst hS 101 J_HFinder_haveCommonDot_d100 (v := 1) (by decide +kernel) rfl ?_
        obtain ⟨Q12, hQ12, h⟩ := bd1_ed h
        refine iq_cpI hS 104 J_HFinder_haveCommonDot_d101 rfl (pr_inst (vs := [_, _]) lc_3_129 lT_216 rfl rfl (by decide) (by decide) rfl (Nat.le_of_ble_eq_true rfl) (Nat.le_of_ble_eq_true rfl) (fun _ => Or.inl (pr_b (ka_59 hM) (by decide) rfl))) (f_HFinder_part_ok (dep := dep + 0) hM h) rfl ?_
        intro x12 h
        replace h := hQ12 _ h
        refine iq_iload_n hS 105 J_HFinder_haveCommonDot_d104 (lk_1i lk_1s (by decide)) rfl ?_
        refine iq_iadd hS 106 J_HFinder_haveCommonDot_d105 rfl ?_
        refine iq_icmp_ge hS 109 J_HFinder_haveCommonDot_d106 (t := 113) rfl (fun q106 => ?_) rfl (fun q106 => ?_)
        · replace h := ed_pos q106 h
          refine iq_iconst hS 114 J_HFinder_haveCommonDot_d113 (v := 0) (by decide +kernel) rfl ?_
          exact iq_iret J_HFinder_haveCommonDot_d114 rfl rfl ⟨_, rfl, rfl, ed_some h⟩
        · replace h := ed_neg q106 h
          refine iq_iconst hS 110 J_HFinder_haveCommonDot_d109 (v := 1) (by decide +kernel) rfl ?_
          refine iq_goto hS J_HFinder_haveCommonDot_d110 (t := 114) rfl ?_
          exact iq_iret J_HFinder_haveCommonDot_d114 rfl rfl ⟨_, rfl, rfl, ed_some h⟩
noncomputable def f_HFinder_keepLeaders_L19 (v5 : Int32) (x6 : Int32) (M7 : im_M) : Option ((Int32 × im_M) ⊕ (im_M)) := if (im_i M7 59 8) ≤ x6 then some (.inr M7) else gd (inb x6 300) <| gd (inb v5 300) <| bd1 (jn0 (fun (_ : Unit) => some 1) fun k9 => if (im_i M7 63 (Int32.toNatClampNeg x6)) < (im_i M7 63 (Int32.toNatClampNeg v5)) then k9 () else gd (inb x6 300) <| gd (inb v5 300) <| jn0 (fun (_ : Unit) => some 0) fun k10 => if ¬ (im_i M7 63 (Int32.toNatClampNeg x6)) = (im_i M7 63 (Int32.toNatClampNeg v5)) then k10 () else if v5 ≤ x6 then k10 () else k9 ()) fun (y17 : Int32) => bd1 (if y17 = 0 then some M7 else bd1 (f_HFinder_haveCommonDot v5 x6 M7) fun (x22 : Int32) => if x22 = 0 then some M7 else gd (inb v5 300) <| some (im_setI M7 64 (Int32.toNatClampNeg v5) (vp_nar .boolean 0))) fun (M23 : im_M) => some (.inl ((x6 + 1), M23))
noncomputable def f_HFinder_keepLeaders_L2 (x2 : Int32) (M3 : im_M) : Option ((Int32 × im_M) ⊕ (im_M)) := if (im_i M3 59 8) ≤ x2 then some (.inr M3) else gd (inb x2 300) <| bd1 (lp (uc2 (f_HFinder_keepLeaders_L19 x2)) (0, (im_setI M3 64 (Int32.toNatClampNeg x2) (vp_nar .boolean 1)))) fun (M27 : im_M) => some (.inl ((x2 + 1), M27))
noncomputable def f_HFinder_keepLeaders_L102 (x30 : Int32) (M31 : im_M) : Option ((Int32 × im_M) ⊕ (im_M)) := if (im_i M31 59 8) ≤ x30 then some (.inr M31) else gd (inb x30 300) <| bd1 (if (im_i M31 64 (Int32.toNatClampNeg x30)) = 0 then some M31 else gd (inb x30 300) <| gd (inb (im_i M31 59 0) 300) <| gd (inb x30 300) <| gd (inb (im_i (im_setL M31 62 (Int32.toNatClampNeg (im_i M31 59 0)) (im_l M31 62 (Int32.toNatClampNeg x30))) 59 0) 300) <| some (im_setI (im_setI (im_setL M31 62 (Int32.toNatClampNeg (im_i M31 59 0)) (im_l M31 62 (Int32.toNatClampNeg x30))) 63 (Int32.toNatClampNeg (im_i (im_setL M31 62 (Int32.toNatClampNeg (im_i M31 59 0)) (im_l M31 62 (Int32.toNatClampNeg x30))) 59 0)) (im_i (im_setL M31 62 (Int32.toNatClampNeg (im_i M31 59 0)) (im_l M31 62 (Int32.toNatClampNeg x30))) 63 (Int32.toNatClampNeg x30))) 59 0 ((im_i (im_setI (im_setL M31 62 (Int32.toNatClampNeg (im_i M31 59 0)) (im_l M31 62 (Int32.toNatClampNeg x30))) 63 (Int32.toNatClampNeg (im_i (im_setL M31 62 (Int32.toNatClampNeg (im_i M31 59 0)) (im_l M31 62 (Int32.toNatClampNeg x30))) 59 0)) (im_i (im_setL M31 62 (Int32.toNatClampNeg (im_i M31 59 0)) (im_l M31 62 (Int32.toNatClampNeg x30))) 63 (Int32.toNatClampNeg x30))) 59 0) + 1))) fun (M33 : im_M) => some (.inl ((x30 + 1), M33))
noncomputable def f_HFinder_keepLeaders (M : im_M) : Option (im_M) := bd1 (lp (uc2 (f_HFinder_keepLeaders_L2)) (0, M)) fun (M28 : im_M) => bd1 (lp (uc2 (f_HFinder_keepLeaders_L102)) (0, M28)) fun (M36 : im_M) => some M36
theorem J_HFinder_keepLeaders_d0 : decode J_HFinder_keepLeaders.2.1 0 = .ok (.iconst 0, 1) := by decide +kernel
theorem J_HFinder_keepLeaders_d1 : decode J_HFinder_keepLeaders.2.1 1 = .ok (.istore_n 1, 1) := by decide +kernel
theorem J_HFinder_keepLeaders_d2 : decode J_HFinder_keepLeaders.2.1 2 = .ok (.iload_n 1, 1) := by decide +kernel
theorem J_HFinder_keepLeaders_d3 : decode J_HFinder_keepLeaders.2.1 3 = .ok (.aload_n 0, 1) := by decide +kernel
theorem J_HFinder_keepLeaders_d4 : decode J_HFinder_keepLeaders.2.1 4 = .ok (.getfield 45, 3) := by decide +kernel
theorem J_HFinder_keepLeaders_d7 : decode J_HFinder_keepLeaders.2.1 7 = .ok (.if_icmp .ge 93, 3) := by decide +kernel
theorem J_HFinder_keepLeaders_d10 : decode J_HFinder_keepLeaders.2.1 10 = .ok (.aload_n 0, 1) := by decide +kernel
theorem J_HFinder_keepLeaders_d11 : decode J_HFinder_keepLeaders.2.1 11 = .ok (.getfield 30, 3) := by decide +kernel
theorem J_HFinder_keepLeaders_d14 : decode J_HFinder_keepLeaders.2.1 14 = .ok (.iload_n 1, 1) := by decide +kernel
theorem J_HFinder_keepLeaders_d15 : decode J_HFinder_keepLeaders.2.1 15 = .ok (.iconst 1, 1) := by decide +kernel
theorem J_HFinder_keepLeaders_d16 : decode J_HFinder_keepLeaders.2.1 16 = .ok (.bastore, 1) := by decide +kernel
theorem J_HFinder_keepLeaders_d17 : decode J_HFinder_keepLeaders.2.1 17 = .ok (.iconst 0, 1) := by decide +kernel
theorem J_HFinder_keepLeaders_d18 : decode J_HFinder_keepLeaders.2.1 18 = .ok (.istore_n 2, 1) := by decide +kernel
theorem J_HFinder_keepLeaders_d19 : decode J_HFinder_keepLeaders.2.1 19 = .ok (.iload_n 2, 1) := by decide +kernel
theorem J_HFinder_keepLeaders_d20 : decode J_HFinder_keepLeaders.2.1 20 = .ok (.aload_n 0, 1) := by decide +kernel
theorem J_HFinder_keepLeaders_d21 : decode J_HFinder_keepLeaders.2.1 21 = .ok (.getfield 45, 3) := by decide +kernel
theorem J_HFinder_keepLeaders_d24 : decode J_HFinder_keepLeaders.2.1 24 = .ok (.if_icmp .ge 70, 3) := by decide +kernel
theorem J_HFinder_keepLeaders_d27 : decode J_HFinder_keepLeaders.2.1 27 = .ok (.aload_n 0, 1) := by decide +kernel
theorem J_HFinder_keepLeaders_d28 : decode J_HFinder_keepLeaders.2.1 28 = .ok (.getfield 27, 3) := by decide +kernel
theorem J_HFinder_keepLeaders_d31 : decode J_HFinder_keepLeaders.2.1 31 = .ok (.iload_n 2, 1) := by decide +kernel
theorem J_HFinder_keepLeaders_d32 : decode J_HFinder_keepLeaders.2.1 32 = .ok (.iaload, 1) := by decide +kernel
theorem J_HFinder_keepLeaders_d33 : decode J_HFinder_keepLeaders.2.1 33 = .ok (.aload_n 0, 1) := by decide +kernel
theorem J_HFinder_keepLeaders_d34 : decode J_HFinder_keepLeaders.2.1 34 = .ok (.getfield 27, 3) := by decide +kernel
theorem J_HFinder_keepLeaders_d37 : decode J_HFinder_keepLeaders.2.1 37 = .ok (.iload_n 1, 1) := by decide +kernel
theorem J_HFinder_keepLeaders_d38 : decode J_HFinder_keepLeaders.2.1 38 = .ok (.iaload, 1) := by decide +kernel
theorem J_HFinder_keepLeaders_d39 : decode J_HFinder_keepLeaders.2.1 39 = .ok (.if_icmp .lt 23, 3) := by decide +kernel
theorem J_HFinder_keepLeaders_d42 : decode J_HFinder_keepLeaders.2.1 42 = .ok (.aload_n 0, 1) := by decide +kernel
theorem J_HFinder_keepLeaders_d43 : decode J_HFinder_keepLeaders.2.1 43 = .ok (.getfield 27, 3) := by decide +kernel
theorem J_HFinder_keepLeaders_d46 : decode J_HFinder_keepLeaders.2.1 46 = .ok (.iload_n 2, 1) := by decide +kernel
theorem J_HFinder_keepLeaders_d47 : decode J_HFinder_keepLeaders.2.1 47 = .ok (.iaload, 1) := by decide +kernel
theorem J_HFinder_keepLeaders_d48 : decode J_HFinder_keepLeaders.2.1 48 = .ok (.aload_n 0, 1) := by decide +kernel
theorem J_HFinder_keepLeaders_d49 : decode J_HFinder_keepLeaders.2.1 49 = .ok (.getfield 27, 3) := by decide +kernel
theorem J_HFinder_keepLeaders_d52 : decode J_HFinder_keepLeaders.2.1 52 = .ok (.iload_n 1, 1) := by decide +kernel
theorem J_HFinder_keepLeaders_d53 : decode J_HFinder_keepLeaders.2.1 53 = .ok (.iaload, 1) := by decide +kernel
theorem J_HFinder_keepLeaders_d54 : decode J_HFinder_keepLeaders.2.1 54 = .ok (.if_icmp .ne 12, 3) := by decide +kernel
theorem J_HFinder_keepLeaders_d57 : decode J_HFinder_keepLeaders.2.1 57 = .ok (.iload_n 2, 1) := by decide +kernel
theorem J_HFinder_keepLeaders_d58 : decode J_HFinder_keepLeaders.2.1 58 = .ok (.iload_n 1, 1) := by decide +kernel
theorem J_HFinder_keepLeaders_d59 : decode J_HFinder_keepLeaders.2.1 59 = .ok (.if_icmp .ge 7, 3) := by decide +kernel
theorem J_HFinder_keepLeaders_d62 : decode J_HFinder_keepLeaders.2.1 62 = .ok (.iconst 1, 1) := by decide +kernel
theorem J_HFinder_keepLeaders_d63 : decode J_HFinder_keepLeaders.2.1 63 = .ok (.goto 4, 3) := by decide +kernel
theorem J_HFinder_keepLeaders_d66 : decode J_HFinder_keepLeaders.2.1 66 = .ok (.iconst 0, 1) := by decide +kernel
theorem J_HFinder_keepLeaders_d67 : decode J_HFinder_keepLeaders.2.1 67 = .ok (.istore_n 3, 1) := by decide +kernel
theorem J_HFinder_keepLeaders_d68 : decode J_HFinder_keepLeaders.2.1 68 = .ok (.iload_n 3, 1) := by decide +kernel
theorem J_HFinder_keepLeaders_d69 : decode J_HFinder_keepLeaders.2.1 69 = .ok (.ifCond .eq 19, 3) := by decide +kernel
theorem J_HFinder_keepLeaders_d72 : decode J_HFinder_keepLeaders.2.1 72 = .ok (.aload_n 0, 1) := by decide +kernel
theorem J_HFinder_keepLeaders_d73 : decode J_HFinder_keepLeaders.2.1 73 = .ok (.iload_n 1, 1) := by decide +kernel
theorem J_HFinder_keepLeaders_d74 : decode J_HFinder_keepLeaders.2.1 74 = .ok (.iload_n 2, 1) := by decide +kernel
theorem J_HFinder_keepLeaders_d75 : decode J_HFinder_keepLeaders.2.1 75 = .ok (.invokevirtual 126, 3) := by decide +kernel
theorem J_HFinder_keepLeaders_d78 : decode J_HFinder_keepLeaders.2.1 78 = .ok (.ifCond .eq 10, 3) := by decide +kernel
theorem J_HFinder_keepLeaders_d81 : decode J_HFinder_keepLeaders.2.1 81 = .ok (.aload_n 0, 1) := by decide +kernel
theorem J_HFinder_keepLeaders_d82 : decode J_HFinder_keepLeaders.2.1 82 = .ok (.getfield 30, 3) := by decide +kernel
theorem J_HFinder_keepLeaders_d85 : decode J_HFinder_keepLeaders.2.1 85 = .ok (.iload_n 1, 1) := by decide +kernel
theorem J_HFinder_keepLeaders_d86 : decode J_HFinder_keepLeaders.2.1 86 = .ok (.iconst 0, 1) := by decide +kernel
theorem J_HFinder_keepLeaders_d87 : decode J_HFinder_keepLeaders.2.1 87 = .ok (.bastore, 1) := by decide +kernel
theorem J_HFinder_keepLeaders_d88 : decode J_HFinder_keepLeaders.2.1 88 = .ok (.iinc 2 1, 3) := by decide +kernel
theorem J_HFinder_keepLeaders_d91 : decode J_HFinder_keepLeaders.2.1 91 = .ok (.goto (-72), 3) := by decide +kernel
theorem J_HFinder_keepLeaders_d94 : decode J_HFinder_keepLeaders.2.1 94 = .ok (.iinc 1 1, 3) := by decide +kernel
theorem J_HFinder_keepLeaders_d97 : decode J_HFinder_keepLeaders.2.1 97 = .ok (.goto (-95), 3) := by decide +kernel
theorem J_HFinder_keepLeaders_d100 : decode J_HFinder_keepLeaders.2.1 100 = .ok (.iconst 0, 1) := by decide +kernel
theorem J_HFinder_keepLeaders_d101 : decode J_HFinder_keepLeaders.2.1 101 = .ok (.istore_n 1, 1) := by decide +kernel
theorem J_HFinder_keepLeaders_d102 : decode J_HFinder_keepLeaders.2.1 102 = .ok (.iload_n 1, 1) := by decide +kernel
theorem J_HFinder_keepLeaders_d103 : decode J_HFinder_keepLeaders.2.1 103 = .ok (.aload_n 0, 1) := by decide +kernel
theorem J_HFinder_keepLeaders_d104 : decode J_HFinder_keepLeaders.2.1 104 = .ok (.getfield 45, 3) := by decide +kernel
theorem J_HFinder_keepLeaders_d107 : decode J_HFinder_keepLeaders.2.1 107 = .ok (.if_icmp .ge 58, 3) := by decide +kernel
theorem J_HFinder_keepLeaders_d110 : decode J_HFinder_keepLeaders.2.1 110 = .ok (.aload_n 0, 1) := by decide +kernel
theorem J_HFinder_keepLeaders_d111 : decode J_HFinder_keepLeaders.2.1 111 = .ok (.getfield 30, 3) := by decide +kernel
theorem J_HFinder_keepLeaders_d114 : decode J_HFinder_keepLeaders.2.1 114 = .ok (.iload_n 1, 1) := by decide +kernel
theorem J_HFinder_keepLeaders_d115 : decode J_HFinder_keepLeaders.2.1 115 = .ok (.baload, 1) := by decide +kernel
theorem J_HFinder_keepLeaders_d116 : decode J_HFinder_keepLeaders.2.1 116 = .ok (.ifCond .eq 43, 3) := by decide +kernel
theorem J_HFinder_keepLeaders_d119 : decode J_HFinder_keepLeaders.2.1 119 = .ok (.aload_n 0, 1) := by decide +kernel
theorem J_HFinder_keepLeaders_d120 : decode J_HFinder_keepLeaders.2.1 120 = .ok (.getfield 23, 3) := by decide +kernel
theorem J_HFinder_keepLeaders_d123 : decode J_HFinder_keepLeaders.2.1 123 = .ok (.aload_n 0, 1) := by decide +kernel
theorem J_HFinder_keepLeaders_d124 : decode J_HFinder_keepLeaders.2.1 124 = .ok (.getfield 41, 3) := by decide +kernel
theorem J_HFinder_keepLeaders_d127 : decode J_HFinder_keepLeaders.2.1 127 = .ok (.aload_n 0, 1) := by decide +kernel
theorem J_HFinder_keepLeaders_d128 : decode J_HFinder_keepLeaders.2.1 128 = .ok (.getfield 23, 3) := by decide +kernel
theorem J_HFinder_keepLeaders_d131 : decode J_HFinder_keepLeaders.2.1 131 = .ok (.iload_n 1, 1) := by decide +kernel
theorem J_HFinder_keepLeaders_d132 : decode J_HFinder_keepLeaders.2.1 132 = .ok (.laload, 1) := by decide +kernel
theorem J_HFinder_keepLeaders_d133 : decode J_HFinder_keepLeaders.2.1 133 = .ok (.lastore, 1) := by decide +kernel
theorem J_HFinder_keepLeaders_d134 : decode J_HFinder_keepLeaders.2.1 134 = .ok (.aload_n 0, 1) := by decide +kernel
theorem J_HFinder_keepLeaders_d135 : decode J_HFinder_keepLeaders.2.1 135 = .ok (.getfield 27, 3) := by decide +kernel
theorem J_HFinder_keepLeaders_d138 : decode J_HFinder_keepLeaders.2.1 138 = .ok (.aload_n 0, 1) := by decide +kernel
theorem J_HFinder_keepLeaders_d139 : decode J_HFinder_keepLeaders.2.1 139 = .ok (.getfield 41, 3) := by decide +kernel
theorem J_HFinder_keepLeaders_d142 : decode J_HFinder_keepLeaders.2.1 142 = .ok (.aload_n 0, 1) := by decide +kernel
theorem J_HFinder_keepLeaders_d143 : decode J_HFinder_keepLeaders.2.1 143 = .ok (.getfield 27, 3) := by decide +kernel
theorem J_HFinder_keepLeaders_d146 : decode J_HFinder_keepLeaders.2.1 146 = .ok (.iload_n 1, 1) := by decide +kernel
theorem J_HFinder_keepLeaders_d147 : decode J_HFinder_keepLeaders.2.1 147 = .ok (.iaload, 1) := by decide +kernel
theorem J_HFinder_keepLeaders_d148 : decode J_HFinder_keepLeaders.2.1 148 = .ok (.iastore, 1) := by decide +kernel
theorem J_HFinder_keepLeaders_d149 : decode J_HFinder_keepLeaders.2.1 149 = .ok (.aload_n 0, 1) := by decide +kernel
theorem J_HFinder_keepLeaders_d150 : decode J_HFinder_keepLeaders.2.1 150 = .ok (.dup, 1) := by decide +kernel
theorem J_HFinder_keepLeaders_d151 : decode J_HFinder_keepLeaders.2.1 151 = .ok (.getfield 41, 3) := by decide +kernel
theorem J_HFinder_keepLeaders_d154 : decode J_HFinder_keepLeaders.2.1 154 = .ok (.iconst 1, 1) := by decide +kernel
theorem J_HFinder_keepLeaders_d155 : decode J_HFinder_keepLeaders.2.1 155 = .ok (.iadd, 1) := by decide +kernel
theorem J_HFinder_keepLeaders_d156 : decode J_HFinder_keepLeaders.2.1 156 = .ok (.putfield 41, 3) := by decide +kernel
theorem J_HFinder_keepLeaders_d159 : decode J_HFinder_keepLeaders.2.1 159 = .ok (.iinc 1 1, 3) := by decide +kernel
theorem J_HFinder_keepLeaders_d162 : decode J_HFinder_keepLeaders.2.1 162 = .ok (.goto (-60), 3) := by decide +kernel
theorem J_HFinder_keepLeaders_d165 : decode J_HFinder_keepLeaders.2.1 165 = .ok (.return_, 1) := by decide +kernel
theorem f_HFinder_keepLeaders_ok {L : Nat} {xs : Nat → Int32} {dep : Nat} {w : Bool} {M : im_M} {Q : im_M → Prop} (hM : lw_S w M) (h : ed (f_HFinder_keepLeaders M) Q) : ia (tb_G L xs) (dep + 2) J_HFinder_keepLeaders (rwV w Q) (0, lv_args 0 [.ref 59], [], M) := by
  have hS : im_St (tb_G L xs) (dep + 2) J_HFinder_keepLeaders (ia (tb_G L xs) (dep + 2) J_HFinder_keepLeaders (rwV w Q)) := ia_St
  unfold f_HFinder_keepLeaders at h
  have l0 : im_lk (lv_args 0 [.ref 59]) 0 = some (.ref 59) := rfl
  refine iq_iconst hS 1 J_HFinder_keepLeaders_d0 (v := 0) (by decide +kernel) rfl ?_
  refine iq_istore_n hS 2 J_HFinder_keepLeaders_d1 (by decide) rfl ?_
  obtain ⟨Q1, hQ1, h⟩ := bd1_ed h
  have K1 : ∀ (M2 : im_M) (L' : List (Nat × Value)), lw_S w M2 → im_lk L' 0 = some (.ref 59) → Q1 M2 → ia (tb_G L xs) (dep + 2) J_HFinder_keepLeaders (rwV w Q) (100, L', [], M2) := by
    intro M2 L' hM2 l3 h
    replace h := hQ1 _ h
    refine iq_iconst hS 101 J_HFinder_keepLeaders_d100 (v := 0) (by decide +kernel) rfl ?_
    refine iq_istore_n hS 102 J_HFinder_keepLeaders_d101 (by decide) rfl ?_
    obtain ⟨Q4, hQ4, h⟩ := bd1_ed h
    have K4 : ∀ (M5 : im_M) (L' : List (Nat × Value)), lw_S w M5 → Q4 M5 → ia (tb_G L xs) (dep + 2) J_HFinder_keepLeaders (rwV w Q) (165, L', [], M5) := by
      intro M5 L' hM5  h
      replace h := hQ4 _ h
      exact iq_ret J_HFinder_keepLeaders_d165 rfl ⟨rfl, hM5, ed_some h⟩
    obtain ⟨r4, hr4, hq4⟩ := h
    obtain ⟨n4, hn4⟩ := lp_n hr4
    have I4 : ∀ (n : Nat) (x6 : Int32) (M7 : im_M) (L' : List (Nat × Value)), lw_S w M7 → im_lk L' 0 = some (.ref 59) → im_lk L' 1 = some (.int x6) → lpn (uc2 (f_HFinder_keepLeaders_L102)) n (x6, M7) = some r4 → ia (tb_G L xs) (dep + 2) J_HFinder_keepLeaders (rwV w Q) (102, L', [], M7) := by
      intro n
      induction n with
      | zero => intro x6 M7 L' hM7 l8 l9 hn; exact (lpn_0 hn).elim
      | succ n ih =>
        intro x6 M7 L' hM7 l8 l9 hn
        have h := lpn_ed2 hn
        unfold f_HFinder_keepLeaders_L102 at h
        refine iq_iload_n hS 103 J_HFinder_keepLeaders_d102 l9 rfl ?_
        refine iq_aload_n hS 104 J_HFinder_keepLeaders_d103 l8 rfl ?_
        refine iq_getI hS 107 J_HFinder_keepLeaders_d104 lf_3_45 (Or.inl rfl) (ka_59 hM7) rfl ?_
        refine iq_icmp_ge hS 110 J_HFinder_keepLeaders_d107 (t := 165) rfl (fun q107 => ?_) rfl (fun q107 => ?_)
        · replace h := ed_pos q107 h
          exact K4 _ _ hM7  (lq_r h hq4)
        · replace h := ed_neg q107 h
          refine iq_aload_n hS 111 J_HFinder_keepLeaders_d110 l8 rfl ?_
          refine iq_getR hS 114 J_HFinder_keepLeaders_d111 lf_3_30 (Or.inr ⟨_, rfl⟩) (ka_59 hM7) (ra_59_6 hM7) rfl ?_
          refine iq_iload_n hS 115 J_HFinder_keepLeaders_d114 l9 rfl ?_
          obtain ⟨g115, h⟩ := ed_gd h
          refine iq_zaload hS 116 J_HFinder_keepLeaders_d115 ⟨(ka_64 hM7).1, (ka_64 hM7).2, g115.1, ix_lt (kl_64 hM7) g115.2⟩ rfl ?_
          obtain ⟨Q10, hQ10, h⟩ := bd1_ed h
          have J10 : ∀ (M11 : im_M) (L' : List (Nat × Value)), lw_S w M11 → im_lk L' 0 = some (.ref 59) → im_lk L' 1 = some (.int x6) → Q10 M11 → ia (tb_G L xs) (dep + 2) J_HFinder_keepLeaders (rwV w Q) (159, L', [], M11) := by
            intro M11 L' hM11 l12 l13 h
            replace h := hQ10 _ h
            refine iq_iincv hS 162 J_HFinder_keepLeaders_d159 (c := 1) (by decide +kernel) l13 (by decide) rfl ?_
            refine iq_goto hS J_HFinder_keepLeaders_d162 (t := 102) rfl ?_
            exact ih _ _ _ hM11 (lk_1r l12 (by decide)) lk_1s (lq_l h)
          refine iq_if_eq hS 119 J_HFinder_keepLeaders_d116 (t := 159) rfl (fun q116 => ?_) rfl (fun q116 => ?_)
          · replace h := ed_pos q116 h
            exact J10 _ _ hM7 l8 l9 (ed_some h)
          · replace h := ed_neg q116 h
            refine iq_aload_n hS 120 J_HFinder_keepLeaders_d119 l8 rfl ?_
            refine iq_getR hS 123 J_HFinder_keepLeaders_d120 lf_3_23 (Or.inr ⟨_, rfl⟩) (ka_59 hM7) (ra_59_4 hM7) rfl ?_
            refine iq_aload_n hS 124 J_HFinder_keepLeaders_d123 l8 rfl ?_
            refine iq_getI hS 127 J_HFinder_keepLeaders_d124 lf_3_41 (Or.inl rfl) (ka_59 hM7) rfl ?_
            refine iq_aload_n hS 128 J_HFinder_keepLeaders_d127 l8 rfl ?_
            refine iq_getR hS 131 J_HFinder_keepLeaders_d128 lf_3_23 (Or.inr ⟨_, rfl⟩) (ka_59 hM7) (ra_59_4 hM7) rfl ?_
            refine iq_iload_n hS 132 J_HFinder_keepLeaders_d131 l9 rfl ?_
            obtain ⟨g132, h⟩ := ed_gd h
            refine iq_laload hS 133 J_HFinder_keepLeaders_d132 ⟨(ka_62 hM7).1, (ka_62 hM7).2, g132.1, ix_lt (kl_62 hM7) g132.2⟩ rfl ?_
            obtain ⟨g133, h⟩ := ed_gd h
            refine iq_lastore hS 134 J_HFinder_keepLeaders_d133 ⟨(ka_62 hM7).1, (ka_62 hM7).2, g133.1, ix_lt (kl_62 hM7) g133.2⟩ rfl ?_
            refine iq_aload_n hS 135 J_HFinder_keepLeaders_d134 l8 rfl ?_
            refine iq_getR hS 138 J_HFinder_keepLeaders_d135 lf_3_27 (Or.inr ⟨_, rfl⟩) (ka_59 hM7) (ra_59_5 hM7) rfl ?_
            refine iq_aload_n hS 139 J_HFinder_keepLeaders_d138 l8 rfl ?_
            refine iq_getI hS 142 J_HFinder_keepLeaders_d139 lf_3_41 (Or.inl rfl) (ka_59 hM7) rfl ?_
            refine iq_aload_n hS 143 J_HFinder_keepLeaders_d142 l8 rfl ?_
            refine iq_getR hS 146 J_HFinder_keepLeaders_d143 lf_3_27 (Or.inr ⟨_, rfl⟩) (ka_59 hM7) (ra_59_5 hM7) rfl ?_
            refine iq_iload_n hS 147 J_HFinder_keepLeaders_d146 l9 rfl ?_
            obtain ⟨g147, h⟩ := ed_gd h
            refine iq_iaload hS 148 J_HFinder_keepLeaders_d147 ⟨(ka_63 hM7).1, (ka_63 hM7).2, g147.1, ix_lt (kl_63 hM7) g147.2⟩ rfl ?_
            obtain ⟨g148, h⟩ := ed_gd h
            refine iq_iastore hS 149 J_HFinder_keepLeaders_d148 ⟨(ka_63 hM7).1, (ka_63 hM7).2, g148.1, ix_lt (kl_63 hM7) g148.2⟩ rfl ?_
            refine iq_aload_n hS 150 J_HFinder_keepLeaders_d149 l8 rfl ?_
            refine iq_dup hS 151 J_HFinder_keepLeaders_d150 rfl rfl ?_
            refine iq_getI hS 154 J_HFinder_keepLeaders_d151 lf_3_41 (Or.inl rfl) (ka_59 hM7) rfl ?_
            refine iq_iconst hS 155 J_HFinder_keepLeaders_d154 (v := 1) (by decide +kernel) rfl ?_
            refine iq_iadd hS 156 J_HFinder_keepLeaders_d155 rfl ?_
            refine iq_putI hS 159 J_HFinder_keepLeaders_d156 lf_3_41 (Or.inl rfl) rfl (ka_59 hM7) rfl ?_
            exact J10 _ _ hM7 l8 l9 (ed_some h)
    exact I4 n4 _ _ _ hM2 (lk_1r l3 (by decide)) lk_1s hn4
  obtain ⟨r1, hr1, hq1⟩ := h
  obtain ⟨n1, hn1⟩ := lp_n hr1
  have I1 : ∀ (n : Nat) (x14 : Int32) (M15 : im_M) (L' : List (Nat × Value)), lw_S w M15 → im_lk L' 0 = some (.ref 59) → im_lk L' 1 = some (.int x14) → lpn (uc2 (f_HFinder_keepLeaders_L2)) n (x14, M15) = some r1 → ia (tb_G L xs) (dep + 2) J_HFinder_keepLeaders (rwV w Q) (2, L', [], M15) := by
    intro n
    induction n with
    | zero => intro x14 M15 L' hM15 l16 l17 hn; exact (lpn_0 hn).elim
    | succ n ih =>
      intro x14 M15 L' hM15 l16 l17 hn
      have h := lpn_ed2 hn
      unfold f_HFinder_keepLeaders_L2 at h
      refine iq_iload_n hS 3 J_HFinder_keepLeaders_d2 l17 rfl ?_
      refine iq_aload_n hS 4 J_HFinder_keepLeaders_d3 l16 rfl ?_
      refine iq_getI hS 7 J_HFinder_keepLeaders_d4 lf_3_45 (Or.inl rfl) (ka_59 hM15) rfl ?_
      refine iq_icmp_ge hS 10 J_HFinder_keepLeaders_d7 (t := 100) rfl (fun q7 => ?_) rfl (fun q7 => ?_)
      · replace h := ed_pos q7 h
        exact K1 _ _ hM15 l16 (lq_r h hq1)
      · replace h := ed_neg q7 h
        refine iq_aload_n hS 11 J_HFinder_keepLeaders_d10 l16 rfl ?_
        refine iq_getR hS 14 J_HFinder_keepLeaders_d11 lf_3_30 (Or.inr ⟨_, rfl⟩) (ka_59 hM15) (ra_59_6 hM15) rfl ?_
        refine iq_iload_n hS 15 J_HFinder_keepLeaders_d14 l17 rfl ?_
        refine iq_iconst hS 16 J_HFinder_keepLeaders_d15 (v := 1) (by decide +kernel) rfl ?_
        obtain ⟨g16, h⟩ := ed_gd h
        refine iq_zastore hS 17 J_HFinder_keepLeaders_d16 ⟨(ka_64 hM15).1, (ka_64 hM15).2, g16.1, ix_lt (kl_64 hM15) g16.2⟩ rfl ?_
        refine iq_iconst hS 18 J_HFinder_keepLeaders_d17 (v := 0) (by decide +kernel) rfl ?_
        refine iq_istore_n hS 19 J_HFinder_keepLeaders_d18 (by decide) rfl ?_
        obtain ⟨Q18, hQ18, h⟩ := bd1_ed h
        have K18 : ∀ (M19 : im_M) (L' : List (Nat × Value)), lw_S w M19 → im_lk L' 0 = some (.ref 59) → im_lk L' 1 = some (.int x14) → Q18 M19 → ia (tb_G L xs) (dep + 2) J_HFinder_keepLeaders (rwV w Q) (94, L', [], M19) := by
          intro M19 L' hM19 l20 l21 h
          replace h := hQ18 _ h
          refine iq_iincv hS 97 J_HFinder_keepLeaders_d94 (c := 1) (by decide +kernel) l21 (by decide) rfl ?_
          refine iq_goto hS J_HFinder_keepLeaders_d97 (t := 2) rfl ?_
          exact ih _ _ _ hM19 (lk_1r l20 (by decide)) lk_1s (lq_l h)
        obtain ⟨r18, hr18, hq18⟩ := h
        obtain ⟨n18, hn18⟩ := lp_n hr18
        have I18 : ∀ (n : Nat) (x22 : Int32) (M23 : im_M) (L' : List (Nat × Value)), lw_S w M23 → im_lk L' 0 = some (.ref 59) → im_lk L' 1 = some (.int x14) → im_lk L' 2 = some (.int x22) → lpn (uc2 (f_HFinder_keepLeaders_L19 x14)) n (x22, M23) = some r18 → ia (tb_G L xs) (dep + 2) J_HFinder_keepLeaders (rwV w Q) (19, L', [], M23) := by
          intro n
          induction n with
          | zero => intro x22 M23 L' hM23 l24 l25 l26 hn; exact (lpn_0 hn).elim
          | succ n ih =>
            intro x22 M23 L' hM23 l24 l25 l26 hn
            have h := lpn_ed2 hn
            unfold f_HFinder_keepLeaders_L19 at h
            refine iq_iload_n hS 20 J_HFinder_keepLeaders_d19 l26 rfl ?_
            refine iq_aload_n hS 21 J_HFinder_keepLeaders_d20 l24 rfl ?_
            refine iq_getI hS 24 J_HFinder_keepLeaders_d21 lf_3_45 (Or.inl rfl) (ka_59 hM23) rfl ?_
            refine iq_icmp_ge hS 27 J_HFinder_keepLeaders_d24 (t := 94) rfl (fun q24 => ?_) rfl (fun q24 => ?_)
            · replace h := ed_pos q24 h
              exact K18 _ _ hM23 l24 l25 (lq_r h hq18)
            · replace h := ed_neg q24 h
              refine iq_aload_n hS 28 J_HFinder_keepLeaders_d27 l24 rfl ?_
              refine iq_getR hS 31 J_HFinder_keepLeaders_d28 lf_3_27 (Or.inr ⟨_, rfl⟩) (ka_59 hM23) (ra_59_5 hM23) rfl ?_
              refine iq_iload_n hS 32 J_HFinder_keepLeaders_d31 l26 rfl ?_
              obtain ⟨g32, h⟩ := ed_gd h
              refine iq_iaload hS 33 J_HFinder_keepLeaders_d32 ⟨(ka_63 hM23).1, (ka_63 hM23).2, g32.1, ix_lt (kl_63 hM23) g32.2⟩ rfl ?_
              refine iq_aload_n hS 34 J_HFinder_keepLeaders_d33 l24 rfl ?_
              refine iq_getR hS 37 J_HFinder_keepLeaders_d34 lf_3_27 (Or.inr ⟨_, rfl⟩) (ka_59 hM23) (ra_59_5 hM23) rfl ?_
              refine iq_iload_n hS 38 J_HFinder_keepLeaders_d37 l25 rfl ?_
              obtain ⟨g38, h⟩ := ed_gd h
              refine iq_iaload hS 39 J_HFinder_keepLeaders_d38 ⟨(ka_63 hM23).1, (ka_63 hM23).2, g38.1, ix_lt (kl_63 hM23) g38.2⟩ rfl ?_
              obtain ⟨Q27, hQ27, h⟩ := bd1_ed h
              have J27 : ∀ (y36 : Int32) (L' : List (Nat × Value)), im_lk L' 0 = some (.ref 59) → im_lk L' 1 = some (.int x14) → im_lk L' 2 = some (.int x22) → Q27 y36 → ia (tb_G L xs) (dep + 2) J_HFinder_keepLeaders (rwV w Q) (67, L', [.int y36], M23) := by
                intro y36 L' l37 l38 l39 h
                replace h := hQ27 _ h
                refine iq_istore_n hS 68 J_HFinder_keepLeaders_d67 (by decide) rfl ?_
                refine iq_iload_n hS 69 J_HFinder_keepLeaders_d68 lk_1s rfl ?_
                obtain ⟨Q40, hQ40, h⟩ := bd1_ed h
                have J40 : ∀ (M42 : im_M) (L' : List (Nat × Value)), lw_S w M42 → im_lk L' 0 = some (.ref 59) → im_lk L' 1 = some (.int x14) → im_lk L' 2 = some (.int x22) → Q40 M42 → ia (tb_G L xs) (dep + 2) J_HFinder_keepLeaders (rwV w Q) (88, L', [], M42) := by
                  intro M42 L' hM42 l43 l44 l45 h
                  replace h := hQ40 _ h
                  refine iq_iincv hS 91 J_HFinder_keepLeaders_d88 (c := 1) (by decide +kernel) l45 (by decide) rfl ?_
                  refine iq_goto hS J_HFinder_keepLeaders_d91 (t := 19) rfl ?_
                  exact ih _ _ _ hM42 (lk_1r l43 (by decide)) (lk_1i l44 (by decide)) lk_1s (lq_l h)
                refine iq_if_eq hS 72 J_HFinder_keepLeaders_d69 (t := 88) rfl (fun q69 => ?_) rfl (fun q69 => ?_)
                · replace h := ed_pos q69 h
                  exact J40 _ _ hM23 (lk_1r l37 (by decide)) (lk_1i l38 (by decide)) (lk_1i l39 (by decide)) (ed_some h)
                · replace h := ed_neg q69 h
                  refine iq_aload_n hS 73 J_HFinder_keepLeaders_d72 (lk_1r l37 (by decide)) rfl ?_
                  refine iq_iload_n hS 74 J_HFinder_keepLeaders_d73 (lk_1i l38 (by decide)) rfl ?_
                  refine iq_iload_n hS 75 J_HFinder_keepLeaders_d74 (lk_1i l39 (by decide)) rfl ?_
                  obtain ⟨Q41, hQ41, h⟩ := bd1_ed h
                  refine iq_cpI hS 78 J_HFinder_keepLeaders_d75 rfl (pr_inst (vs := [_, _]) lc_3_126 lT_215 rfl rfl (by decide) (by decide) rfl (Nat.le_of_ble_eq_true rfl) (Nat.le_of_ble_eq_true rfl) (fun _ => Or.inl (pr_b (ka_59 hM23) (by decide) rfl))) (f_HFinder_haveCommonDot_ok (dep := dep + 0) hM23 h) rfl ?_
                  intro x41 h
                  replace h := hQ41 _ h
                  refine iq_if_eq hS 81 J_HFinder_keepLeaders_d78 (t := 88) rfl (fun q78 => ?_) rfl (fun q78 => ?_)
                  · replace h := ed_pos q78 h
                    exact J40 _ _ hM23 (lk_1r l37 (by decide)) (lk_1i l38 (by decide)) (lk_1i l39 (by decide)) (ed_some h)
                  · replace h := ed_neg q78 h
                    refine iq_aload_n hS 82 J_HFinder_keepLeaders_d81 (lk_1r l37 (by decide)) rfl ?_
                    refine iq_getR hS 85 J_HFinder_keepLeaders_d82 lf_3_30 (Or.inr ⟨_, rfl⟩) (ka_59 hM23) (ra_59_6 hM23) rfl ?_
                    refine iq_iload_n hS 86 J_HFinder_keepLeaders_d85 (lk_1i l38 (by decide)) rfl ?_
                    refine iq_iconst hS 87 J_HFinder_keepLeaders_d86 (v := 0) (by decide +kernel) rfl ?_
                    obtain ⟨g87, h⟩ := ed_gd h
                    refine iq_zastore hS 88 J_HFinder_keepLeaders_d87 ⟨(ka_64 hM23).1, (ka_64 hM23).2, g87.1, ix_lt (kl_64 hM23) g87.2⟩ rfl ?_
                    exact J40 _ _ hM23 (lk_1r l37 (by decide)) (lk_1i l38 (by decide)) (lk_1i l39 (by decide)) (ed_some h)
              obtain ⟨k28, Q28, hQ28, hk28, h⟩ := jn0_ed h
              have J28 : ∀  (L' : List (Nat × Value)), im_lk L' 0 = some (.ref 59) → im_lk L' 1 = some (.int x14) → im_lk L' 2 = some (.int x22) → Q28 () → ia (tb_G L xs) (dep + 2) J_HFinder_keepLeaders (rwV w Q) (62, L', [], M23) := by
                intro  L' l33 l34 l35 h
                replace h := hQ28  h
                refine iq_iconst hS 63 J_HFinder_keepLeaders_d62 (v := 1) (by decide +kernel) rfl ?_
                refine iq_goto hS J_HFinder_keepLeaders_d63 (t := 67) rfl ?_
                exact J27 _ _ l33 l34 l35 (ed_some h)
              refine iq_icmp_lt hS 42 J_HFinder_keepLeaders_d39 (t := 62) rfl (fun q39 => ?_) rfl (fun q39 => ?_)
              · replace h := ed_pos q39 h
                exact J28  _ l24 l25 l26 (hk28  h)
              · replace h := ed_neg q39 h
                refine iq_aload_n hS 43 J_HFinder_keepLeaders_d42 l24 rfl ?_
                refine iq_getR hS 46 J_HFinder_keepLeaders_d43 lf_3_27 (Or.inr ⟨_, rfl⟩) (ka_59 hM23) (ra_59_5 hM23) rfl ?_
                refine iq_iload_n hS 47 J_HFinder_keepLeaders_d46 l26 rfl ?_
                obtain ⟨g47, h⟩ := ed_gd h
                refine iq_iaload hS 48 J_HFinder_keepLeaders_d47 ⟨(ka_63 hM23).1, (ka_63 hM23).2, g47.1, ix_lt (kl_63 hM23) g47.2⟩ rfl ?_
                refine iq_aload_n hS 49 J_HFinder_keepLeaders_d48 l24 rfl ?_
                refine iq_getR hS 52 J_HFinder_keepLeaders_d49 lf_3_27 (Or.inr ⟨_, rfl⟩) (ka_59 hM23) (ra_59_5 hM23) rfl ?_
                refine iq_iload_n hS 53 J_HFinder_keepLeaders_d52 l25 rfl ?_
                obtain ⟨g53, h⟩ := ed_gd h
                refine iq_iaload hS 54 J_HFinder_keepLeaders_d53 ⟨(ka_63 hM23).1, (ka_63 hM23).2, g53.1, ix_lt (kl_63 hM23) g53.2⟩ rfl ?_
                obtain ⟨k29, Q29, hQ29, hk29, h⟩ := jn0_ed h
                have J29 : ∀  (L' : List (Nat × Value)), im_lk L' 0 = some (.ref 59) → im_lk L' 1 = some (.int x14) → im_lk L' 2 = some (.int x22) → Q29 () → ia (tb_G L xs) (dep + 2) J_HFinder_keepLeaders (rwV w Q) (66, L', [], M23) := by
                  intro  L' l30 l31 l32 h
                  replace h := hQ29  h
                  refine iq_iconst hS 67 J_HFinder_keepLeaders_d66 (v := 0) (by decide +kernel) rfl ?_
                  exact J27 _ _ l30 l31 l32 (ed_some h)
                refine iq_icmp_ne hS 57 J_HFinder_keepLeaders_d54 (t := 66) rfl (fun q54 => ?_) rfl (fun q54 => ?_)
                · replace h := ed_pos q54 h
                  exact J29  _ l24 l25 l26 (hk29  h)
                · replace h := ed_neg q54 h
                  refine iq_iload_n hS 58 J_HFinder_keepLeaders_d57 l26 rfl ?_
                  refine iq_iload_n hS 59 J_HFinder_keepLeaders_d58 l25 rfl ?_
                  refine iq_icmp_ge hS 62 J_HFinder_keepLeaders_d59 (t := 66) rfl (fun q59 => ?_) rfl (fun q59 => ?_)
                  · replace h := ed_pos q59 h
                    exact J29  _ l24 l25 l26 (hk29  h)
                  · replace h := ed_neg q59 h
                    exact J28  _ l24 l25 l26 (hk28  h)
        exact I18 n18 _ _ _ hM15 (lk_1r l16 (by decide)) (lk_1i l17 (by decide)) lk_1s hn18
  exact I1 n1 _ _ _ hM (lk_1r l0 (by decide)) lk_1s hn1
noncomputable def f_HFinder_search_L69 (w : Bool) (v4 : Int32) (v5 : Int32) (v6 : Int32) (M7 : im_M) : Option ((im_M) ⊕ ((im_M) ⊕ (Int32 × im_M))) := if v4 < (im_i M7 59 9) then some (.inr (.inl M7)) else if v5 < ((21 : Int32) * (im_i M7 59 9)) then some (.inr (.inl M7)) else jn1 (fun (M11 : im_M) => some (.inl (im_setI M11 59 9 ((im_i M11 59 9) + 1)))) fun k8 => if (v6 + (im_i M7 59 10)) < (((99 : Int32) * (im_i M7 59 9)) * (im_i M7 59 9)) then k8 M7 else bd1 (f_HFinder_lookAtCorners M7) fun (M9 : im_M) => bd2 (f_HFinder_lookAtAll v5 M9) fun (x10 : Int32) (M10 : im_M) => if ¬ x10 = 0 then k8 M10 else some (.inr (.inr ((-1), M10)))
noncomputable def f_HFinder_search (w : Bool) (p0 : Int32) (p1 : Int32) (p2 : Int32) (M : im_M) : Option (Int32 × im_M) := bd1 (f_HFinder_addUp w (im_setI (im_setI (im_setI M 59 0 0) 59 8 0) 59 10 p2)) fun (M1 : im_M) => bd1 (f_Math_min (im_i M1 28 0) (im_i M1 28 1) M1) fun (x2 : Int32) => gd (inb (((im_i M1 28 1) * 513) + (im_i M1 28 0)) 263169) <| bs1 (lp (uc1 (f_HFinder_search_L69 w p1 x2 (im_i M1 60 (Int32.toNatClampNeg (((im_i M1 28 1) * 513) + (im_i M1 28 0)))))) (im_setI M1 59 9 p0)) (fun (M16 : im_M) => bd1 (f_HFinder_keepLeaders M16) fun (M17 : im_M) => some ((im_i M17 59 0), M17)) (fun t => some t)
theorem J_HFinder_search_d0 : decode J_HFinder_search.2.1 0 = .ok (.aload_n 0, 1) := by decide +kernel
theorem J_HFinder_search_d1 : decode J_HFinder_search.2.1 1 = .ok (.iconst 0, 1) := by decide +kernel
theorem J_HFinder_search_d2 : decode J_HFinder_search.2.1 2 = .ok (.putfield 41, 3) := by decide +kernel
theorem J_HFinder_search_d5 : decode J_HFinder_search.2.1 5 = .ok (.aload_n 0, 1) := by decide +kernel
theorem J_HFinder_search_d6 : decode J_HFinder_search.2.1 6 = .ok (.iconst 0, 1) := by decide +kernel
theorem J_HFinder_search_d7 : decode J_HFinder_search.2.1 7 = .ok (.putfield 45, 3) := by decide +kernel
theorem J_HFinder_search_d10 : decode J_HFinder_search.2.1 10 = .ok (.aload_n 0, 1) := by decide +kernel
theorem J_HFinder_search_d11 : decode J_HFinder_search.2.1 11 = .ok (.iload_n 3, 1) := by decide +kernel
theorem J_HFinder_search_d12 : decode J_HFinder_search.2.1 12 = .ok (.putfield 48, 3) := by decide +kernel
theorem J_HFinder_search_d15 : decode J_HFinder_search.2.1 15 = .ok (.aload_n 0, 1) := by decide +kernel
theorem J_HFinder_search_d16 : decode J_HFinder_search.2.1 16 = .ok (.invokevirtual 51, 3) := by decide +kernel
theorem J_HFinder_search_d19 : decode J_HFinder_search.2.1 19 = .ok (.aload_n 0, 1) := by decide +kernel
theorem J_HFinder_search_d20 : decode J_HFinder_search.2.1 20 = .ok (.getfield 37, 3) := by decide +kernel
theorem J_HFinder_search_d23 : decode J_HFinder_search.2.1 23 = .ok (.getfield 54, 3) := by decide +kernel
theorem J_HFinder_search_d26 : decode J_HFinder_search.2.1 26 = .ok (.aload_n 0, 1) := by decide +kernel
theorem J_HFinder_search_d27 : decode J_HFinder_search.2.1 27 = .ok (.getfield 37, 3) := by decide +kernel
theorem J_HFinder_search_d30 : decode J_HFinder_search.2.1 30 = .ok (.getfield 57, 3) := by decide +kernel
theorem J_HFinder_search_d33 : decode J_HFinder_search.2.1 33 = .ok (.invokestatic 60, 3) := by decide +kernel
theorem J_HFinder_search_d36 : decode J_HFinder_search.2.1 36 = .ok (.istore 4, 2) := by decide +kernel
theorem J_HFinder_search_d38 : decode J_HFinder_search.2.1 38 = .ok (.aload_n 0, 1) := by decide +kernel
theorem J_HFinder_search_d39 : decode J_HFinder_search.2.1 39 = .ok (.getfield 14, 3) := by decide +kernel
theorem J_HFinder_search_d42 : decode J_HFinder_search.2.1 42 = .ok (.aload_n 0, 1) := by decide +kernel
theorem J_HFinder_search_d43 : decode J_HFinder_search.2.1 43 = .ok (.getfield 37, 3) := by decide +kernel
theorem J_HFinder_search_d46 : decode J_HFinder_search.2.1 46 = .ok (.getfield 57, 3) := by decide +kernel
theorem J_HFinder_search_d49 : decode J_HFinder_search.2.1 49 = .ok (.sipush 513, 3) := by decide +kernel
theorem J_HFinder_search_d52 : decode J_HFinder_search.2.1 52 = .ok (.imul, 1) := by decide +kernel
theorem J_HFinder_search_d53 : decode J_HFinder_search.2.1 53 = .ok (.aload_n 0, 1) := by decide +kernel
theorem J_HFinder_search_d54 : decode J_HFinder_search.2.1 54 = .ok (.getfield 37, 3) := by decide +kernel
theorem J_HFinder_search_d57 : decode J_HFinder_search.2.1 57 = .ok (.getfield 54, 3) := by decide +kernel
theorem J_HFinder_search_d60 : decode J_HFinder_search.2.1 60 = .ok (.iadd, 1) := by decide +kernel
theorem J_HFinder_search_d61 : decode J_HFinder_search.2.1 61 = .ok (.iaload, 1) := by decide +kernel
theorem J_HFinder_search_d62 : decode J_HFinder_search.2.1 62 = .ok (.istore 5, 2) := by decide +kernel
theorem J_HFinder_search_d64 : decode J_HFinder_search.2.1 64 = .ok (.aload_n 0, 1) := by decide +kernel
theorem J_HFinder_search_d65 : decode J_HFinder_search.2.1 65 = .ok (.iload_n 1, 1) := by decide +kernel
theorem J_HFinder_search_d66 : decode J_HFinder_search.2.1 66 = .ok (.putfield 66, 3) := by decide +kernel
theorem J_HFinder_search_d69 : decode J_HFinder_search.2.1 69 = .ok (.aload_n 0, 1) := by decide +kernel
theorem J_HFinder_search_d70 : decode J_HFinder_search.2.1 70 = .ok (.getfield 66, 3) := by decide +kernel
theorem J_HFinder_search_d73 : decode J_HFinder_search.2.1 73 = .ok (.iload_n 2, 1) := by decide +kernel
theorem J_HFinder_search_d74 : decode J_HFinder_search.2.1 74 = .ok (.if_icmp .gt 65, 3) := by decide +kernel
theorem J_HFinder_search_d77 : decode J_HFinder_search.2.1 77 = .ok (.bipush 21, 2) := by decide +kernel
theorem J_HFinder_search_d79 : decode J_HFinder_search.2.1 79 = .ok (.aload_n 0, 1) := by decide +kernel
theorem J_HFinder_search_d80 : decode J_HFinder_search.2.1 80 = .ok (.getfield 66, 3) := by decide +kernel
theorem J_HFinder_search_d83 : decode J_HFinder_search.2.1 83 = .ok (.imul, 1) := by decide +kernel
theorem J_HFinder_search_d84 : decode J_HFinder_search.2.1 84 = .ok (.iload 4, 2) := by decide +kernel
theorem J_HFinder_search_d86 : decode J_HFinder_search.2.1 86 = .ok (.if_icmp .gt 53, 3) := by decide +kernel
theorem J_HFinder_search_d89 : decode J_HFinder_search.2.1 89 = .ok (.iload 5, 2) := by decide +kernel
theorem J_HFinder_search_d91 : decode J_HFinder_search.2.1 91 = .ok (.aload_n 0, 1) := by decide +kernel
theorem J_HFinder_search_d92 : decode J_HFinder_search.2.1 92 = .ok (.getfield 48, 3) := by decide +kernel
theorem J_HFinder_search_d95 : decode J_HFinder_search.2.1 95 = .ok (.iadd, 1) := by decide +kernel
theorem J_HFinder_search_d96 : decode J_HFinder_search.2.1 96 = .ok (.bipush 99, 2) := by decide +kernel
theorem J_HFinder_search_d98 : decode J_HFinder_search.2.1 98 = .ok (.aload_n 0, 1) := by decide +kernel
theorem J_HFinder_search_d99 : decode J_HFinder_search.2.1 99 = .ok (.getfield 66, 3) := by decide +kernel
theorem J_HFinder_search_d102 : decode J_HFinder_search.2.1 102 = .ok (.imul, 1) := by decide +kernel
theorem J_HFinder_search_d103 : decode J_HFinder_search.2.1 103 = .ok (.aload_n 0, 1) := by decide +kernel
theorem J_HFinder_search_d104 : decode J_HFinder_search.2.1 104 = .ok (.getfield 66, 3) := by decide +kernel
theorem J_HFinder_search_d107 : decode J_HFinder_search.2.1 107 = .ok (.imul, 1) := by decide +kernel
theorem J_HFinder_search_d108 : decode J_HFinder_search.2.1 108 = .ok (.if_icmp .lt 18, 3) := by decide +kernel
theorem J_HFinder_search_d111 : decode J_HFinder_search.2.1 111 = .ok (.aload_n 0, 1) := by decide +kernel
theorem J_HFinder_search_d112 : decode J_HFinder_search.2.1 112 = .ok (.invokevirtual 69, 3) := by decide +kernel
theorem J_HFinder_search_d115 : decode J_HFinder_search.2.1 115 = .ok (.aload_n 0, 1) := by decide +kernel
theorem J_HFinder_search_d116 : decode J_HFinder_search.2.1 116 = .ok (.iload 4, 2) := by decide +kernel
theorem J_HFinder_search_d118 : decode J_HFinder_search.2.1 118 = .ok (.invokevirtual 72, 3) := by decide +kernel
theorem J_HFinder_search_d121 : decode J_HFinder_search.2.1 121 = .ok (.ifCond .ne 5, 3) := by decide +kernel
theorem J_HFinder_search_d124 : decode J_HFinder_search.2.1 124 = .ok (.iconst (-1), 1) := by decide +kernel
theorem J_HFinder_search_d125 : decode J_HFinder_search.2.1 125 = .ok (.ireturn, 1) := by decide +kernel
theorem J_HFinder_search_d126 : decode J_HFinder_search.2.1 126 = .ok (.aload_n 0, 1) := by decide +kernel
theorem J_HFinder_search_d127 : decode J_HFinder_search.2.1 127 = .ok (.dup, 1) := by decide +kernel
theorem J_HFinder_search_d128 : decode J_HFinder_search.2.1 128 = .ok (.getfield 66, 3) := by decide +kernel
theorem J_HFinder_search_d131 : decode J_HFinder_search.2.1 131 = .ok (.iconst 1, 1) := by decide +kernel
theorem J_HFinder_search_d132 : decode J_HFinder_search.2.1 132 = .ok (.iadd, 1) := by decide +kernel
theorem J_HFinder_search_d133 : decode J_HFinder_search.2.1 133 = .ok (.putfield 66, 3) := by decide +kernel
theorem J_HFinder_search_d136 : decode J_HFinder_search.2.1 136 = .ok (.goto (-67), 3) := by decide +kernel
theorem J_HFinder_search_d139 : decode J_HFinder_search.2.1 139 = .ok (.aload_n 0, 1) := by decide +kernel
theorem J_HFinder_search_d140 : decode J_HFinder_search.2.1 140 = .ok (.invokevirtual 76, 3) := by decide +kernel
theorem J_HFinder_search_d143 : decode J_HFinder_search.2.1 143 = .ok (.aload_n 0, 1) := by decide +kernel
theorem J_HFinder_search_d144 : decode J_HFinder_search.2.1 144 = .ok (.getfield 41, 3) := by decide +kernel
theorem J_HFinder_search_d147 : decode J_HFinder_search.2.1 147 = .ok (.ireturn, 1) := by decide +kernel
theorem f_HFinder_search_ok {L : Nat} {xs : Nat → Int32} {dep : Nat} {w : Bool} {p0 : Int32} {p1 : Int32} {p2 : Int32} {M : im_M} {Q : Int32 × im_M → Prop} (hM : lw_S w M) (h : ed (f_HFinder_search w p0 p1 p2 M) Q) : ia (tb_G L xs) (dep + 5) J_HFinder_search (rwI w Q) (0, lv_args 0 [.ref 59, .int p0, .int p1, .int p2], [], M) := by
  have hS : im_St (tb_G L xs) (dep + 5) J_HFinder_search (ia (tb_G L xs) (dep + 5) J_HFinder_search (rwI w Q)) := ia_St
  unfold f_HFinder_search at h
  have l0 : im_lk (lv_args 0 [.ref 59, .int p0, .int p1, .int p2]) 0 = some (.ref 59) := rfl
  have l1 : im_lk (lv_args 0 [.ref 59, .int p0, .int p1, .int p2]) 1 = some (.int p0) := rfl
  have l2 : im_lk (lv_args 0 [.ref 59, .int p0, .int p1, .int p2]) 2 = some (.int p1) := rfl
  have l3 : im_lk (lv_args 0 [.ref 59, .int p0, .int p1, .int p2]) 3 = some (.int p2) := rfl
  refine iq_aload_n hS 1 J_HFinder_search_d0 l0 rfl ?_
  refine iq_iconst hS 2 J_HFinder_search_d1 (v := 0) (by decide +kernel) rfl ?_
  refine iq_putI hS 5 J_HFinder_search_d2 lf_3_41 (Or.inl rfl) rfl (ka_59 hM) rfl ?_
  refine iq_aload_n hS 6 J_HFinder_search_d5 l0 rfl ?_
  refine iq_iconst hS 7 J_HFinder_search_d6 (v := 0) (by decide +kernel) rfl ?_
  refine iq_putI hS 10 J_HFinder_search_d7 lf_3_45 (Or.inl rfl) rfl (ka_59 hM) rfl ?_
  refine iq_aload_n hS 11 J_HFinder_search_d10 l0 rfl ?_
  refine iq_iload_n hS 12 J_HFinder_search_d11 l3 rfl ?_
  refine iq_putI hS 15 J_HFinder_search_d12 lf_3_48 (Or.inl rfl) rfl (ka_59 hM) rfl ?_
  refine iq_aload_n hS 16 J_HFinder_search_d15 l0 rfl ?_
  obtain ⟨Q1, hQ1, h⟩ := bd1_ed h
  refine iq_cwV hS 19 J_HFinder_search_d16 rfl (pr_inst (vs := []) lc_3_51 lT_203 rfl rfl (by decide) (by decide) rfl (Nat.le_of_ble_eq_true rfl) (Nat.le_of_ble_eq_true rfl) (fun _ => Or.inl (pr_b (ka_59 hM) (by decide) rfl))) (f_HFinder_addUp_ok (dep := dep + 3) hM h) rfl ?_
  intro M1 hM1 h
  replace h := hQ1 _ h
  refine iq_aload_n hS 20 J_HFinder_search_d19 l0 rfl ?_
  refine iq_getR hS 23 J_HFinder_search_d20 lf_3_37 (Or.inl ⟨_, rfl⟩) (ka_59 hM1) (ra_59_1 hM1) rfl ?_
  refine iq_getI hS 26 J_HFinder_search_d23 lf_3_54 (Or.inl rfl) (ka_28 hM1) rfl ?_
  refine iq_aload_n hS 27 J_HFinder_search_d26 l0 rfl ?_
  refine iq_getR hS 30 J_HFinder_search_d27 lf_3_37 (Or.inl ⟨_, rfl⟩) (ka_59 hM1) (ra_59_1 hM1) rfl ?_
  refine iq_getI hS 33 J_HFinder_search_d30 lf_3_57 (Or.inl rfl) (ka_28 hM1) rfl ?_
  obtain ⟨Q2, hQ2, h⟩ := bd1_ed h
  refine iq_cpI hS 36 J_HFinder_search_d33 rfl (pr_stat (vs := [_, _]) lc_3_60 lT_28 rfl rfl (by decide) rfl (Nat.le_of_ble_eq_true rfl) (Nat.le_of_ble_eq_true rfl)) (f_Math_min_ok (dep := dep + 4) hM1 h) rfl ?_
  intro x2 h
  replace h := hQ2 _ h
  refine iq_istore hS 38 J_HFinder_search_d36 (by decide) rfl ?_
  refine iq_aload_n hS 39 J_HFinder_search_d38 (lk_1r l0 (by decide)) rfl ?_
  refine iq_getR hS 42 J_HFinder_search_d39 lf_3_14 (Or.inr ⟨_, rfl⟩) (ka_59 hM1) (ra_59_2 hM1) rfl ?_
  refine iq_aload_n hS 43 J_HFinder_search_d42 (lk_1r l0 (by decide)) rfl ?_
  refine iq_getR hS 46 J_HFinder_search_d43 lf_3_37 (Or.inl ⟨_, rfl⟩) (ka_59 hM1) (ra_59_1 hM1) rfl ?_
  refine iq_getI hS 49 J_HFinder_search_d46 lf_3_57 (Or.inl rfl) (ka_28 hM1) rfl ?_
  refine iq_sipush hS 52 J_HFinder_search_d49 (v := 513) (by decide +kernel) rfl ?_
  refine iq_imul hS 53 J_HFinder_search_d52 rfl ?_
  refine iq_aload_n hS 54 J_HFinder_search_d53 (lk_1r l0 (by decide)) rfl ?_
  refine iq_getR hS 57 J_HFinder_search_d54 lf_3_37 (Or.inl ⟨_, rfl⟩) (ka_59 hM1) (ra_59_1 hM1) rfl ?_
  refine iq_getI hS 60 J_HFinder_search_d57 lf_3_54 (Or.inl rfl) (ka_28 hM1) rfl ?_
  refine iq_iadd hS 61 J_HFinder_search_d60 rfl ?_
  obtain ⟨g61, h⟩ := ed_gd h
  refine iq_iaload hS 62 J_HFinder_search_d61 ⟨(ka_60 hM1).1, (ka_60 hM1).2, g61.1, ix_lt (kl_60 hM1) g61.2⟩ rfl ?_
  refine iq_istore hS 64 J_HFinder_search_d62 (by decide) rfl ?_
  refine iq_aload_n hS 65 J_HFinder_search_d64 (lk_1r (lk_1r l0 (by decide)) (by decide)) rfl ?_
  refine iq_iload_n hS 66 J_HFinder_search_d65 (lk_1i (lk_1i l1 (by decide)) (by decide)) rfl ?_
  refine iq_putI hS 69 J_HFinder_search_d66 lf_3_66 (Or.inl rfl) rfl (ka_59 hM1) rfl ?_
  obtain ⟨Q3, hQ3, hR3, h⟩ := bs1_ed h
  have K3 : ∀ (M4 : im_M) (L' : List (Nat × Value)), lw_S w M4 → im_lk L' 0 = some (.ref 59) → Q3 (.inl M4) → ia (tb_G L xs) (dep + 5) J_HFinder_search (rwI w Q) (139, L', [], M4) := by
    intro M4 L' hM4 l5 h
    replace h := hQ3 _ h
    refine iq_aload_n hS 140 J_HFinder_search_d139 l5 rfl ?_
    obtain ⟨Q6, hQ6, h⟩ := bd1_ed h
    refine iq_cwV hS 143 J_HFinder_search_d140 rfl (pr_inst (vs := []) lc_3_76 lT_214 rfl rfl (by decide) (by decide) rfl (Nat.le_of_ble_eq_true rfl) (Nat.le_of_ble_eq_true rfl) (fun _ => Or.inl (pr_b (ka_59 hM4) (by decide) rfl))) (f_HFinder_keepLeaders_ok (dep := dep + 2) hM4 h) rfl ?_
    intro M6 hM6 h
    replace h := hQ6 _ h
    refine iq_aload_n hS 144 J_HFinder_search_d143 l5 rfl ?_
    refine iq_getI hS 147 J_HFinder_search_d144 lf_3_41 (Or.inl rfl) (ka_59 hM6) rfl ?_
    exact iq_iret J_HFinder_search_d147 rfl rfl ⟨_, rfl, hM6, ed_some h⟩
  obtain ⟨r3, hr3, hq3⟩ := h
  obtain ⟨n3, hn3⟩ := lp_n hr3
  have I3 : ∀ (n : Nat)  (M7 : im_M) (L' : List (Nat × Value)), lw_S w M7 → im_lk L' 0 = some (.ref 59) → im_lk L' 2 = some (.int p1) → im_lk L' 4 = some (.int x2) → im_lk L' 5 = some (.int (im_i M1 60 (Int32.toNatClampNeg (((im_i M1 28 1) * 513) + (im_i M1 28 0))))) → lpn (uc1 (f_HFinder_search_L69 w p1 x2 (im_i M1 60 (Int32.toNatClampNeg (((im_i M1 28 1) * 513) + (im_i M1 28 0)))))) n M7 = some r3 → ia (tb_G L xs) (dep + 5) J_HFinder_search (rwI w Q) (69, L', [], M7) := by
    intro n
    induction n with
    | zero => intro  M7 L' hM7 l8 l9 l10 l11 hn; exact (lpn_0 hn).elim
    | succ n ih =>
      intro  M7 L' hM7 l8 l9 l10 l11 hn
      have h := lpn_ed1 hn
      unfold f_HFinder_search_L69 at h
      refine iq_aload_n hS 70 J_HFinder_search_d69 l8 rfl ?_
      refine iq_getI hS 73 J_HFinder_search_d70 lf_3_66 (Or.inl rfl) (ka_59 hM7) rfl ?_
      refine iq_iload_n hS 74 J_HFinder_search_d73 l9 rfl ?_
      refine iq_icmp_gt hS 77 J_HFinder_search_d74 (t := 139) rfl (fun q74 => ?_) rfl (fun q74 => ?_)
      · replace h := ed_pos q74 h
        exact K3 _ _ hM7 l8 (lq_r h hq3)
      · replace h := ed_neg q74 h
        refine iq_bipush hS 79 J_HFinder_search_d77 (v := 21) (by decide +kernel) rfl ?_
        refine iq_aload_n hS 80 J_HFinder_search_d79 l8 rfl ?_
        refine iq_getI hS 83 J_HFinder_search_d80 lf_3_66 (Or.inl rfl) (ka_59 hM7) rfl ?_
        refine iq_imul hS 84 J_HFinder_search_d83 rfl ?_
        refine iq_iload hS 86 J_HFinder_search_d84 l10 rfl ?_
        refine iq_icmp_gt hS 89 J_HFinder_search_d86 (t := 139) rfl (fun q86 => ?_) rfl (fun q86 => ?_)
        · replace h := ed_pos q86 h
          exact K3 _ _ hM7 l8 (lq_r h hq3)
        · replace h := ed_neg q86 h
          refine iq_iload hS 91 J_HFinder_search_d89 l11 rfl ?_
          refine iq_aload_n hS 92 J_HFinder_search_d91 l8 rfl ?_
          refine iq_getI hS 95 J_HFinder_search_d92 lf_3_48 (Or.inl rfl) (ka_59 hM7) rfl ?_
          refine iq_iadd hS 96 J_HFinder_search_d95 rfl ?_
          refine iq_bipush hS 98 J_HFinder_search_d96 (v := 99) (by decide +kernel) rfl ?_
          refine iq_aload_n hS 99 J_HFinder_search_d98 l8 rfl ?_
          refine iq_getI hS 102 J_HFinder_search_d99 lf_3_66 (Or.inl rfl) (ka_59 hM7) rfl ?_
          refine iq_imul hS 103 J_HFinder_search_d102 rfl ?_
          refine iq_aload_n hS 104 J_HFinder_search_d103 l8 rfl ?_
          refine iq_getI hS 107 J_HFinder_search_d104 lf_3_66 (Or.inl rfl) (ka_59 hM7) rfl ?_
          refine iq_imul hS 108 J_HFinder_search_d107 rfl ?_
          obtain ⟨k12, Q12, hQ12, hk12, h⟩ := jn1_ed h
          have J12 : ∀ (M15 : im_M) (L' : List (Nat × Value)), lw_S w M15 → im_lk L' 0 = some (.ref 59) → im_lk L' 2 = some (.int p1) → im_lk L' 4 = some (.int x2) → im_lk L' 5 = some (.int (im_i M1 60 (Int32.toNatClampNeg (((im_i M1 28 1) * 513) + (im_i M1 28 0))))) → Q12 M15 → ia (tb_G L xs) (dep + 5) J_HFinder_search (rwI w Q) (126, L', [], M15) := by
            intro M15 L' hM15 l16 l17 l18 l19 h
            replace h := hQ12 _ h
            refine iq_aload_n hS 127 J_HFinder_search_d126 l16 rfl ?_
            refine iq_dup hS 128 J_HFinder_search_d127 rfl rfl ?_
            refine iq_getI hS 131 J_HFinder_search_d128 lf_3_66 (Or.inl rfl) (ka_59 hM15) rfl ?_
            refine iq_iconst hS 132 J_HFinder_search_d131 (v := 1) (by decide +kernel) rfl ?_
            refine iq_iadd hS 133 J_HFinder_search_d132 rfl ?_
            refine iq_putI hS 136 J_HFinder_search_d133 lf_3_66 (Or.inl rfl) rfl (ka_59 hM15) rfl ?_
            refine iq_goto hS J_HFinder_search_d136 (t := 69) rfl ?_
            exact ih  _ _ hM15 l16 l17 l18 l19 (lq_l h)
          refine iq_icmp_lt hS 111 J_HFinder_search_d108 (t := 126) rfl (fun q108 => ?_) rfl (fun q108 => ?_)
          · replace h := ed_pos q108 h
            exact J12 _ _ hM7 l8 l9 l10 l11 (hk12 _ h)
          · replace h := ed_neg q108 h
            refine iq_aload_n hS 112 J_HFinder_search_d111 l8 rfl ?_
            obtain ⟨Q13, hQ13, h⟩ := bd1_ed h
            refine iq_cwV hS 115 J_HFinder_search_d112 rfl (pr_inst (vs := []) lc_3_69 lT_204 rfl rfl (by decide) (by decide) rfl (Nat.le_of_ble_eq_true rfl) (Nat.le_of_ble_eq_true rfl) (fun _ => Or.inl (pr_b (ka_59 hM7) (by decide) rfl))) (f_HFinder_lookAtCorners_ok (dep := dep + 2) hM7 h) rfl ?_
            intro M13 hM13 h
            replace h := hQ13 _ h
            refine iq_aload_n hS 116 J_HFinder_search_d115 l8 rfl ?_
            refine iq_iload hS 118 J_HFinder_search_d116 l10 rfl ?_
            obtain ⟨Q14, hQ14, h⟩ := bd2_ed h
            refine iq_cwI hS 121 J_HFinder_search_d118 rfl (pr_inst (vs := [_]) lc_3_72 lT_207 rfl rfl (by decide) (by decide) rfl (Nat.le_of_ble_eq_true rfl) (Nat.le_of_ble_eq_true rfl) (fun _ => Or.inl (pr_b (ka_59 hM13) (by decide) rfl))) (f_HFinder_lookAtAll_ok (dep := dep + 0) hM13 h) rfl ?_
            intro x14 M14 hM14 h
            replace h := hQ14 _ _ h
            refine iq_if_ne hS 124 J_HFinder_search_d121 (t := 126) rfl (fun q121 => ?_) rfl (fun q121 => ?_)
            · replace h := ed_pos q121 h
              exact J12 _ _ hM14 l8 l9 l10 l11 (hk12 _ h)
            · replace h := ed_neg q121 h
              refine iq_iconst hS 125 J_HFinder_search_d124 (v := (-1)) (by decide +kernel) rfl ?_
              exact iq_iret J_HFinder_search_d125 rfl rfl ⟨_, rfl, hM14, ed_some (hR3 _ (lq_r h hq3))⟩
  exact I3 n3  _ _ hM1 (lk_1r (lk_1r l0 (by decide)) (by decide)) (lk_1i (lk_1i l2 (by decide)) (by decide)) (lk_1i lk_1s (by decide)) lk_1s hn3
noncomputable def f_H_scan (w : Bool) (p0 : Int32) (p1 : Int32) (p2 : Int32) (M : im_M) : Option (Int32 × im_M) := if p0 < 1 then none else if 16 < p0 then none else if p1 < p0 then none else if 16 < p1 then none else if p2 < 0 then none else if p2 ≤ 500 then bd2 (f_HFinder_search w p0 p1 p2 M) fun (x1 : Int32) (M1 : im_M) => some (x1, M1) else none
theorem J_H_scan_d41 : decode J_H_scan.2.1 41 = .ok (.aload_n 0, 1) := by decide +kernel
theorem J_H_scan_d42 : decode J_H_scan.2.1 42 = .ok (.getfield 69, 3) := by decide +kernel
theorem J_H_scan_d45 : decode J_H_scan.2.1 45 = .ok (.iload_n 1, 1) := by decide +kernel
theorem J_H_scan_d46 : decode J_H_scan.2.1 46 = .ok (.iload_n 2, 1) := by decide +kernel
theorem J_H_scan_d47 : decode J_H_scan.2.1 47 = .ok (.iload_n 3, 1) := by decide +kernel
theorem J_H_scan_d48 : decode J_H_scan.2.1 48 = .ok (.invokevirtual 193, 3) := by decide +kernel
theorem J_H_scan_d51 : decode J_H_scan.2.1 51 = .ok (.ireturn, 1) := by decide +kernel
theorem f_H_scan_ok {L : Nat} {xs : Nat → Int32} {dep : Nat} {w : Bool} {p0 : Int32} {p1 : Int32} {p2 : Int32} {M : im_M} {Q : Int32 × im_M → Prop} (hM : lw_S w M) (h : ed (f_H_scan w p0 p1 p2 M) Q) : ia (tb_G L xs) (dep + 6) J_H_scan (rwI w Q) (0, lv_args 0 [.ref 0, .int p0, .int p1, .int p2], [], M) := by
  have hS : im_St (tb_G L xs) (dep + 6) J_H_scan (ia (tb_G L xs) (dep + 6) J_H_scan (rwI w Q)) := ia_St
  unfold f_H_scan at h
  have l0 : im_lk (lv_args 0 [.ref 0, .int p0, .int p1, .int p2]) 0 = some (.ref 0) := rfl
  have l1 : im_lk (lv_args 0 [.ref 0, .int p0, .int p1, .int p2]) 1 = some (.int p0) := rfl
  have l2 : im_lk (lv_args 0 [.ref 0, .int p0, .int p1, .int p2]) 2 = some (.int p1) := rfl
  have l3 : im_lk (lv_args 0 [.ref 0, .int p0, .int p1, .int p2]) 3 = some (.int p2) := rfl
  refine iq_iload_n hS 1 J_H_scan_d0 l1 rfl ?_
  refine iq_iconst hS 2 J_H_scan_d1 (v := 1) (by decide +kernel) rfl ?_
  refine iq_icmp_lt hS 5 J_H_scan_d2 (t := 33) rfl (fun q2 => ?_) rfl (fun q2 => ?_)
  · replace h := ed_pos q2 h
    exact (ed_none h).elim
  · replace h := ed_neg q2 h
    refine iq_iload_n hS 6 J_H_scan_d5 l1 rfl ?_
    refine iq_bipush hS 8 J_H_scan_d6 (v := 16) (by decide +kernel) rfl ?_
    refine iq_icmp_gt hS 11 J_H_scan_d8 (t := 33) rfl (fun q8 => ?_) rfl (fun q8 => ?_)
    · replace h := ed_pos q8 h
      exact (ed_none h).elim
    · replace h := ed_neg q8 h
      refine iq_iload_n hS 12 J_H_scan_d11 l2 rfl ?_
      refine iq_iload_n hS 13 J_H_scan_d12 l1 rfl ?_
      refine iq_icmp_lt hS 16 J_H_scan_d13 (t := 33) rfl (fun q13 => ?_) rfl (fun q13 => ?_)
      · replace h := ed_pos q13 h
        exact (ed_none h).elim
      · replace h := ed_neg q13 h
        refine iq_iload_n hS 17 J_H_scan_d16 l2 rfl ?_
        refine iq_bipush hS 19 J_H_scan_d17 (v := 16) (by decide +kernel) rfl ?_
        refine iq_icmp_gt hS 22 J_H_scan_d19 (t := 33) rfl (fun q19 => ?_) rfl (fun q19 => ?_)
        · replace h := ed_pos q19 h
          exact (ed_none h).elim
        · replace h := ed_neg q19 h
          refine iq_iload_n hS 23 J_H_scan_d22 l3 rfl ?_
          refine iq_if_lt hS 26 J_H_scan_d23 (t := 33) rfl (fun q23 => ?_) rfl (fun q23 => ?_)
          · replace h := ed_pos q23 h
            exact (ed_none h).elim
          · replace h := ed_neg q23 h
            refine iq_iload_n hS 27 J_H_scan_d26 l3 rfl ?_
            refine iq_sipush hS 30 J_H_scan_d27 (v := 500) (by decide +kernel) rfl ?_
            refine iq_icmp_le hS 33 J_H_scan_d30 (t := 41) rfl (fun q30 => ?_) rfl (fun q30 => ?_)
            · replace h := ed_pos q30 h
              refine iq_aload_n hS 42 J_H_scan_d41 l0 rfl ?_
              refine iq_getR hS 45 J_H_scan_d42 lf_11_69 (Or.inl ⟨_, rfl⟩) (ka_0 hM) (ra_0_7 hM) rfl ?_
              refine iq_iload_n hS 46 J_H_scan_d45 l1 rfl ?_
              refine iq_iload_n hS 47 J_H_scan_d46 l2 rfl ?_
              refine iq_iload_n hS 48 J_H_scan_d47 l3 rfl ?_
              obtain ⟨Q1, hQ1, h⟩ := bd2_ed h
              refine iq_cwI hS 51 J_H_scan_d48 rfl (pr_inst (vs := [_, _, _]) lc_11_193 lT_202 rfl rfl (by decide) (by decide) rfl (Nat.le_of_ble_eq_true rfl) (Nat.le_of_ble_eq_true rfl) (fun _ => Or.inl (pr_b (ka_59 hM) (by decide) rfl))) (f_HFinder_search_ok (dep := dep + 0) hM h) rfl ?_
              intro x1 M1 hM1 h
              replace h := hQ1 _ _ h
              exact iq_iret J_H_scan_d51 rfl rfl ⟨_, rfl, hM1, ed_some h⟩
            · replace h := ed_neg q30 h
              exact (ed_none h).elim
noncomputable def f_H_found (p0 : Int32) (p1 : Int32) (M : im_M) : Option (Int32) := if p1 < 0 then none else if p1 ≤ 5 then jn0 (fun (_ : Unit) => some (-1)) fun k1 => if p0 < 0 then k1 () else if p0 < (im_i M 59 0) then bd1 (f_HFinder_part p0 p1 M) fun (x2 : Int32) => some x2 else k1 () else none
theorem J_H_found_d36 : decode J_H_found.2.1 36 = .ok (.aload_n 0, 1) := by decide +kernel
theorem J_H_found_d37 : decode J_H_found.2.1 37 = .ok (.getfield 69, 3) := by decide +kernel
theorem J_H_found_d40 : decode J_H_found.2.1 40 = .ok (.iload_n 1, 1) := by decide +kernel
theorem J_H_found_d41 : decode J_H_found.2.1 41 = .ok (.iload_n 2, 1) := by decide +kernel
theorem J_H_found_d42 : decode J_H_found.2.1 42 = .ok (.invokevirtual 197, 3) := by decide +kernel
theorem f_H_found_ok {L : Nat} {xs : Nat → Int32} {dep : Nat} {w : Bool} {p0 : Int32} {p1 : Int32} {M : im_M} {Q : Int32 → Prop} (hM : lw_S w M) (h : ed (f_H_found p0 p1 M) Q) : ia (tb_G L xs) (dep + 1) J_H_found (rpI M Q) (0, lv_args 0 [.ref 0, .int p0, .int p1], [], M) := by
  have hS : im_St (tb_G L xs) (dep + 1) J_H_found (ia (tb_G L xs) (dep + 1) J_H_found (rpI M Q)) := ia_St
  unfold f_H_found at h
  have l0 : im_lk (lv_args 0 [.ref 0, .int p0, .int p1]) 0 = some (.ref 0) := rfl
  have l1 : im_lk (lv_args 0 [.ref 0, .int p0, .int p1]) 1 = some (.int p0) := rfl
  have l2 : im_lk (lv_args 0 [.ref 0, .int p0, .int p1]) 2 = some (.int p1) := rfl
  refine iq_iload_n hS 1 J_H_found_d0 l2 rfl ?_
  refine iq_if_lt hS 4 J_H_found_d1 (t := 9) rfl (fun q1 => ?_) rfl (fun q1 => ?_)
  · replace h := ed_pos q1 h
    exact (ed_none h).elim
  · replace h := ed_neg q1 h
    refine iq_iload_n hS 5 J_H_found_d4 l2 rfl ?_
    refine iq_iconst hS 6 J_H_found_d5 (v := 5) (by decide +kernel) rfl ?_
    refine iq_icmp_le hS 9 J_H_found_d6 (t := 17) rfl (fun q6 => ?_) rfl (fun q6 => ?_)
    · replace h := ed_pos q6 h
      refine iq_iload_n hS 18 J_H_found_d17 l1 rfl ?_
      obtain ⟨k1, Q1, hQ1, hk1, h⟩ := jn0_ed h
      have J1 : ∀  (L' : List (Nat × Value)), Q1 () → ia (tb_G L xs) (dep + 1) J_H_found (rpI M Q) (32, L', [], M) := by
        intro  L'  h
        replace h := hQ1  h
        refine iq_iconst hS 33 J_H_found_d32 (v := (-1)) (by decide +kernel) rfl ?_
        refine iq_goto hS J_H_found_d33 (t := 45) rfl ?_
        exact iq_iret J_H_found_d45 rfl rfl ⟨_, rfl, rfl, ed_some h⟩
      refine iq_if_lt hS 21 J_H_found_d18 (t := 32) rfl (fun q18 => ?_) rfl (fun q18 => ?_)
      · replace h := ed_pos q18 h
        exact J1  _  (hk1  h)
      · replace h := ed_neg q18 h
        refine iq_iload_n hS 22 J_H_found_d21 l1 rfl ?_
        refine iq_aload_n hS 23 J_H_found_d22 l0 rfl ?_
        refine iq_getR hS 26 J_H_found_d23 lf_11_69 (Or.inl ⟨_, rfl⟩) (ka_0 hM) (ra_0_7 hM) rfl ?_
        refine iq_getI hS 29 J_H_found_d26 lf_11_146 (Or.inl rfl) (ka_59 hM) rfl ?_
        refine iq_icmp_lt hS 32 J_H_found_d29 (t := 36) rfl (fun q29 => ?_) rfl (fun q29 => ?_)
        · replace h := ed_pos q29 h
          refine iq_aload_n hS 37 J_H_found_d36 l0 rfl ?_
          refine iq_getR hS 40 J_H_found_d37 lf_11_69 (Or.inl ⟨_, rfl⟩) (ka_0 hM) (ra_0_7 hM) rfl ?_
          refine iq_iload_n hS 41 J_H_found_d40 l1 rfl ?_
          refine iq_iload_n hS 42 J_H_found_d41 l2 rfl ?_
          obtain ⟨Q2, hQ2, h⟩ := bd1_ed h
          refine iq_cpI hS 45 J_H_found_d42 rfl (pr_inst (vs := [_, _]) lc_11_197 lT_216 rfl rfl (by decide) (by decide) rfl (Nat.le_of_ble_eq_true rfl) (Nat.le_of_ble_eq_true rfl) (fun _ => Or.inl (pr_b (ka_59 hM) (by decide) rfl))) (f_HFinder_part_ok (dep := dep + 0) hM h) rfl ?_
          intro x2 h
          replace h := hQ2 _ h
          exact iq_iret J_H_found_d45 rfl rfl ⟨_, rfl, rfl, ed_some h⟩
        · replace h := ed_neg q29 h
          exact J1  _  (hk1  h)
    · replace h := ed_neg q6 h
      exact (ed_none h).elim
noncomputable def f_Arrays_fill_5_L10 (v3 : Int32) (v4 : Int32) (x5 : Int32) (M6 : im_M) : Option ((Int32 × im_M) ⊕ (im_M)) := if v3 ≤ x5 then some (.inr M6) else gd (inb x5 7) <| some (.inl ((x5 + 1), (im_setI M6 67 (Int32.toNatClampNeg x5) v4)))
noncomputable def f_Arrays_fill_5 (p1 : Int32) (p2 : Int32) (p3 : Int32) (M : im_M) : Option (im_M) := bd0 (f_Arrays_rangeCheck 7 p1 p2 M) fun (_ : Unit) => bd1 (lp (uc2 (f_Arrays_fill_5_L10 p2 p3)) (p1, M)) fun (M7 : im_M) => some M7
theorem f_Arrays_fill_5_ok {L : Nat} {xs : Nat → Int32} {dep : Nat} {w : Bool} {p1 : Int32} {p2 : Int32} {p3 : Int32} {M : im_M} {Q : im_M → Prop} (hM : lw_S w M) (h : ed (f_Arrays_fill_5 p1 p2 p3 M) Q) : ia (tb_G L xs) (dep + 1) J_Arrays_fill (rwV w Q) (0, lv_args 0 [.ref 67, .int p1, .int p2, .int p3], [], M) := by
  have hS : im_St (tb_G L xs) (dep + 1) J_Arrays_fill (ia (tb_G L xs) (dep + 1) J_Arrays_fill (rwV w Q)) := ia_St
  unfold f_Arrays_fill_5 at h
  have l0 : im_lk (lv_args 0 [.ref 67, .int p1, .int p2, .int p3]) 0 = some (.ref 67) := rfl
  have l1 : im_lk (lv_args 0 [.ref 67, .int p1, .int p2, .int p3]) 1 = some (.int p1) := rfl
  have l2 : im_lk (lv_args 0 [.ref 67, .int p1, .int p2, .int p3]) 2 = some (.int p2) := rfl
  have l3 : im_lk (lv_args 0 [.ref 67, .int p1, .int p2, .int p3]) 3 = some (.int p3) := rfl
  refine iq_aload_n hS 1 J_Arrays_fill_d0 l0 rfl ?_
  refine iq_alenv hS 2 J_Arrays_fill_d1 (v := 7) (ka_67 hM) (by decide) (by decide) (kl_67 hM) (by decide +kernel) rfl ?_
  refine iq_iload_n hS 3 J_Arrays_fill_d2 l1 rfl ?_
  refine iq_iload_n hS 4 J_Arrays_fill_d3 l2 rfl ?_
  obtain ⟨Q1, hQ1, h⟩ := bd0_ed h
  refine iq_cpV hS 7 J_Arrays_fill_d4 rfl (pr_stat (vs := [_, _, _]) lc_22_13 lT_54 rfl rfl (by decide) rfl (Nat.le_of_ble_eq_true rfl) (Nat.le_of_ble_eq_true rfl)) (f_Arrays_rangeCheck_ok (dep := dep + 0) hM h) rfl ?_
  intro h
  replace h := hQ1  h
  refine iq_iload_n hS 8 J_Arrays_fill_d7 l1 rfl ?_
  refine iq_istore hS 10 J_Arrays_fill_d8 (by decide) rfl ?_
  obtain ⟨Q2, hQ2, h⟩ := bd1_ed h
  have K2 : ∀ (M3 : im_M) (L' : List (Nat × Value)), lw_S w M3 → Q2 M3 → ia (tb_G L xs) (dep + 1) J_Arrays_fill (rwV w Q) (27, L', [], M3) := by
    intro M3 L' hM3  h
    replace h := hQ2 _ h
    exact iq_ret J_Arrays_fill_d27 rfl ⟨rfl, hM3, ed_some h⟩
  obtain ⟨r2, hr2, hq2⟩ := h
  obtain ⟨n2, hn2⟩ := lp_n hr2
  have I2 : ∀ (n : Nat) (x4 : Int32) (M5 : im_M) (L' : List (Nat × Value)), lw_S w M5 → im_lk L' 0 = some (.ref 67) → im_lk L' 2 = some (.int p2) → im_lk L' 3 = some (.int p3) → im_lk L' 4 = some (.int x4) → lpn (uc2 (f_Arrays_fill_5_L10 p2 p3)) n (x4, M5) = some r2 → ia (tb_G L xs) (dep + 1) J_Arrays_fill (rwV w Q) (10, L', [], M5) := by
    intro n
    induction n with
    | zero => intro x4 M5 L' hM5 l6 l7 l8 l9 hn; exact (lpn_0 hn).elim
    | succ n ih =>
      intro x4 M5 L' hM5 l6 l7 l8 l9 hn
      have h := lpn_ed2 hn
      unfold f_Arrays_fill_5_L10 at h
      refine iq_iload hS 12 J_Arrays_fill_d10 l9 rfl ?_
      refine iq_iload_n hS 13 J_Arrays_fill_d12 l7 rfl ?_
      refine iq_icmp_ge hS 16 J_Arrays_fill_d13 (t := 27) rfl (fun q13 => ?_) rfl (fun q13 => ?_)
      · replace h := ed_pos q13 h
        exact K2 _ _ hM5  (lq_r h hq2)
      · replace h := ed_neg q13 h
        refine iq_aload_n hS 17 J_Arrays_fill_d16 l6 rfl ?_
        refine iq_iload hS 19 J_Arrays_fill_d17 l9 rfl ?_
        refine iq_iload_n hS 20 J_Arrays_fill_d19 l8 rfl ?_
        obtain ⟨g20, h⟩ := ed_gd h
        refine iq_iastore hS 21 J_Arrays_fill_d20 ⟨(ka_67 hM5).1, (ka_67 hM5).2, g20.1, ix_lt (kl_67 hM5) g20.2⟩ rfl ?_
        refine iq_iincv hS 24 J_Arrays_fill_d21 (c := 1) (by decide +kernel) l9 (by decide) rfl ?_
        refine iq_goto hS J_Arrays_fill_d24 (t := 10) rfl ?_
        exact ih _ _ _ hM5 (lk_1r l6 (by decide)) (lk_1i l7 (by decide)) (lk_1i l8 (by decide)) lk_1s (lq_l h)
  exact I2 n2 _ _ _ hM (lk_1r l0 (by decide)) (lk_1i l2 (by decide)) (lk_1i l3 (by decide)) lk_1s hn2
noncomputable def f_H_forgetReading (M : im_M) : Option (im_M) := bd1 (f_Arrays_fill_5 0 6 (-1) M) fun (M1 : im_M) => some (im_setI M1 0 12 0)
theorem J_H_forgetReading_d0 : decode J_H_forgetReading.2.1 0 = .ok (.aload_n 0, 1) := by decide +kernel
theorem J_H_forgetReading_d1 : decode J_H_forgetReading.2.1 1 = .ok (.getfield 77, 3) := by decide +kernel
theorem J_H_forgetReading_d4 : decode J_H_forgetReading.2.1 4 = .ok (.iconst 0, 1) := by decide +kernel
theorem J_H_forgetReading_d5 : decode J_H_forgetReading.2.1 5 = .ok (.bipush 6, 2) := by decide +kernel
theorem J_H_forgetReading_d7 : decode J_H_forgetReading.2.1 7 = .ok (.iconst (-1), 1) := by decide +kernel
theorem J_H_forgetReading_d8 : decode J_H_forgetReading.2.1 8 = .ok (.invokestatic 247, 3) := by decide +kernel
theorem J_H_forgetReading_d11 : decode J_H_forgetReading.2.1 11 = .ok (.aload_n 0, 1) := by decide +kernel
theorem J_H_forgetReading_d12 : decode J_H_forgetReading.2.1 12 = .ok (.iconst 0, 1) := by decide +kernel
theorem J_H_forgetReading_d13 : decode J_H_forgetReading.2.1 13 = .ok (.putfield 231, 3) := by decide +kernel
theorem J_H_forgetReading_d16 : decode J_H_forgetReading.2.1 16 = .ok (.return_, 1) := by decide +kernel
theorem f_H_forgetReading_ok {L : Nat} {xs : Nat → Int32} {dep : Nat} {w : Bool} {M : im_M} {Q : im_M → Prop} (hM : lw_S w M) (h : ed (f_H_forgetReading M) Q) : ia (tb_G L xs) (dep + 2) J_H_forgetReading (rwV w Q) (0, lv_args 0 [.ref 0], [], M) := by
  have hS : im_St (tb_G L xs) (dep + 2) J_H_forgetReading (ia (tb_G L xs) (dep + 2) J_H_forgetReading (rwV w Q)) := ia_St
  unfold f_H_forgetReading at h
  have l0 : im_lk (lv_args 0 [.ref 0]) 0 = some (.ref 0) := rfl
  refine iq_aload_n hS 1 J_H_forgetReading_d0 l0 rfl ?_
  refine iq_getR hS 4 J_H_forgetReading_d1 lf_11_77 (Or.inr ⟨_, rfl⟩) (ka_0 hM) (ra_0_10 hM) rfl ?_
  refine iq_iconst hS 5 J_H_forgetReading_d4 (v := 0) (by decide +kernel) rfl ?_
  refine iq_bipush hS 7 J_H_forgetReading_d5 (v := 6) (by decide +kernel) rfl ?_
  refine iq_iconst hS 8 J_H_forgetReading_d7 (v := (-1)) (by decide +kernel) rfl ?_
  obtain ⟨Q1, hQ1, h⟩ := bd1_ed h
  refine iq_cwV hS 11 J_H_forgetReading_d8 rfl (pr_stat (vs := [_, _, _, _]) lc_11_247 lT_53 rfl rfl (by decide) rfl (Nat.le_of_ble_eq_true rfl) (Nat.le_of_ble_eq_true rfl)) (f_Arrays_fill_5_ok (dep := dep + 0) hM h) rfl ?_
  intro M1 hM1 h
  replace h := hQ1 _ h
  refine iq_aload_n hS 12 J_H_forgetReading_d11 l0 rfl ?_
  refine iq_iconst hS 13 J_H_forgetReading_d12 (v := 0) (by decide +kernel) rfl ?_
  refine iq_putI hS 16 J_H_forgetReading_d13 lf_11_231 (Or.inl rfl) rfl (ka_0 hM1) rfl ?_
  exact iq_ret J_H_forgetReading_d16 rfl ⟨rfl, hM1, ed_some h⟩
noncomputable def f_HFinder_darkNow_L6 (w : Bool) (v2 : Int32) (v3 : Int32) (v4 : Int32) (M7 : im_M) (x5 : Int32) (x6 : Int32) : Option ((Int32 × Int32) ⊕ (Int32)) := if (v3 + v4) ≤ x6 then some (.inr x5) else bd1 (f_HSheet_wordFrom w v2 x6 M7) fun (x8 : Int64) => bd1 (f_Long_bitCount (x8 &&& (((1 : Int64) <<< (Int32.toInt64 v4 &&& 63)) - 1)) M7) fun (x9 : Int32) => some (.inl ((x5 + x9), (x6 + 1)))
noncomputable def f_HFinder_darkNow (w : Bool) (p0 : Int32) (p1 : Int32) (p2 : Int32) (M : im_M) : Option (Int32) := bd1 (lp (uc2 (f_HFinder_darkNow_L6 w p0 p1 p2 M)) (0, p1)) fun (y10 : Int32) => some y10
theorem J_HFinder_darkNow_d0 : decode J_HFinder_darkNow.2.1 0 = .ok (.iconst 0, 1) := by decide +kernel
theorem J_HFinder_darkNow_d1 : decode J_HFinder_darkNow.2.1 1 = .ok (.istore 4, 2) := by decide +kernel
theorem J_HFinder_darkNow_d3 : decode J_HFinder_darkNow.2.1 3 = .ok (.iload_n 2, 1) := by decide +kernel
theorem J_HFinder_darkNow_d4 : decode J_HFinder_darkNow.2.1 4 = .ok (.istore 5, 2) := by decide +kernel
theorem J_HFinder_darkNow_d6 : decode J_HFinder_darkNow.2.1 6 = .ok (.iload 5, 2) := by decide +kernel
theorem J_HFinder_darkNow_d8 : decode J_HFinder_darkNow.2.1 8 = .ok (.iload_n 2, 1) := by decide +kernel
theorem J_HFinder_darkNow_d9 : decode J_HFinder_darkNow.2.1 9 = .ok (.iload_n 3, 1) := by decide +kernel
theorem J_HFinder_darkNow_d10 : decode J_HFinder_darkNow.2.1 10 = .ok (.iadd, 1) := by decide +kernel
theorem J_HFinder_darkNow_d11 : decode J_HFinder_darkNow.2.1 11 = .ok (.if_icmp .ge 33, 3) := by decide +kernel
theorem J_HFinder_darkNow_d14 : decode J_HFinder_darkNow.2.1 14 = .ok (.iload 4, 2) := by decide +kernel
theorem J_HFinder_darkNow_d16 : decode J_HFinder_darkNow.2.1 16 = .ok (.aload_n 0, 1) := by decide +kernel
theorem J_HFinder_darkNow_d17 : decode J_HFinder_darkNow.2.1 17 = .ok (.getfield 37, 3) := by decide +kernel
theorem J_HFinder_darkNow_d20 : decode J_HFinder_darkNow.2.1 20 = .ok (.iload_n 1, 1) := by decide +kernel
theorem J_HFinder_darkNow_d21 : decode J_HFinder_darkNow.2.1 21 = .ok (.iload 5, 2) := by decide +kernel
theorem J_HFinder_darkNow_d23 : decode J_HFinder_darkNow.2.1 23 = .ok (.invokevirtual 144, 3) := by decide +kernel
theorem J_HFinder_darkNow_d26 : decode J_HFinder_darkNow.2.1 26 = .ok (.lconst 1, 1) := by decide +kernel
theorem J_HFinder_darkNow_d27 : decode J_HFinder_darkNow.2.1 27 = .ok (.iload_n 3, 1) := by decide +kernel
theorem J_HFinder_darkNow_d28 : decode J_HFinder_darkNow.2.1 28 = .ok (.lshl, 1) := by decide +kernel
theorem J_HFinder_darkNow_d29 : decode J_HFinder_darkNow.2.1 29 = .ok (.lconst 1, 1) := by decide +kernel
theorem J_HFinder_darkNow_d30 : decode J_HFinder_darkNow.2.1 30 = .ok (.lsub, 1) := by decide +kernel
theorem J_HFinder_darkNow_d31 : decode J_HFinder_darkNow.2.1 31 = .ok (.land, 1) := by decide +kernel
theorem J_HFinder_darkNow_d32 : decode J_HFinder_darkNow.2.1 32 = .ok (.invokestatic 148, 3) := by decide +kernel
theorem J_HFinder_darkNow_d35 : decode J_HFinder_darkNow.2.1 35 = .ok (.iadd, 1) := by decide +kernel
theorem J_HFinder_darkNow_d36 : decode J_HFinder_darkNow.2.1 36 = .ok (.istore 4, 2) := by decide +kernel
theorem J_HFinder_darkNow_d38 : decode J_HFinder_darkNow.2.1 38 = .ok (.iinc 5 1, 3) := by decide +kernel
theorem J_HFinder_darkNow_d41 : decode J_HFinder_darkNow.2.1 41 = .ok (.goto (-35), 3) := by decide +kernel
theorem J_HFinder_darkNow_d44 : decode J_HFinder_darkNow.2.1 44 = .ok (.iload 4, 2) := by decide +kernel
theorem J_HFinder_darkNow_d46 : decode J_HFinder_darkNow.2.1 46 = .ok (.ireturn, 1) := by decide +kernel
theorem f_HFinder_darkNow_ok {L : Nat} {xs : Nat → Int32} {dep : Nat} {w : Bool} {p0 : Int32} {p1 : Int32} {p2 : Int32} {M : im_M} {Q : Int32 → Prop} (hM : lw_S w M) (h : ed (f_HFinder_darkNow w p0 p1 p2 M) Q) : ia (tb_G L xs) (dep + 2) J_HFinder_darkNow (rpI M Q) (0, lv_args 0 [.ref 59, .int p0, .int p1, .int p2], [], M) := by
  have hS : im_St (tb_G L xs) (dep + 2) J_HFinder_darkNow (ia (tb_G L xs) (dep + 2) J_HFinder_darkNow (rpI M Q)) := ia_St
  unfold f_HFinder_darkNow at h
  have l0 : im_lk (lv_args 0 [.ref 59, .int p0, .int p1, .int p2]) 0 = some (.ref 59) := rfl
  have l1 : im_lk (lv_args 0 [.ref 59, .int p0, .int p1, .int p2]) 1 = some (.int p0) := rfl
  have l2 : im_lk (lv_args 0 [.ref 59, .int p0, .int p1, .int p2]) 2 = some (.int p1) := rfl
  have l3 : im_lk (lv_args 0 [.ref 59, .int p0, .int p1, .int p2]) 3 = some (.int p2) := rfl
  refine iq_iconst hS 1 J_HFinder_darkNow_d0 (v := 0) (by decide +kernel) rfl ?_
  refine iq_istore hS 3 J_HFinder_darkNow_d1 (by decide) rfl ?_
  refine iq_iload_n hS 4 J_HFinder_darkNow_d3 (lk_1i l2 (by decide)) rfl ?_
  refine iq_istore hS 6 J_HFinder_darkNow_d4 (by decide) rfl ?_
  obtain ⟨Q1, hQ1, h⟩ := bd1_ed h
  have K1 : ∀ (y2 : Int32) (L' : List (Nat × Value)), im_lk L' 4 = some (.int y2) → Q1 y2 → ia (tb_G L xs) (dep + 2) J_HFinder_darkNow (rpI M Q) (44, L', [], M) := by
    intro y2 L' l3 h
    replace h := hQ1 _ h
    refine iq_iload hS 46 J_HFinder_darkNow_d44 l3 rfl ?_
    exact iq_iret J_HFinder_darkNow_d46 rfl rfl ⟨_, rfl, rfl, ed_some h⟩
  obtain ⟨r1, hr1, hq1⟩ := h
  obtain ⟨n1, hn1⟩ := lp_n hr1
  have I1 : ∀ (n : Nat) (x4 : Int32) (x5 : Int32) (L' : List (Nat × Value)), im_lk L' 0 = some (.ref 59) → im_lk L' 1 = some (.int p0) → im_lk L' 2 = some (.int p1) → im_lk L' 3 = some (.int p2) → im_lk L' 4 = some (.int x4) → im_lk L' 5 = some (.int x5) → lpn (uc2 (f_HFinder_darkNow_L6 w p0 p1 p2 M)) n (x4, x5) = some r1 → ia (tb_G L xs) (dep + 2) J_HFinder_darkNow (rpI M Q) (6, L', [], M) := by
    intro n
    induction n with
    | zero => intro x4 x5 L' l6 l7 l8 l9 l10 l11 hn; exact (lpn_0 hn).elim
    | succ n ih =>
      intro x4 x5 L' l6 l7 l8 l9 l10 l11 hn
      have h := lpn_ed2 hn
      unfold f_HFinder_darkNow_L6 at h
      refine iq_iload hS 8 J_HFinder_darkNow_d6 l11 rfl ?_
      refine iq_iload_n hS 9 J_HFinder_darkNow_d8 l8 rfl ?_
      refine iq_iload_n hS 10 J_HFinder_darkNow_d9 l9 rfl ?_
      refine iq_iadd hS 11 J_HFinder_darkNow_d10 rfl ?_
      refine iq_icmp_ge hS 14 J_HFinder_darkNow_d11 (t := 44) rfl (fun q11 => ?_) rfl (fun q11 => ?_)
      · replace h := ed_pos q11 h
        exact K1 _ _ l10 (lq_r h hq1)
      · replace h := ed_neg q11 h
        refine iq_iload hS 16 J_HFinder_darkNow_d14 l10 rfl ?_
        refine iq_aload_n hS 17 J_HFinder_darkNow_d16 l6 rfl ?_
        refine iq_getR hS 20 J_HFinder_darkNow_d17 lf_3_37 (Or.inl ⟨_, rfl⟩) (ka_59 hM) (ra_59_1 hM) rfl ?_
        refine iq_iload_n hS 21 J_HFinder_darkNow_d20 l7 rfl ?_
        refine iq_iload hS 23 J_HFinder_darkNow_d21 l11 rfl ?_
        obtain ⟨Q12, hQ12, h⟩ := bd1_ed h
        refine iq_cpL hS 26 J_HFinder_darkNow_d23 rfl (pr_inst (vs := [_, _]) lc_3_144 lT_91 rfl rfl (by decide) (by decide) rfl (Nat.le_of_ble_eq_true rfl) (Nat.le_of_ble_eq_true rfl) (fun _ => Or.inl (pr_b (ka_28 hM) (by decide) rfl))) (f_HSheet_wordFrom_ok (dep := dep + 0) hM h) rfl ?_
        intro x12 h
        replace h := hQ12 _ h
        refine iq_lconst hS 27 J_HFinder_darkNow_d26 (v := 1) (by decide +kernel) rfl ?_
        refine iq_iload_n hS 28 J_HFinder_darkNow_d27 l9 rfl ?_
        refine iq_lshl hS 29 J_HFinder_darkNow_d28 rfl ?_
        refine iq_lconst hS 30 J_HFinder_darkNow_d29 (v := 1) (by decide +kernel) rfl ?_
        refine iq_lsub hS 31 J_HFinder_darkNow_d30 rfl ?_
        refine iq_land hS 32 J_HFinder_darkNow_d31 rfl ?_
        obtain ⟨Q13, hQ13, h⟩ := bd1_ed h
        refine iq_cpI hS 35 J_HFinder_darkNow_d32 rfl (pr_stat (vs := [_]) lc_3_148 lT_196 rfl rfl (by decide) rfl (Nat.le_of_ble_eq_true rfl) (Nat.le_of_ble_eq_true rfl)) (f_Long_bitCount_ok (dep := dep + 1) hM h) rfl ?_
        intro x13 h
        replace h := hQ13 _ h
        refine iq_iadd hS 36 J_HFinder_darkNow_d35 rfl ?_
        refine iq_istore hS 38 J_HFinder_darkNow_d36 (by decide) rfl ?_
        refine iq_iincv hS 41 J_HFinder_darkNow_d38 (c := 1) (by decide +kernel) (lk_1i l11 (by decide)) (by decide) rfl ?_
        refine iq_goto hS J_HFinder_darkNow_d41 (t := 6) rfl ?_
        exact ih _ _ _ (lk_1r (lk_1r l6 (by decide)) (by decide)) (lk_1i (lk_1i l7 (by decide)) (by decide)) (lk_1i (lk_1i l8 (by decide)) (by decide)) (lk_1i (lk_1i l9 (by decide)) (by decide)) (lk_1i lk_1s (by decide)) lk_1s (lq_l h)
  exact I1 n1 _ _ _ (lk_1r (lk_1r l0 (by decide)) (by decide)) (lk_1i (lk_1i l1 (by decide)) (by decide)) (lk_1i (lk_1i l2 (by decide)) (by decide)) (lk_1i (lk_1i l3 (by decide)) (by decide)) (lk_1i lk_1s (by decide)) lk_1s hn1
noncomputable def f_HFinder_fill_L36 (w : Bool) (v11 : Int32) (v12 : Int32) (v13 : Int32) (v14 : Int32) (v15 : Int32) (x16 : Int32) (M17 : im_M) : Option ((Int32 × im_M) ⊕ (im_M)) := if v14 < x16 then some (.inr M17) else bd1 (f_HFinder_part v11 0 M17) fun (x20 : Int32) => bd1 (f_HFinder_part v11 1 M17) fun (x21 : Int32) => bd1 (f_HFinder_darkNow w (x20 + (v12 * ((if ¬ v13 = 0 then (if ¬ v13 = 1 then (if ¬ v13 = 2 then v15 else (v14 - x16)) else (v14 - v15)) else x16) : Int32))) (x21 + (v12 * ((if ¬ v13 = 0 then (if ¬ v13 = 1 then (if ¬ v13 = 2 then (v14 - x16) else (v14 - v15)) else x16) else v15) : Int32))) v12 M17) fun (x22 : Int32) => bd1 (f_HGrid_set x16 v15 ((if ((2 : Int32) * x22) ≤ (v12 * v12) then 0 else 1) : Int32) M17) fun (M24 : im_M) => some (.inl ((x16 + 1), M24))
noncomputable def f_HFinder_fill_L26 (w : Bool) (v4 : Int32) (v5 : Int32) (v6 : Int32) (v7 : Int32) (x8 : Int32) (M9 : im_M) : Option ((Int32 × im_M) ⊕ (im_M)) := if v7 < x8 then some (.inr M9) else bd1 (lp (uc2 (f_HFinder_fill_L36 w v4 v5 v6 v7 x8)) (0, M9)) fun (M25 : im_M) => some (.inl ((x8 + 1), M25))
noncomputable def f_HFinder_fill (w : Bool) (p0 : Int32) (M : im_M) : Option (im_M) := bd1 (f_HFinder_part p0 2 M) fun (x1 : Int32) => bd1 (f_HFinder_part p0 4 M) fun (x2 : Int32) => bd1 (lp (uc2 (f_HFinder_fill_L26 w p0 x1 x2 ((im_i M 38 1) - 1))) (0, M)) fun (M26 : im_M) => some M26
theorem J_HFinder_fill_d0 : decode J_HFinder_fill.2.1 0 = .ok (.aload_n 0, 1) := by decide +kernel
theorem J_HFinder_fill_d1 : decode J_HFinder_fill.2.1 1 = .ok (.iload_n 1, 1) := by decide +kernel
theorem J_HFinder_fill_d2 : decode J_HFinder_fill.2.1 2 = .ok (.iconst 2, 1) := by decide +kernel
theorem J_HFinder_fill_d3 : decode J_HFinder_fill.2.1 3 = .ok (.invokevirtual 129, 3) := by decide +kernel
theorem J_HFinder_fill_d6 : decode J_HFinder_fill.2.1 6 = .ok (.istore_n 3, 1) := by decide +kernel
theorem J_HFinder_fill_d7 : decode J_HFinder_fill.2.1 7 = .ok (.aload_n 0, 1) := by decide +kernel
theorem J_HFinder_fill_d8 : decode J_HFinder_fill.2.1 8 = .ok (.iload_n 1, 1) := by decide +kernel
theorem J_HFinder_fill_d9 : decode J_HFinder_fill.2.1 9 = .ok (.iconst 4, 1) := by decide +kernel
theorem J_HFinder_fill_d10 : decode J_HFinder_fill.2.1 10 = .ok (.invokevirtual 129, 3) := by decide +kernel
theorem J_HFinder_fill_d13 : decode J_HFinder_fill.2.1 13 = .ok (.istore 4, 2) := by decide +kernel
theorem J_HFinder_fill_d15 : decode J_HFinder_fill.2.1 15 = .ok (.aload_n 2, 1) := by decide +kernel
theorem J_HFinder_fill_d16 : decode J_HFinder_fill.2.1 16 = .ok (.getfield 132, 3) := by decide +kernel
theorem J_HFinder_fill_d19 : decode J_HFinder_fill.2.1 19 = .ok (.iconst 1, 1) := by decide +kernel
theorem J_HFinder_fill_d20 : decode J_HFinder_fill.2.1 20 = .ok (.isub, 1) := by decide +kernel
theorem J_HFinder_fill_d21 : decode J_HFinder_fill.2.1 21 = .ok (.istore 5, 2) := by decide +kernel
theorem J_HFinder_fill_d23 : decode J_HFinder_fill.2.1 23 = .ok (.iconst 0, 1) := by decide +kernel
theorem J_HFinder_fill_d24 : decode J_HFinder_fill.2.1 24 = .ok (.istore 6, 2) := by decide +kernel
theorem J_HFinder_fill_d26 : decode J_HFinder_fill.2.1 26 = .ok (.iload 6, 2) := by decide +kernel
theorem J_HFinder_fill_d28 : decode J_HFinder_fill.2.1 28 = .ok (.iload 5, 2) := by decide +kernel
theorem J_HFinder_fill_d30 : decode J_HFinder_fill.2.1 30 = .ok (.if_icmp .gt 161, 3) := by decide +kernel
theorem J_HFinder_fill_d33 : decode J_HFinder_fill.2.1 33 = .ok (.iconst 0, 1) := by decide +kernel
theorem J_HFinder_fill_d34 : decode J_HFinder_fill.2.1 34 = .ok (.istore 7, 2) := by decide +kernel
theorem J_HFinder_fill_d36 : decode J_HFinder_fill.2.1 36 = .ok (.iload 7, 2) := by decide +kernel
theorem J_HFinder_fill_d38 : decode J_HFinder_fill.2.1 38 = .ok (.iload 5, 2) := by decide +kernel
theorem J_HFinder_fill_d40 : decode J_HFinder_fill.2.1 40 = .ok (.if_icmp .gt 145, 3) := by decide +kernel
theorem J_HFinder_fill_d43 : decode J_HFinder_fill.2.1 43 = .ok (.iload 4, 2) := by decide +kernel
theorem J_HFinder_fill_d45 : decode J_HFinder_fill.2.1 45 = .ok (.ifCond .ne 8, 3) := by decide +kernel
theorem J_HFinder_fill_d48 : decode J_HFinder_fill.2.1 48 = .ok (.iload 7, 2) := by decide +kernel
theorem J_HFinder_fill_d50 : decode J_HFinder_fill.2.1 50 = .ok (.goto 33, 3) := by decide +kernel
theorem J_HFinder_fill_d53 : decode J_HFinder_fill.2.1 53 = .ok (.iload 4, 2) := by decide +kernel
theorem J_HFinder_fill_d55 : decode J_HFinder_fill.2.1 55 = .ok (.iconst 1, 1) := by decide +kernel
theorem J_HFinder_fill_d56 : decode J_HFinder_fill.2.1 56 = .ok (.if_icmp .ne 11, 3) := by decide +kernel
theorem J_HFinder_fill_d59 : decode J_HFinder_fill.2.1 59 = .ok (.iload 5, 2) := by decide +kernel
theorem J_HFinder_fill_d61 : decode J_HFinder_fill.2.1 61 = .ok (.iload 6, 2) := by decide +kernel
theorem J_HFinder_fill_d63 : decode J_HFinder_fill.2.1 63 = .ok (.isub, 1) := by decide +kernel
theorem J_HFinder_fill_d64 : decode J_HFinder_fill.2.1 64 = .ok (.goto 19, 3) := by decide +kernel
theorem J_HFinder_fill_d67 : decode J_HFinder_fill.2.1 67 = .ok (.iload 4, 2) := by decide +kernel
theorem J_HFinder_fill_d69 : decode J_HFinder_fill.2.1 69 = .ok (.iconst 2, 1) := by decide +kernel
theorem J_HFinder_fill_d70 : decode J_HFinder_fill.2.1 70 = .ok (.if_icmp .ne 11, 3) := by decide +kernel
theorem J_HFinder_fill_d73 : decode J_HFinder_fill.2.1 73 = .ok (.iload 5, 2) := by decide +kernel
theorem J_HFinder_fill_d75 : decode J_HFinder_fill.2.1 75 = .ok (.iload 7, 2) := by decide +kernel
theorem J_HFinder_fill_d77 : decode J_HFinder_fill.2.1 77 = .ok (.isub, 1) := by decide +kernel
theorem J_HFinder_fill_d78 : decode J_HFinder_fill.2.1 78 = .ok (.goto 5, 3) := by decide +kernel
theorem J_HFinder_fill_d81 : decode J_HFinder_fill.2.1 81 = .ok (.iload 6, 2) := by decide +kernel
theorem J_HFinder_fill_d83 : decode J_HFinder_fill.2.1 83 = .ok (.istore 8, 2) := by decide +kernel
theorem J_HFinder_fill_d85 : decode J_HFinder_fill.2.1 85 = .ok (.iload 4, 2) := by decide +kernel
theorem J_HFinder_fill_d87 : decode J_HFinder_fill.2.1 87 = .ok (.ifCond .ne 8, 3) := by decide +kernel
theorem J_HFinder_fill_d90 : decode J_HFinder_fill.2.1 90 = .ok (.iload 6, 2) := by decide +kernel
theorem J_HFinder_fill_d92 : decode J_HFinder_fill.2.1 92 = .ok (.goto 33, 3) := by decide +kernel
theorem J_HFinder_fill_d95 : decode J_HFinder_fill.2.1 95 = .ok (.iload 4, 2) := by decide +kernel
theorem J_HFinder_fill_d97 : decode J_HFinder_fill.2.1 97 = .ok (.iconst 1, 1) := by decide +kernel
theorem J_HFinder_fill_d98 : decode J_HFinder_fill.2.1 98 = .ok (.if_icmp .ne 8, 3) := by decide +kernel
theorem J_HFinder_fill_d101 : decode J_HFinder_fill.2.1 101 = .ok (.iload 7, 2) := by decide +kernel
theorem J_HFinder_fill_d103 : decode J_HFinder_fill.2.1 103 = .ok (.goto 22, 3) := by decide +kernel
theorem J_HFinder_fill_d106 : decode J_HFinder_fill.2.1 106 = .ok (.iload 4, 2) := by decide +kernel
theorem J_HFinder_fill_d108 : decode J_HFinder_fill.2.1 108 = .ok (.iconst 2, 1) := by decide +kernel
theorem J_HFinder_fill_d109 : decode J_HFinder_fill.2.1 109 = .ok (.if_icmp .ne 11, 3) := by decide +kernel
theorem J_HFinder_fill_d112 : decode J_HFinder_fill.2.1 112 = .ok (.iload 5, 2) := by decide +kernel
theorem J_HFinder_fill_d114 : decode J_HFinder_fill.2.1 114 = .ok (.iload 6, 2) := by decide +kernel
theorem J_HFinder_fill_d116 : decode J_HFinder_fill.2.1 116 = .ok (.isub, 1) := by decide +kernel
theorem J_HFinder_fill_d117 : decode J_HFinder_fill.2.1 117 = .ok (.goto 8, 3) := by decide +kernel
theorem J_HFinder_fill_d120 : decode J_HFinder_fill.2.1 120 = .ok (.iload 5, 2) := by decide +kernel
theorem J_HFinder_fill_d122 : decode J_HFinder_fill.2.1 122 = .ok (.iload 7, 2) := by decide +kernel
theorem J_HFinder_fill_d124 : decode J_HFinder_fill.2.1 124 = .ok (.isub, 1) := by decide +kernel
theorem J_HFinder_fill_d125 : decode J_HFinder_fill.2.1 125 = .ok (.istore 9, 2) := by decide +kernel
theorem J_HFinder_fill_d127 : decode J_HFinder_fill.2.1 127 = .ok (.aload_n 0, 1) := by decide +kernel
theorem J_HFinder_fill_d128 : decode J_HFinder_fill.2.1 128 = .ok (.aload_n 0, 1) := by decide +kernel
theorem J_HFinder_fill_d129 : decode J_HFinder_fill.2.1 129 = .ok (.iload_n 1, 1) := by decide +kernel
theorem J_HFinder_fill_d130 : decode J_HFinder_fill.2.1 130 = .ok (.iconst 0, 1) := by decide +kernel
theorem J_HFinder_fill_d131 : decode J_HFinder_fill.2.1 131 = .ok (.invokevirtual 129, 3) := by decide +kernel
theorem J_HFinder_fill_d134 : decode J_HFinder_fill.2.1 134 = .ok (.iload_n 3, 1) := by decide +kernel
theorem J_HFinder_fill_d135 : decode J_HFinder_fill.2.1 135 = .ok (.iload 8, 2) := by decide +kernel
theorem J_HFinder_fill_d137 : decode J_HFinder_fill.2.1 137 = .ok (.imul, 1) := by decide +kernel
theorem J_HFinder_fill_d138 : decode J_HFinder_fill.2.1 138 = .ok (.iadd, 1) := by decide +kernel
theorem J_HFinder_fill_d139 : decode J_HFinder_fill.2.1 139 = .ok (.aload_n 0, 1) := by decide +kernel
theorem J_HFinder_fill_d140 : decode J_HFinder_fill.2.1 140 = .ok (.iload_n 1, 1) := by decide +kernel
theorem J_HFinder_fill_d141 : decode J_HFinder_fill.2.1 141 = .ok (.iconst 1, 1) := by decide +kernel
theorem J_HFinder_fill_d142 : decode J_HFinder_fill.2.1 142 = .ok (.invokevirtual 129, 3) := by decide +kernel
theorem J_HFinder_fill_d145 : decode J_HFinder_fill.2.1 145 = .ok (.iload_n 3, 1) := by decide +kernel
theorem J_HFinder_fill_d146 : decode J_HFinder_fill.2.1 146 = .ok (.iload 9, 2) := by decide +kernel
theorem J_HFinder_fill_d148 : decode J_HFinder_fill.2.1 148 = .ok (.imul, 1) := by decide +kernel
theorem J_HFinder_fill_d149 : decode J_HFinder_fill.2.1 149 = .ok (.iadd, 1) := by decide +kernel
theorem J_HFinder_fill_d150 : decode J_HFinder_fill.2.1 150 = .ok (.iload_n 3, 1) := by decide +kernel
theorem J_HFinder_fill_d151 : decode J_HFinder_fill.2.1 151 = .ok (.invokevirtual 137, 3) := by decide +kernel
theorem J_HFinder_fill_d154 : decode J_HFinder_fill.2.1 154 = .ok (.istore 10, 2) := by decide +kernel
theorem J_HFinder_fill_d156 : decode J_HFinder_fill.2.1 156 = .ok (.aload_n 2, 1) := by decide +kernel
theorem J_HFinder_fill_d157 : decode J_HFinder_fill.2.1 157 = .ok (.iload 7, 2) := by decide +kernel
theorem J_HFinder_fill_d159 : decode J_HFinder_fill.2.1 159 = .ok (.iload 6, 2) := by decide +kernel
theorem J_HFinder_fill_d161 : decode J_HFinder_fill.2.1 161 = .ok (.iconst 2, 1) := by decide +kernel
theorem J_HFinder_fill_d162 : decode J_HFinder_fill.2.1 162 = .ok (.iload 10, 2) := by decide +kernel
theorem J_HFinder_fill_d164 : decode J_HFinder_fill.2.1 164 = .ok (.imul, 1) := by decide +kernel
theorem J_HFinder_fill_d165 : decode J_HFinder_fill.2.1 165 = .ok (.iload_n 3, 1) := by decide +kernel
theorem J_HFinder_fill_d166 : decode J_HFinder_fill.2.1 166 = .ok (.iload_n 3, 1) := by decide +kernel
theorem J_HFinder_fill_d167 : decode J_HFinder_fill.2.1 167 = .ok (.imul, 1) := by decide +kernel
theorem J_HFinder_fill_d168 : decode J_HFinder_fill.2.1 168 = .ok (.if_icmp .le 7, 3) := by decide +kernel
theorem J_HFinder_fill_d171 : decode J_HFinder_fill.2.1 171 = .ok (.iconst 1, 1) := by decide +kernel
theorem J_HFinder_fill_d172 : decode J_HFinder_fill.2.1 172 = .ok (.goto 4, 3) := by decide +kernel
theorem J_HFinder_fill_d175 : decode J_HFinder_fill.2.1 175 = .ok (.iconst 0, 1) := by decide +kernel
theorem J_HFinder_fill_d176 : decode J_HFinder_fill.2.1 176 = .ok (.invokevirtual 140, 3) := by decide +kernel
theorem J_HFinder_fill_d179 : decode J_HFinder_fill.2.1 179 = .ok (.iinc 7 1, 3) := by decide +kernel
theorem J_HFinder_fill_d182 : decode J_HFinder_fill.2.1 182 = .ok (.goto (-146), 3) := by decide +kernel
theorem J_HFinder_fill_d185 : decode J_HFinder_fill.2.1 185 = .ok (.iinc 6 1, 3) := by decide +kernel
theorem J_HFinder_fill_d188 : decode J_HFinder_fill.2.1 188 = .ok (.goto (-162), 3) := by decide +kernel
theorem J_HFinder_fill_d191 : decode J_HFinder_fill.2.1 191 = .ok (.return_, 1) := by decide +kernel
theorem f_HFinder_fill_ok {L : Nat} {xs : Nat → Int32} {dep : Nat} {w : Bool} {p0 : Int32} {M : im_M} {Q : im_M → Prop} (hM : lw_S w M) (h : ed (f_HFinder_fill w p0 M) Q) : ia (tb_G L xs) (dep + 3) J_HFinder_fill (rwV w Q) (0, lv_args 0 [.ref 59, .int p0, .ref 38], [], M) := by
  have hS : im_St (tb_G L xs) (dep + 3) J_HFinder_fill (ia (tb_G L xs) (dep + 3) J_HFinder_fill (rwV w Q)) := ia_St
  unfold f_HFinder_fill at h
  have l0 : im_lk (lv_args 0 [.ref 59, .int p0, .ref 38]) 0 = some (.ref 59) := rfl
  have l1 : im_lk (lv_args 0 [.ref 59, .int p0, .ref 38]) 1 = some (.int p0) := rfl
  have l2 : im_lk (lv_args 0 [.ref 59, .int p0, .ref 38]) 2 = some (.ref 38) := rfl
  refine iq_aload_n hS 1 J_HFinder_fill_d0 l0 rfl ?_
  refine iq_iload_n hS 2 J_HFinder_fill_d1 l1 rfl ?_
  refine iq_iconst hS 3 J_HFinder_fill_d2 (v := 2) (by decide +kernel) rfl ?_
  obtain ⟨Q1, hQ1, h⟩ := bd1_ed h
  refine iq_cpI hS 6 J_HFinder_fill_d3 rfl (pr_inst (vs := [_, _]) lc_3_129 lT_216 rfl rfl (by decide) (by decide) rfl (Nat.le_of_ble_eq_true rfl) (Nat.le_of_ble_eq_true rfl) (fun _ => Or.inl (pr_b (ka_59 hM) (by decide) rfl))) (f_HFinder_part_ok (dep := dep + 2) hM h) rfl ?_
  intro x1 h
  replace h := hQ1 _ h
  refine iq_istore_n hS 7 J_HFinder_fill_d6 (by decide) rfl ?_
  refine iq_aload_n hS 8 J_HFinder_fill_d7 (lk_1r l0 (by decide)) rfl ?_
  refine iq_iload_n hS 9 J_HFinder_fill_d8 (lk_1i l1 (by decide)) rfl ?_
  refine iq_iconst hS 10 J_HFinder_fill_d9 (v := 4) (by decide +kernel) rfl ?_
  obtain ⟨Q2, hQ2, h⟩ := bd1_ed h
  refine iq_cpI hS 13 J_HFinder_fill_d10 rfl (pr_inst (vs := [_, _]) lc_3_129 lT_216 rfl rfl (by decide) (by decide) rfl (Nat.le_of_ble_eq_true rfl) (Nat.le_of_ble_eq_true rfl) (fun _ => Or.inl (pr_b (ka_59 hM) (by decide) rfl))) (f_HFinder_part_ok (dep := dep + 2) hM h) rfl ?_
  intro x2 h
  replace h := hQ2 _ h
  refine iq_istore hS 15 J_HFinder_fill_d13 (by decide) rfl ?_
  refine iq_aload_n hS 16 J_HFinder_fill_d15 (lk_1r (lk_1r l2 (by decide)) (by decide)) rfl ?_
  refine iq_getI hS 19 J_HFinder_fill_d16 lf_3_132 (Or.inl rfl) (ka_38 hM) rfl ?_
  refine iq_iconst hS 20 J_HFinder_fill_d19 (v := 1) (by decide +kernel) rfl ?_
  refine iq_isub hS 21 J_HFinder_fill_d20 rfl ?_
  refine iq_istore hS 23 J_HFinder_fill_d21 (by decide) rfl ?_
  refine iq_iconst hS 24 J_HFinder_fill_d23 (v := 0) (by decide +kernel) rfl ?_
  refine iq_istore hS 26 J_HFinder_fill_d24 (by decide) rfl ?_
  obtain ⟨Q3, hQ3, h⟩ := bd1_ed h
  have K3 : ∀ (M4 : im_M) (L' : List (Nat × Value)), lw_S w M4 → Q3 M4 → ia (tb_G L xs) (dep + 3) J_HFinder_fill (rwV w Q) (191, L', [], M4) := by
    intro M4 L' hM4  h
    replace h := hQ3 _ h
    exact iq_ret J_HFinder_fill_d191 rfl ⟨rfl, hM4, ed_some h⟩
  obtain ⟨r3, hr3, hq3⟩ := h
  obtain ⟨n3, hn3⟩ := lp_n hr3
  have I3 : ∀ (n : Nat) (x5 : Int32) (M6 : im_M) (L' : List (Nat × Value)), lw_S w M6 → im_lk L' 0 = some (.ref 59) → im_lk L' 1 = some (.int p0) → im_lk L' 2 = some (.ref 38) → im_lk L' 3 = some (.int x1) → im_lk L' 4 = some (.int x2) → im_lk L' 5 = some (.int ((im_i M 38 1) - 1)) → im_lk L' 6 = some (.int x5) → lpn (uc2 (f_HFinder_fill_L26 w p0 x1 x2 ((im_i M 38 1) - 1))) n (x5, M6) = some r3 → ia (tb_G L xs) (dep + 3) J_HFinder_fill (rwV w Q) (26, L', [], M6) := by
    intro n
    induction n with
    | zero => intro x5 M6 L' hM6 l7 l8 l9 l10 l11 l12 l13 hn; exact (lpn_0 hn).elim
    | succ n ih =>
      intro x5 M6 L' hM6 l7 l8 l9 l10 l11 l12 l13 hn
      have h := lpn_ed2 hn
      unfold f_HFinder_fill_L26 at h
      refine iq_iload hS 28 J_HFinder_fill_d26 l13 rfl ?_
      refine iq_iload hS 30 J_HFinder_fill_d28 l12 rfl ?_
      refine iq_icmp_gt hS 33 J_HFinder_fill_d30 (t := 191) rfl (fun q30 => ?_) rfl (fun q30 => ?_)
      · replace h := ed_pos q30 h
        exact K3 _ _ hM6  (lq_r h hq3)
      · replace h := ed_neg q30 h
        refine iq_iconst hS 34 J_HFinder_fill_d33 (v := 0) (by decide +kernel) rfl ?_
        refine iq_istore hS 36 J_HFinder_fill_d34 (by decide) rfl ?_
        obtain ⟨Q14, hQ14, h⟩ := bd1_ed h
        have K14 : ∀ (M15 : im_M) (L' : List (Nat × Value)), lw_S w M15 → im_lk L' 0 = some (.ref 59) → im_lk L' 1 = some (.int p0) → im_lk L' 2 = some (.ref 38) → im_lk L' 3 = some (.int x1) → im_lk L' 4 = some (.int x2) → im_lk L' 5 = some (.int ((im_i M 38 1) - 1)) → im_lk L' 6 = some (.int x5) → Q14 M15 → ia (tb_G L xs) (dep + 3) J_HFinder_fill (rwV w Q) (185, L', [], M15) := by
          intro M15 L' hM15 l16 l17 l18 l19 l20 l21 l22 h
          replace h := hQ14 _ h
          refine iq_iincv hS 188 J_HFinder_fill_d185 (c := 1) (by decide +kernel) l22 (by decide) rfl ?_
          refine iq_goto hS J_HFinder_fill_d188 (t := 26) rfl ?_
          exact ih _ _ _ hM15 (lk_1r l16 (by decide)) (lk_1i l17 (by decide)) (lk_1r l18 (by decide)) (lk_1i l19 (by decide)) (lk_1i l20 (by decide)) (lk_1i l21 (by decide)) lk_1s (lq_l h)
        obtain ⟨r14, hr14, hq14⟩ := h
        obtain ⟨n14, hn14⟩ := lp_n hr14
        have I14 : ∀ (n : Nat) (x23 : Int32) (M24 : im_M) (L' : List (Nat × Value)), lw_S w M24 → im_lk L' 0 = some (.ref 59) → im_lk L' 1 = some (.int p0) → im_lk L' 2 = some (.ref 38) → im_lk L' 3 = some (.int x1) → im_lk L' 4 = some (.int x2) → im_lk L' 5 = some (.int ((im_i M 38 1) - 1)) → im_lk L' 6 = some (.int x5) → im_lk L' 7 = some (.int x23) → lpn (uc2 (f_HFinder_fill_L36 w p0 x1 x2 ((im_i M 38 1) - 1) x5)) n (x23, M24) = some r14 → ia (tb_G L xs) (dep + 3) J_HFinder_fill (rwV w Q) (36, L', [], M24) := by
          intro n
          induction n with
          | zero => intro x23 M24 L' hM24 l25 l26 l27 l28 l29 l30 l31 l32 hn; exact (lpn_0 hn).elim
          | succ n ih =>
            intro x23 M24 L' hM24 l25 l26 l27 l28 l29 l30 l31 l32 hn
            have h := lpn_ed2 hn
            unfold f_HFinder_fill_L36 at h
            refine iq_iload hS 38 J_HFinder_fill_d36 l32 rfl ?_
            refine iq_iload hS 40 J_HFinder_fill_d38 l30 rfl ?_
            refine iq_icmp_gt hS 43 J_HFinder_fill_d40 (t := 185) rfl (fun q40 => ?_) rfl (fun q40 => ?_)
            · replace h := ed_pos q40 h
              exact K14 _ _ hM24 l25 l26 l27 l28 l29 l30 l31 (lq_r h hq14)
            · replace h := ed_neg q40 h
              refine iq_iload hS 45 J_HFinder_fill_d43 l29 rfl ?_
              have J33 : ∀ (z34 : Int32) (L' : List (Nat × Value)), z34 = ((if ¬ x2 = 0 then (if ¬ x2 = 1 then (if ¬ x2 = 2 then x5 else (((im_i M 38 1) - 1) - x23)) else (((im_i M 38 1) - 1) - x5)) else x23) : Int32) → im_lk L' 0 = some (.ref 59) → im_lk L' 1 = some (.int p0) → im_lk L' 2 = some (.ref 38) → im_lk L' 3 = some (.int x1) → im_lk L' 4 = some (.int x2) → im_lk L' 5 = some (.int ((im_i M 38 1) - 1)) → im_lk L' 6 = some (.int x5) → im_lk L' 7 = some (.int x23) → ia (tb_G L xs) (dep + 3) J_HFinder_fill (rwV w Q) (83, L', [.int z34], M24) := by
                intro z34 L' e35 l36 l37 l38 l39 l40 l41 l42 l43
                subst e35
                refine iq_istore hS 85 J_HFinder_fill_d83 (by decide) rfl ?_
                refine iq_iload hS 87 J_HFinder_fill_d85 (lk_1i l40 (by decide)) rfl ?_
                have J44 : ∀ (z45 : Int32) (L' : List (Nat × Value)), z45 = ((if ¬ x2 = 0 then (if ¬ x2 = 1 then (if ¬ x2 = 2 then (((im_i M 38 1) - 1) - x23) else (((im_i M 38 1) - 1) - x5)) else x23) else x5) : Int32) → im_lk L' 0 = some (.ref 59) → im_lk L' 1 = some (.int p0) → im_lk L' 2 = some (.ref 38) → im_lk L' 3 = some (.int x1) → im_lk L' 4 = some (.int x2) → im_lk L' 5 = some (.int ((im_i M 38 1) - 1)) → im_lk L' 6 = some (.int x5) → im_lk L' 7 = some (.int x23) → im_lk L' 8 = some (.int ((if ¬ x2 = 0 then (if ¬ x2 = 1 then (if ¬ x2 = 2 then x5 else (((im_i M 38 1) - 1) - x23)) else (((im_i M 38 1) - 1) - x5)) else x23) : Int32)) → ia (tb_G L xs) (dep + 3) J_HFinder_fill (rwV w Q) (125, L', [.int z45], M24) := by
                  intro z45 L' e46 l47 l48 l49 l50 l51 l52 l53 l54 l55
                  subst e46
                  refine iq_istore hS 127 J_HFinder_fill_d125 (by decide) rfl ?_
                  refine iq_aload_n hS 128 J_HFinder_fill_d127 (lk_1r l47 (by decide)) rfl ?_
                  refine iq_aload_n hS 129 J_HFinder_fill_d128 (lk_1r l47 (by decide)) rfl ?_
                  refine iq_iload_n hS 130 J_HFinder_fill_d129 (lk_1i l48 (by decide)) rfl ?_
                  refine iq_iconst hS 131 J_HFinder_fill_d130 (v := 0) (by decide +kernel) rfl ?_
                  obtain ⟨Q56, hQ56, h⟩ := bd1_ed h
                  refine iq_cpI hS 134 J_HFinder_fill_d131 rfl (pr_inst (vs := [_, _]) lc_3_129 lT_216 rfl rfl (by decide) (by decide) rfl (Nat.le_of_ble_eq_true rfl) (Nat.le_of_ble_eq_true rfl) (fun _ => Or.inl (pr_b (ka_59 hM24) (by decide) rfl))) (f_HFinder_part_ok (dep := dep + 2) hM24 h) rfl ?_
                  intro x56 h
                  replace h := hQ56 _ h
                  refine iq_iload_n hS 135 J_HFinder_fill_d134 (lk_1i l50 (by decide)) rfl ?_
                  refine iq_iload hS 137 J_HFinder_fill_d135 (lk_1i l55 (by decide)) rfl ?_
                  refine iq_imul hS 138 J_HFinder_fill_d137 rfl ?_
                  refine iq_iadd hS 139 J_HFinder_fill_d138 rfl ?_
                  refine iq_aload_n hS 140 J_HFinder_fill_d139 (lk_1r l47 (by decide)) rfl ?_
                  refine iq_iload_n hS 141 J_HFinder_fill_d140 (lk_1i l48 (by decide)) rfl ?_
                  refine iq_iconst hS 142 J_HFinder_fill_d141 (v := 1) (by decide +kernel) rfl ?_
                  obtain ⟨Q57, hQ57, h⟩ := bd1_ed h
                  refine iq_cpI hS 145 J_HFinder_fill_d142 rfl (pr_inst (vs := [_, _]) lc_3_129 lT_216 rfl rfl (by decide) (by decide) rfl (Nat.le_of_ble_eq_true rfl) (Nat.le_of_ble_eq_true rfl) (fun _ => Or.inl (pr_b (ka_59 hM24) (by decide) rfl))) (f_HFinder_part_ok (dep := dep + 2) hM24 h) rfl ?_
                  intro x57 h
                  replace h := hQ57 _ h
                  refine iq_iload_n hS 146 J_HFinder_fill_d145 (lk_1i l50 (by decide)) rfl ?_
                  refine iq_iload hS 148 J_HFinder_fill_d146 lk_1s rfl ?_
                  refine iq_imul hS 149 J_HFinder_fill_d148 rfl ?_
                  refine iq_iadd hS 150 J_HFinder_fill_d149 rfl ?_
                  refine iq_iload_n hS 151 J_HFinder_fill_d150 (lk_1i l50 (by decide)) rfl ?_
                  obtain ⟨Q58, hQ58, h⟩ := bd1_ed h
                  refine iq_cpI hS 154 J_HFinder_fill_d151 rfl (pr_inst (vs := [_, _, _]) lc_3_137 lT_221 rfl rfl (by decide) (by decide) rfl (Nat.le_of_ble_eq_true rfl) (Nat.le_of_ble_eq_true rfl) (fun _ => Or.inl (pr_b (ka_59 hM24) (by decide) rfl))) (f_HFinder_darkNow_ok (dep := dep + 0) hM24 h) rfl ?_
                  intro x58 h
                  replace h := hQ58 _ h
                  refine iq_istore hS 156 J_HFinder_fill_d154 (by decide) rfl ?_
                  refine iq_aload_n hS 157 J_HFinder_fill_d156 (lk_1r (lk_1r l49 (by decide)) (by decide)) rfl ?_
                  refine iq_iload hS 159 J_HFinder_fill_d157 (lk_1i (lk_1i l54 (by decide)) (by decide)) rfl ?_
                  refine iq_iload hS 161 J_HFinder_fill_d159 (lk_1i (lk_1i l53 (by decide)) (by decide)) rfl ?_
                  refine iq_iconst hS 162 J_HFinder_fill_d161 (v := 2) (by decide +kernel) rfl ?_
                  refine iq_iload hS 164 J_HFinder_fill_d162 lk_1s rfl ?_
                  refine iq_imul hS 165 J_HFinder_fill_d164 rfl ?_
                  refine iq_iload_n hS 166 J_HFinder_fill_d165 (lk_1i (lk_1i l50 (by decide)) (by decide)) rfl ?_
                  refine iq_iload_n hS 167 J_HFinder_fill_d166 (lk_1i (lk_1i l50 (by decide)) (by decide)) rfl ?_
                  refine iq_imul hS 168 J_HFinder_fill_d167 rfl ?_
                  have J59 : ∀ (z60 : Int32) (L' : List (Nat × Value)), z60 = ((if ((2 : Int32) * x58) ≤ (x1 * x1) then 0 else 1) : Int32) → im_lk L' 0 = some (.ref 59) → im_lk L' 1 = some (.int p0) → im_lk L' 2 = some (.ref 38) → im_lk L' 3 = some (.int x1) → im_lk L' 4 = some (.int x2) → im_lk L' 5 = some (.int ((im_i M 38 1) - 1)) → im_lk L' 6 = some (.int x5) → im_lk L' 7 = some (.int x23) → ia (tb_G L xs) (dep + 3) J_HFinder_fill (rwV w Q) (176, L', [.int z60, .int x5, .int x23, .ref 38], M24) := by
                    intro z60 L' e61 l62 l63 l64 l65 l66 l67 l68 l69
                    subst e61
                    obtain ⟨Q70, hQ70, h⟩ := bd1_ed h
                    refine iq_cwV hS 179 J_HFinder_fill_d176 rfl (pr_inst (vs := [_, _, _]) lc_3_140 lT_170 rfl rfl (by decide) (by decide) rfl (Nat.le_of_ble_eq_true rfl) (Nat.le_of_ble_eq_true rfl) (fun _ => Or.inl (pr_b (ka_38 hM24) (by decide) rfl))) (f_HGrid_set_ok (dep := dep + 2) hM24 h) rfl ?_
                    intro M70 hM70 h
                    replace h := hQ70 _ h
                    refine iq_iincv hS 182 J_HFinder_fill_d179 (c := 1) (by decide +kernel) l69 (by decide) rfl ?_
                    refine iq_goto hS J_HFinder_fill_d182 (t := 36) rfl ?_
                    exact ih _ _ _ hM70 (lk_1r l62 (by decide)) (lk_1i l63 (by decide)) (lk_1r l64 (by decide)) (lk_1i l65 (by decide)) (lk_1i l66 (by decide)) (lk_1i l67 (by decide)) (lk_1i l68 (by decide)) lk_1s (lq_l h)
                  refine iq_icmp_le hS 171 J_HFinder_fill_d168 (t := 175) rfl (fun q168 => ?_) rfl (fun q168 => ?_)
                  · refine iq_iconst hS 176 J_HFinder_fill_d175 (v := 0) (by decide +kernel) rfl ?_
                    exact J59 _ _ (by rw [if_pos q168]) (lk_1r (lk_1r l47 (by decide)) (by decide)) (lk_1i (lk_1i l48 (by decide)) (by decide)) (lk_1r (lk_1r l49 (by decide)) (by decide)) (lk_1i (lk_1i l50 (by decide)) (by decide)) (lk_1i (lk_1i l51 (by decide)) (by decide)) (lk_1i (lk_1i l52 (by decide)) (by decide)) (lk_1i (lk_1i l53 (by decide)) (by decide)) (lk_1i (lk_1i l54 (by decide)) (by decide))
                  · refine iq_iconst hS 172 J_HFinder_fill_d171 (v := 1) (by decide +kernel) rfl ?_
                    refine iq_goto hS J_HFinder_fill_d172 (t := 176) rfl ?_
                    exact J59 _ _ (by rw [if_neg q168]) (lk_1r (lk_1r l47 (by decide)) (by decide)) (lk_1i (lk_1i l48 (by decide)) (by decide)) (lk_1r (lk_1r l49 (by decide)) (by decide)) (lk_1i (lk_1i l50 (by decide)) (by decide)) (lk_1i (lk_1i l51 (by decide)) (by decide)) (lk_1i (lk_1i l52 (by decide)) (by decide)) (lk_1i (lk_1i l53 (by decide)) (by decide)) (lk_1i (lk_1i l54 (by decide)) (by decide))
                refine iq_if_ne hS 90 J_HFinder_fill_d87 (t := 95) rfl (fun q87 => ?_) rfl (fun q87 => ?_)
                · refine iq_iload hS 97 J_HFinder_fill_d95 (lk_1i l40 (by decide)) rfl ?_
                  refine iq_iconst hS 98 J_HFinder_fill_d97 (v := 1) (by decide +kernel) rfl ?_
                  refine iq_icmp_ne hS 101 J_HFinder_fill_d98 (t := 106) rfl (fun q98 => ?_) rfl (fun q98 => ?_)
                  · refine iq_iload hS 108 J_HFinder_fill_d106 (lk_1i l40 (by decide)) rfl ?_
                    refine iq_iconst hS 109 J_HFinder_fill_d108 (v := 2) (by decide +kernel) rfl ?_
                    refine iq_icmp_ne hS 112 J_HFinder_fill_d109 (t := 120) rfl (fun q109 => ?_) rfl (fun q109 => ?_)
                    · refine iq_iload hS 122 J_HFinder_fill_d120 (lk_1i l41 (by decide)) rfl ?_
                      refine iq_iload hS 124 J_HFinder_fill_d122 (lk_1i l43 (by decide)) rfl ?_
                      refine iq_isub hS 125 J_HFinder_fill_d124 rfl ?_
                      exact J44 _ _ (by rw [if_pos q87, if_pos q98, if_pos q109]) (lk_1r l36 (by decide)) (lk_1i l37 (by decide)) (lk_1r l38 (by decide)) (lk_1i l39 (by decide)) (lk_1i l40 (by decide)) (lk_1i l41 (by decide)) (lk_1i l42 (by decide)) (lk_1i l43 (by decide)) lk_1s
                    · refine iq_iload hS 114 J_HFinder_fill_d112 (lk_1i l41 (by decide)) rfl ?_
                      refine iq_iload hS 116 J_HFinder_fill_d114 (lk_1i l42 (by decide)) rfl ?_
                      refine iq_isub hS 117 J_HFinder_fill_d116 rfl ?_
                      refine iq_goto hS J_HFinder_fill_d117 (t := 125) rfl ?_
                      exact J44 _ _ (by rw [if_pos q87, if_pos q98, if_neg q109]) (lk_1r l36 (by decide)) (lk_1i l37 (by decide)) (lk_1r l38 (by decide)) (lk_1i l39 (by decide)) (lk_1i l40 (by decide)) (lk_1i l41 (by decide)) (lk_1i l42 (by decide)) (lk_1i l43 (by decide)) lk_1s
                  · refine iq_iload hS 103 J_HFinder_fill_d101 (lk_1i l43 (by decide)) rfl ?_
                    refine iq_goto hS J_HFinder_fill_d103 (t := 125) rfl ?_
                    exact J44 _ _ (by rw [if_pos q87, if_neg q98]) (lk_1r l36 (by decide)) (lk_1i l37 (by decide)) (lk_1r l38 (by decide)) (lk_1i l39 (by decide)) (lk_1i l40 (by decide)) (lk_1i l41 (by decide)) (lk_1i l42 (by decide)) (lk_1i l43 (by decide)) lk_1s
                · refine iq_iload hS 92 J_HFinder_fill_d90 (lk_1i l42 (by decide)) rfl ?_
                  refine iq_goto hS J_HFinder_fill_d92 (t := 125) rfl ?_
                  exact J44 _ _ (by rw [if_neg q87]) (lk_1r l36 (by decide)) (lk_1i l37 (by decide)) (lk_1r l38 (by decide)) (lk_1i l39 (by decide)) (lk_1i l40 (by decide)) (lk_1i l41 (by decide)) (lk_1i l42 (by decide)) (lk_1i l43 (by decide)) lk_1s
              refine iq_if_ne hS 48 J_HFinder_fill_d45 (t := 53) rfl (fun q45 => ?_) rfl (fun q45 => ?_)
              · refine iq_iload hS 55 J_HFinder_fill_d53 l29 rfl ?_
                refine iq_iconst hS 56 J_HFinder_fill_d55 (v := 1) (by decide +kernel) rfl ?_
                refine iq_icmp_ne hS 59 J_HFinder_fill_d56 (t := 67) rfl (fun q56 => ?_) rfl (fun q56 => ?_)
                · refine iq_iload hS 69 J_HFinder_fill_d67 l29 rfl ?_
                  refine iq_iconst hS 70 J_HFinder_fill_d69 (v := 2) (by decide +kernel) rfl ?_
                  refine iq_icmp_ne hS 73 J_HFinder_fill_d70 (t := 81) rfl (fun q70 => ?_) rfl (fun q70 => ?_)
                  · refine iq_iload hS 83 J_HFinder_fill_d81 l31 rfl ?_
                    exact J33 _ _ (by rw [if_pos q45, if_pos q56, if_pos q70]) l25 l26 l27 l28 l29 l30 l31 l32
                  · refine iq_iload hS 75 J_HFinder_fill_d73 l30 rfl ?_
                    refine iq_iload hS 77 J_HFinder_fill_d75 l32 rfl ?_
                    refine iq_isub hS 78 J_HFinder_fill_d77 rfl ?_
                    refine iq_goto hS J_HFinder_fill_d78 (t := 83) rfl ?_
                    exact J33 _ _ (by rw [if_pos q45, if_pos q56, if_neg q70]) l25 l26 l27 l28 l29 l30 l31 l32
                · refine iq_iload hS 61 J_HFinder_fill_d59 l30 rfl ?_
                  refine iq_iload hS 63 J_HFinder_fill_d61 l31 rfl ?_
                  refine iq_isub hS 64 J_HFinder_fill_d63 rfl ?_
                  refine iq_goto hS J_HFinder_fill_d64 (t := 83) rfl ?_
                  exact J33 _ _ (by rw [if_pos q45, if_neg q56]) l25 l26 l27 l28 l29 l30 l31 l32
              · refine iq_iload hS 50 J_HFinder_fill_d48 l32 rfl ?_
                refine iq_goto hS J_HFinder_fill_d50 (t := 83) rfl ?_
                exact J33 _ _ (by rw [if_neg q45]) l25 l26 l27 l28 l29 l30 l31 l32
        exact I14 n14 _ _ _ hM6 (lk_1r l7 (by decide)) (lk_1i l8 (by decide)) (lk_1r l9 (by decide)) (lk_1i l10 (by decide)) (lk_1i l11 (by decide)) (lk_1i l12 (by decide)) (lk_1i l13 (by decide)) lk_1s hn14
  exact I3 n3 _ _ _ hM (lk_1r (lk_1r (lk_1r (lk_1r l0 (by decide)) (by decide)) (by decide)) (by decide)) (lk_1i (lk_1i (lk_1i (lk_1i l1 (by decide)) (by decide)) (by decide)) (by decide)) (lk_1r (lk_1r (lk_1r (lk_1r l2 (by decide)) (by decide)) (by decide)) (by decide)) (lk_1i (lk_1i (lk_1i lk_1s (by decide)) (by decide)) (by decide)) (lk_1i (lk_1i lk_1s (by decide)) (by decide)) (lk_1i lk_1s (by decide)) lk_1s hn3
noncomputable def f_Integer_bitCount (p0 : Int32) (M : im_M) : Option (Int32) := some ((((((((p0 - ((Int32.toUInt32 p0 >>> (Int32.toUInt32 1 &&& Int32.toUInt32 31)).toInt32 &&& 1431655765)) &&& 858993459) + ((Int32.toUInt32 (p0 - ((Int32.toUInt32 p0 >>> (Int32.toUInt32 1 &&& Int32.toUInt32 31)).toInt32 &&& 1431655765)) >>> (Int32.toUInt32 2 &&& Int32.toUInt32 31)).toInt32 &&& 858993459)) + (Int32.toUInt32 (((p0 - ((Int32.toUInt32 p0 >>> (Int32.toUInt32 1 &&& Int32.toUInt32 31)).toInt32 &&& 1431655765)) &&& 858993459) + ((Int32.toUInt32 (p0 - ((Int32.toUInt32 p0 >>> (Int32.toUInt32 1 &&& Int32.toUInt32 31)).toInt32 &&& 1431655765)) >>> (Int32.toUInt32 2 &&& Int32.toUInt32 31)).toInt32 &&& 858993459)) >>> (Int32.toUInt32 4 &&& Int32.toUInt32 31)).toInt32) &&& 252645135) + (Int32.toUInt32 (((((p0 - ((Int32.toUInt32 p0 >>> (Int32.toUInt32 1 &&& Int32.toUInt32 31)).toInt32 &&& 1431655765)) &&& 858993459) + ((Int32.toUInt32 (p0 - ((Int32.toUInt32 p0 >>> (Int32.toUInt32 1 &&& Int32.toUInt32 31)).toInt32 &&& 1431655765)) >>> (Int32.toUInt32 2 &&& Int32.toUInt32 31)).toInt32 &&& 858993459)) + (Int32.toUInt32 (((p0 - ((Int32.toUInt32 p0 >>> (Int32.toUInt32 1 &&& Int32.toUInt32 31)).toInt32 &&& 1431655765)) &&& 858993459) + ((Int32.toUInt32 (p0 - ((Int32.toUInt32 p0 >>> (Int32.toUInt32 1 &&& Int32.toUInt32 31)).toInt32 &&& 1431655765)) >>> (Int32.toUInt32 2 &&& Int32.toUInt32 31)).toInt32 &&& 858993459)) >>> (Int32.toUInt32 4 &&& Int32.toUInt32 31)).toInt32) &&& 252645135) >>> (Int32.toUInt32 8 &&& Int32.toUInt32 31)).toInt32) + (Int32.toUInt32 ((((((p0 - ((Int32.toUInt32 p0 >>> (Int32.toUInt32 1 &&& Int32.toUInt32 31)).toInt32 &&& 1431655765)) &&& 858993459) + ((Int32.toUInt32 (p0 - ((Int32.toUInt32 p0 >>> (Int32.toUInt32 1 &&& Int32.toUInt32 31)).toInt32 &&& 1431655765)) >>> (Int32.toUInt32 2 &&& Int32.toUInt32 31)).toInt32 &&& 858993459)) + (Int32.toUInt32 (((p0 - ((Int32.toUInt32 p0 >>> (Int32.toUInt32 1 &&& Int32.toUInt32 31)).toInt32 &&& 1431655765)) &&& 858993459) + ((Int32.toUInt32 (p0 - ((Int32.toUInt32 p0 >>> (Int32.toUInt32 1 &&& Int32.toUInt32 31)).toInt32 &&& 1431655765)) >>> (Int32.toUInt32 2 &&& Int32.toUInt32 31)).toInt32 &&& 858993459)) >>> (Int32.toUInt32 4 &&& Int32.toUInt32 31)).toInt32) &&& 252645135) + (Int32.toUInt32 (((((p0 - ((Int32.toUInt32 p0 >>> (Int32.toUInt32 1 &&& Int32.toUInt32 31)).toInt32 &&& 1431655765)) &&& 858993459) + ((Int32.toUInt32 (p0 - ((Int32.toUInt32 p0 >>> (Int32.toUInt32 1 &&& Int32.toUInt32 31)).toInt32 &&& 1431655765)) >>> (Int32.toUInt32 2 &&& Int32.toUInt32 31)).toInt32 &&& 858993459)) + (Int32.toUInt32 (((p0 - ((Int32.toUInt32 p0 >>> (Int32.toUInt32 1 &&& Int32.toUInt32 31)).toInt32 &&& 1431655765)) &&& 858993459) + ((Int32.toUInt32 (p0 - ((Int32.toUInt32 p0 >>> (Int32.toUInt32 1 &&& Int32.toUInt32 31)).toInt32 &&& 1431655765)) >>> (Int32.toUInt32 2 &&& Int32.toUInt32 31)).toInt32 &&& 858993459)) >>> (Int32.toUInt32 4 &&& Int32.toUInt32 31)).toInt32) &&& 252645135) >>> (Int32.toUInt32 8 &&& Int32.toUInt32 31)).toInt32) >>> (Int32.toUInt32 16 &&& Int32.toUInt32 31)).toInt32) &&& 63)
theorem J_Integer_bitCount_d0 : decode J_Integer_bitCount.2.1 0 = .ok (.iload_n 0, 1) := by decide +kernel
theorem J_Integer_bitCount_d1 : decode J_Integer_bitCount.2.1 1 = .ok (.iload_n 0, 1) := by decide +kernel
theorem J_Integer_bitCount_d2 : decode J_Integer_bitCount.2.1 2 = .ok (.iconst 1, 1) := by decide +kernel
theorem J_Integer_bitCount_d3 : decode J_Integer_bitCount.2.1 3 = .ok (.iushr, 1) := by decide +kernel
theorem J_Integer_bitCount_d4 : decode J_Integer_bitCount.2.1 4 = .ok (.ldc_w 265, 3) := by decide +kernel
theorem J_Integer_bitCount_d7 : decode J_Integer_bitCount.2.1 7 = .ok (.iand, 1) := by decide +kernel
theorem J_Integer_bitCount_d8 : decode J_Integer_bitCount.2.1 8 = .ok (.isub, 1) := by decide +kernel
theorem J_Integer_bitCount_d9 : decode J_Integer_bitCount.2.1 9 = .ok (.istore_n 0, 1) := by decide +kernel
theorem J_Integer_bitCount_d10 : decode J_Integer_bitCount.2.1 10 = .ok (.iload_n 0, 1) := by decide +kernel
theorem J_Integer_bitCount_d11 : decode J_Integer_bitCount.2.1 11 = .ok (.ldc_w 266, 3) := by decide +kernel
theorem J_Integer_bitCount_d14 : decode J_Integer_bitCount.2.1 14 = .ok (.iand, 1) := by decide +kernel
theorem J_Integer_bitCount_d15 : decode J_Integer_bitCount.2.1 15 = .ok (.iload_n 0, 1) := by decide +kernel
theorem J_Integer_bitCount_d16 : decode J_Integer_bitCount.2.1 16 = .ok (.iconst 2, 1) := by decide +kernel
theorem J_Integer_bitCount_d17 : decode J_Integer_bitCount.2.1 17 = .ok (.iushr, 1) := by decide +kernel
theorem J_Integer_bitCount_d18 : decode J_Integer_bitCount.2.1 18 = .ok (.ldc_w 266, 3) := by decide +kernel
theorem J_Integer_bitCount_d21 : decode J_Integer_bitCount.2.1 21 = .ok (.iand, 1) := by decide +kernel
theorem J_Integer_bitCount_d22 : decode J_Integer_bitCount.2.1 22 = .ok (.iadd, 1) := by decide +kernel
theorem J_Integer_bitCount_d23 : decode J_Integer_bitCount.2.1 23 = .ok (.istore_n 0, 1) := by decide +kernel
theorem J_Integer_bitCount_d24 : decode J_Integer_bitCount.2.1 24 = .ok (.iload_n 0, 1) := by decide +kernel
theorem J_Integer_bitCount_d25 : decode J_Integer_bitCount.2.1 25 = .ok (.iload_n 0, 1) := by decide +kernel
theorem J_Integer_bitCount_d26 : decode J_Integer_bitCount.2.1 26 = .ok (.iconst 4, 1) := by decide +kernel
theorem J_Integer_bitCount_d27 : decode J_Integer_bitCount.2.1 27 = .ok (.iushr, 1) := by decide +kernel
theorem J_Integer_bitCount_d28 : decode J_Integer_bitCount.2.1 28 = .ok (.iadd, 1) := by decide +kernel
theorem J_Integer_bitCount_d29 : decode J_Integer_bitCount.2.1 29 = .ok (.ldc_w 267, 3) := by decide +kernel
theorem J_Integer_bitCount_d32 : decode J_Integer_bitCount.2.1 32 = .ok (.iand, 1) := by decide +kernel
theorem J_Integer_bitCount_d33 : decode J_Integer_bitCount.2.1 33 = .ok (.istore_n 0, 1) := by decide +kernel
theorem J_Integer_bitCount_d34 : decode J_Integer_bitCount.2.1 34 = .ok (.iload_n 0, 1) := by decide +kernel
theorem J_Integer_bitCount_d35 : decode J_Integer_bitCount.2.1 35 = .ok (.iload_n 0, 1) := by decide +kernel
theorem J_Integer_bitCount_d36 : decode J_Integer_bitCount.2.1 36 = .ok (.bipush 8, 2) := by decide +kernel
theorem J_Integer_bitCount_d38 : decode J_Integer_bitCount.2.1 38 = .ok (.iushr, 1) := by decide +kernel
theorem J_Integer_bitCount_d39 : decode J_Integer_bitCount.2.1 39 = .ok (.iadd, 1) := by decide +kernel
theorem J_Integer_bitCount_d40 : decode J_Integer_bitCount.2.1 40 = .ok (.istore_n 0, 1) := by decide +kernel
theorem J_Integer_bitCount_d41 : decode J_Integer_bitCount.2.1 41 = .ok (.iload_n 0, 1) := by decide +kernel
theorem J_Integer_bitCount_d42 : decode J_Integer_bitCount.2.1 42 = .ok (.iload_n 0, 1) := by decide +kernel
theorem J_Integer_bitCount_d43 : decode J_Integer_bitCount.2.1 43 = .ok (.bipush 16, 2) := by decide +kernel
theorem J_Integer_bitCount_d45 : decode J_Integer_bitCount.2.1 45 = .ok (.iushr, 1) := by decide +kernel
theorem J_Integer_bitCount_d46 : decode J_Integer_bitCount.2.1 46 = .ok (.iadd, 1) := by decide +kernel
theorem J_Integer_bitCount_d47 : decode J_Integer_bitCount.2.1 47 = .ok (.istore_n 0, 1) := by decide +kernel
theorem J_Integer_bitCount_d48 : decode J_Integer_bitCount.2.1 48 = .ok (.iload_n 0, 1) := by decide +kernel
theorem J_Integer_bitCount_d49 : decode J_Integer_bitCount.2.1 49 = .ok (.bipush 63, 2) := by decide +kernel
theorem J_Integer_bitCount_d51 : decode J_Integer_bitCount.2.1 51 = .ok (.iand, 1) := by decide +kernel
theorem J_Integer_bitCount_d52 : decode J_Integer_bitCount.2.1 52 = .ok (.ireturn, 1) := by decide +kernel
theorem f_Integer_bitCount_ok {L : Nat} {xs : Nat → Int32} {dep : Nat} {w : Bool} {p0 : Int32} {M : im_M} {Q : Int32 → Prop} (hM : lw_S w M) (h : ed (f_Integer_bitCount p0 M) Q) : ia (tb_G L xs) dep J_Integer_bitCount (rpI M Q) (0, lv_args 0 [.int p0], [], M) := by
  have hS : im_St (tb_G L xs) dep J_Integer_bitCount (ia (tb_G L xs) dep J_Integer_bitCount (rpI M Q)) := ia_St
  unfold f_Integer_bitCount at h
  have l0 : im_lk (lv_args 0 [.int p0]) 0 = some (.int p0) := rfl
  refine iq_iload_n hS 1 J_Integer_bitCount_d0 l0 rfl ?_
  refine iq_iload_n hS 2 J_Integer_bitCount_d1 l0 rfl ?_
  refine iq_iconst hS 3 J_Integer_bitCount_d2 (v := 1) (by decide +kernel) rfl ?_
  refine iq_iushr hS 4 J_Integer_bitCount_d3 rfl ?_
  refine iq_ldc_w hS 7 J_Integer_bitCount_d4 lk_23_265 rfl ?_
  refine iq_iand hS 8 J_Integer_bitCount_d7 rfl ?_
  refine iq_isub hS 9 J_Integer_bitCount_d8 rfl ?_
  refine iq_istore_n hS 10 J_Integer_bitCount_d9 (by decide) rfl ?_
  refine iq_iload_n hS 11 J_Integer_bitCount_d10 lk_1s rfl ?_
  refine iq_ldc_w hS 14 J_Integer_bitCount_d11 lk_23_266 rfl ?_
  refine iq_iand hS 15 J_Integer_bitCount_d14 rfl ?_
  refine iq_iload_n hS 16 J_Integer_bitCount_d15 lk_1s rfl ?_
  refine iq_iconst hS 17 J_Integer_bitCount_d16 (v := 2) (by decide +kernel) rfl ?_
  refine iq_iushr hS 18 J_Integer_bitCount_d17 rfl ?_
  refine iq_ldc_w hS 21 J_Integer_bitCount_d18 lk_23_266 rfl ?_
  refine iq_iand hS 22 J_Integer_bitCount_d21 rfl ?_
  refine iq_iadd hS 23 J_Integer_bitCount_d22 rfl ?_
  refine iq_istore_n hS 24 J_Integer_bitCount_d23 (by decide) rfl ?_
  refine iq_iload_n hS 25 J_Integer_bitCount_d24 lk_1s rfl ?_
  refine iq_iload_n hS 26 J_Integer_bitCount_d25 lk_1s rfl ?_
  refine iq_iconst hS 27 J_Integer_bitCount_d26 (v := 4) (by decide +kernel) rfl ?_
  refine iq_iushr hS 28 J_Integer_bitCount_d27 rfl ?_
  refine iq_iadd hS 29 J_Integer_bitCount_d28 rfl ?_
  refine iq_ldc_w hS 32 J_Integer_bitCount_d29 lk_23_267 rfl ?_
  refine iq_iand hS 33 J_Integer_bitCount_d32 rfl ?_
  refine iq_istore_n hS 34 J_Integer_bitCount_d33 (by decide) rfl ?_
  refine iq_iload_n hS 35 J_Integer_bitCount_d34 lk_1s rfl ?_
  refine iq_iload_n hS 36 J_Integer_bitCount_d35 lk_1s rfl ?_
  refine iq_bipush hS 38 J_Integer_bitCount_d36 (v := 8) (by decide +kernel) rfl ?_
  refine iq_iushr hS 39 J_Integer_bitCount_d38 rfl ?_
  refine iq_iadd hS 40 J_Integer_bitCount_d39 rfl ?_
  refine iq_istore_n hS 41 J_Integer_bitCount_d40 (by decide) rfl ?_
  refine iq_iload_n hS 42 J_Integer_bitCount_d41 lk_1s rfl ?_
  refine iq_iload_n hS 43 J_Integer_bitCount_d42 lk_1s rfl ?_
  refine iq_bipush hS 45 J_Integer_bitCount_d43 (v := 16) (by decide +kernel) rfl ?_
  refine iq_iushr hS 46 J_Integer_bitCount_d45 rfl ?_
  refine iq_iadd hS 47 J_Integer_bitCount_d46 rfl ?_
  refine iq_istore_n hS 48 J_Integer_bitCount_d47 (by decide) rfl ?_
  refine iq_iload_n hS 49 J_Integer_bitCount_d48 lk_1s rfl ?_
  refine iq_bipush hS 51 J_Integer_bitCount_d49 (v := 63) (by decide +kernel) rfl ?_
  refine iq_iand hS 52 J_Integer_bitCount_d51 rfl ?_
  exact iq_iret J_Integer_bitCount_d52 rfl rfl ⟨_, rfl, rfl, ed_some h⟩
