/-! METHODS AS FUNCTIONS -/
noncomputable def f_HBars_readFigures_L13 (x3 : Int32) (x4 : Int32) (M5 : im_M) : Option ((Int32 × Int32 × im_M) ⊕ ((Int32 × im_M) ⊕ (Int32 × im_M))) := if 13 ≤ x4 then some (.inr (.inl (x3, M5))) else bd1 (f_HBars_patternAt ((if 7 ≤ x4 then (((4 : Int32) * x4) + 4) else (((4 : Int32) * x4) - 1)) : Int32) 4 7 M5) fun (x7 : Int32) => bd1 (f_HBars_indexOf x7 M5) fun (x8 : Int32) => gd (inb x4 13) <| gd (inb x4 13) <| bd2 (if ¬ (im_i (im_setI M5 37 (Int32.toNatClampNeg x4) x8) 37 (Int32.toNatClampNeg x4)) = (-1) then some (x3, (im_setI M5 37 (Int32.toNatClampNeg x4) x8)) else if 7 ≤ x4 then some (x3, (im_setI M5 37 (Int32.toNatClampNeg x4) x8)) else bd1 (f_HBars_indexOf_1 x7 (im_setI M5 37 (Int32.toNatClampNeg x4) x8)) fun (x10 : Int32) => gd (inb x4 13) <| some ((x3 ||| ((1 : Int32) <<< (((6 : Int32) - x4) &&& 31))), (im_setI (im_setI M5 37 (Int32.toNatClampNeg x4) x8) 37 (Int32.toNatClampNeg x4) x10))) fun (y11 : Int32) (M12 : im_M) => gd (inb x4 13) <| if ¬ (im_i M12 37 (Int32.toNatClampNeg x4)) = (-1) then some (.inl (y11, (x4 + 1), M12)) else some (.inr (.inr (0, M12)))
noncomputable def f_HBars_readFigures_L159 (x22 : Int32) (M23 : im_M) : Option ((Int32 × im_M) ⊕ (im_M)) := if 13 ≤ x22 then some (.inr M23) else gd (inb x22 13) <| gd (inb x22 3000) <| some (.inl ((x22 + 1), (im_setI M23 68 (Int32.toNatClampNeg x22) (vp_nar .byte ((Int32.toInt8 ((48 : Int32) + (im_i M23 37 (Int32.toNatClampNeg x22)))).toInt32)))))
noncomputable def f_HBars_readFigures (M : im_M) : Option (Int32 × im_M) := bd1 (f_HBars_hasGuards M) fun (x1 : Int32) => if ¬ x1 = 0 then bs2 (lp (uc3 (f_HBars_readFigures_L13)) (0, 1, M)) (fun (y17 : Int32) (M18 : im_M) => bd1 (f_HBars_indexOf_2 y17 M18) fun (x19 : Int32) => gd (inb 0 13) <| gd (inb 0 13) <| if (im_i (im_setI M18 37 (Int32.toNatClampNeg 0) x19) 37 (Int32.toNatClampNeg 0)) = (-1) then some (0, (im_setI M18 37 (Int32.toNatClampNeg 0) x19)) else gd (inb 12 13) <| bd1 (f_HBars_checkFigure (im_setI M18 37 (Int32.toNatClampNeg 0) x19)) fun (x20 : Int32) => if (im_i (im_setI M18 37 (Int32.toNatClampNeg 0) x19) 37 (Int32.toNatClampNeg 12)) = x20 then bd1 (lp (uc2 (f_HBars_readFigures_L159)) (0, (im_setI M18 37 (Int32.toNatClampNeg 0) x19))) fun (M24 : im_M) => some (1, M24) else some (0, (im_setI M18 37 (Int32.toNatClampNeg 0) x19))) (fun t => some t) else some (0, M)
theorem J_HBars_readFigures_d0 : decode J_HBars_readFigures.2.1 0 = .ok (.aload_n 0, 1) := by decide +kernel
theorem J_HBars_readFigures_d1 : decode J_HBars_readFigures.2.1 1 = .ok (.invokevirtual 145, 3) := by decide +kernel
theorem J_HBars_readFigures_d4 : decode J_HBars_readFigures.2.1 4 = .ok (.ifCond .ne 5, 3) := by decide +kernel
theorem J_HBars_readFigures_d7 : decode J_HBars_readFigures.2.1 7 = .ok (.iconst 0, 1) := by decide +kernel
theorem J_HBars_readFigures_d8 : decode J_HBars_readFigures.2.1 8 = .ok (.ireturn, 1) := by decide +kernel
theorem J_HBars_readFigures_d9 : decode J_HBars_readFigures.2.1 9 = .ok (.iconst 0, 1) := by decide +kernel
theorem J_HBars_readFigures_d10 : decode J_HBars_readFigures.2.1 10 = .ok (.istore_n 2, 1) := by decide +kernel
theorem J_HBars_readFigures_d11 : decode J_HBars_readFigures.2.1 11 = .ok (.iconst 1, 1) := by decide +kernel
theorem J_HBars_readFigures_d12 : decode J_HBars_readFigures.2.1 12 = .ok (.istore_n 3, 1) := by decide +kernel
theorem J_HBars_readFigures_d13 : decode J_HBars_readFigures.2.1 13 = .ok (.iload_n 3, 1) := by decide +kernel
theorem J_HBars_readFigures_d14 : decode J_HBars_readFigures.2.1 14 = .ok (.bipush 13, 2) := by decide +kernel
theorem J_HBars_readFigures_d16 : decode J_HBars_readFigures.2.1 16 = .ok (.if_icmp .ge 102, 3) := by decide +kernel
theorem J_HBars_readFigures_d19 : decode J_HBars_readFigures.2.1 19 = .ok (.aload_n 0, 1) := by decide +kernel
theorem J_HBars_readFigures_d20 : decode J_HBars_readFigures.2.1 20 = .ok (.iload_n 3, 1) := by decide +kernel
theorem J_HBars_readFigures_d21 : decode J_HBars_readFigures.2.1 21 = .ok (.bipush 7, 2) := by decide +kernel
theorem J_HBars_readFigures_d23 : decode J_HBars_readFigures.2.1 23 = .ok (.if_icmp .ge 11, 3) := by decide +kernel
theorem J_HBars_readFigures_d26 : decode J_HBars_readFigures.2.1 26 = .ok (.iconst 4, 1) := by decide +kernel
theorem J_HBars_readFigures_d27 : decode J_HBars_readFigures.2.1 27 = .ok (.iload_n 3, 1) := by decide +kernel
theorem J_HBars_readFigures_d28 : decode J_HBars_readFigures.2.1 28 = .ok (.imul, 1) := by decide +kernel
theorem J_HBars_readFigures_d29 : decode J_HBars_readFigures.2.1 29 = .ok (.iconst 1, 1) := by decide +kernel
theorem J_HBars_readFigures_d30 : decode J_HBars_readFigures.2.1 30 = .ok (.isub, 1) := by decide +kernel
theorem J_HBars_readFigures_d31 : decode J_HBars_readFigures.2.1 31 = .ok (.goto 8, 3) := by decide +kernel
theorem J_HBars_readFigures_d34 : decode J_HBars_readFigures.2.1 34 = .ok (.iconst 4, 1) := by decide +kernel
theorem J_HBars_readFigures_d35 : decode J_HBars_readFigures.2.1 35 = .ok (.iload_n 3, 1) := by decide +kernel
theorem J_HBars_readFigures_d36 : decode J_HBars_readFigures.2.1 36 = .ok (.imul, 1) := by decide +kernel
theorem J_HBars_readFigures_d37 : decode J_HBars_readFigures.2.1 37 = .ok (.iconst 4, 1) := by decide +kernel
theorem J_HBars_readFigures_d38 : decode J_HBars_readFigures.2.1 38 = .ok (.iadd, 1) := by decide +kernel
theorem J_HBars_readFigures_d39 : decode J_HBars_readFigures.2.1 39 = .ok (.iconst 4, 1) := by decide +kernel
theorem J_HBars_readFigures_d40 : decode J_HBars_readFigures.2.1 40 = .ok (.bipush 7, 2) := by decide +kernel
theorem J_HBars_readFigures_d42 : decode J_HBars_readFigures.2.1 42 = .ok (.invokevirtual 149, 3) := by decide +kernel
theorem J_HBars_readFigures_d45 : decode J_HBars_readFigures.2.1 45 = .ok (.istore 4, 2) := by decide +kernel
theorem J_HBars_readFigures_d47 : decode J_HBars_readFigures.2.1 47 = .ok (.aload_n 0, 1) := by decide +kernel
theorem J_HBars_readFigures_d48 : decode J_HBars_readFigures.2.1 48 = .ok (.getfield 29, 3) := by decide +kernel
theorem J_HBars_readFigures_d51 : decode J_HBars_readFigures.2.1 51 = .ok (.iload_n 3, 1) := by decide +kernel
theorem J_HBars_readFigures_d52 : decode J_HBars_readFigures.2.1 52 = .ok (.getstatic 112, 3) := by decide +kernel
theorem J_HBars_readFigures_d55 : decode J_HBars_readFigures.2.1 55 = .ok (.iload 4, 2) := by decide +kernel
theorem J_HBars_readFigures_d57 : decode J_HBars_readFigures.2.1 57 = .ok (.invokestatic 152, 3) := by decide +kernel
theorem J_HBars_readFigures_d60 : decode J_HBars_readFigures.2.1 60 = .ok (.iastore, 1) := by decide +kernel
theorem J_HBars_readFigures_d61 : decode J_HBars_readFigures.2.1 61 = .ok (.aload_n 0, 1) := by decide +kernel
theorem J_HBars_readFigures_d62 : decode J_HBars_readFigures.2.1 62 = .ok (.getfield 29, 3) := by decide +kernel
theorem J_HBars_readFigures_d65 : decode J_HBars_readFigures.2.1 65 = .ok (.iload_n 3, 1) := by decide +kernel
theorem J_HBars_readFigures_d66 : decode J_HBars_readFigures.2.1 66 = .ok (.iaload, 1) := by decide +kernel
theorem J_HBars_readFigures_d67 : decode J_HBars_readFigures.2.1 67 = .ok (.iconst (-1), 1) := by decide +kernel
theorem J_HBars_readFigures_d68 : decode J_HBars_readFigures.2.1 68 = .ok (.if_icmp .ne 32, 3) := by decide +kernel
theorem J_HBars_readFigures_d71 : decode J_HBars_readFigures.2.1 71 = .ok (.iload_n 3, 1) := by decide +kernel
theorem J_HBars_readFigures_d72 : decode J_HBars_readFigures.2.1 72 = .ok (.bipush 7, 2) := by decide +kernel
theorem J_HBars_readFigures_d74 : decode J_HBars_readFigures.2.1 74 = .ok (.if_icmp .ge 26, 3) := by decide +kernel
theorem J_HBars_readFigures_d77 : decode J_HBars_readFigures.2.1 77 = .ok (.aload_n 0, 1) := by decide +kernel
theorem J_HBars_readFigures_d78 : decode J_HBars_readFigures.2.1 78 = .ok (.getfield 29, 3) := by decide +kernel
theorem J_HBars_readFigures_d81 : decode J_HBars_readFigures.2.1 81 = .ok (.iload_n 3, 1) := by decide +kernel
theorem J_HBars_readFigures_d82 : decode J_HBars_readFigures.2.1 82 = .ok (.getstatic 109, 3) := by decide +kernel
theorem J_HBars_readFigures_d85 : decode J_HBars_readFigures.2.1 85 = .ok (.iload 4, 2) := by decide +kernel
theorem J_HBars_readFigures_d87 : decode J_HBars_readFigures.2.1 87 = .ok (.invokestatic 152, 3) := by decide +kernel
theorem J_HBars_readFigures_d90 : decode J_HBars_readFigures.2.1 90 = .ok (.iastore, 1) := by decide +kernel
theorem J_HBars_readFigures_d91 : decode J_HBars_readFigures.2.1 91 = .ok (.iload_n 2, 1) := by decide +kernel
theorem J_HBars_readFigures_d92 : decode J_HBars_readFigures.2.1 92 = .ok (.iconst 1, 1) := by decide +kernel
theorem J_HBars_readFigures_d93 : decode J_HBars_readFigures.2.1 93 = .ok (.bipush 6, 2) := by decide +kernel
theorem J_HBars_readFigures_d95 : decode J_HBars_readFigures.2.1 95 = .ok (.iload_n 3, 1) := by decide +kernel
theorem J_HBars_readFigures_d96 : decode J_HBars_readFigures.2.1 96 = .ok (.isub, 1) := by decide +kernel
theorem J_HBars_readFigures_d97 : decode J_HBars_readFigures.2.1 97 = .ok (.ishl, 1) := by decide +kernel
theorem J_HBars_readFigures_d98 : decode J_HBars_readFigures.2.1 98 = .ok (.ior, 1) := by decide +kernel
theorem J_HBars_readFigures_d99 : decode J_HBars_readFigures.2.1 99 = .ok (.istore_n 2, 1) := by decide +kernel
theorem J_HBars_readFigures_d100 : decode J_HBars_readFigures.2.1 100 = .ok (.aload_n 0, 1) := by decide +kernel
theorem J_HBars_readFigures_d101 : decode J_HBars_readFigures.2.1 101 = .ok (.getfield 29, 3) := by decide +kernel
theorem J_HBars_readFigures_d104 : decode J_HBars_readFigures.2.1 104 = .ok (.iload_n 3, 1) := by decide +kernel
theorem J_HBars_readFigures_d105 : decode J_HBars_readFigures.2.1 105 = .ok (.iaload, 1) := by decide +kernel
theorem J_HBars_readFigures_d106 : decode J_HBars_readFigures.2.1 106 = .ok (.iconst (-1), 1) := by decide +kernel
theorem J_HBars_readFigures_d107 : decode J_HBars_readFigures.2.1 107 = .ok (.if_icmp .ne 5, 3) := by decide +kernel
theorem J_HBars_readFigures_d110 : decode J_HBars_readFigures.2.1 110 = .ok (.iconst 0, 1) := by decide +kernel
theorem J_HBars_readFigures_d111 : decode J_HBars_readFigures.2.1 111 = .ok (.ireturn, 1) := by decide +kernel
theorem J_HBars_readFigures_d112 : decode J_HBars_readFigures.2.1 112 = .ok (.iinc 3 1, 3) := by decide +kernel
theorem J_HBars_readFigures_d115 : decode J_HBars_readFigures.2.1 115 = .ok (.goto (-102), 3) := by decide +kernel
theorem J_HBars_readFigures_d118 : decode J_HBars_readFigures.2.1 118 = .ok (.aload_n 0, 1) := by decide +kernel
theorem J_HBars_readFigures_d119 : decode J_HBars_readFigures.2.1 119 = .ok (.getfield 29, 3) := by decide +kernel
theorem J_HBars_readFigures_d122 : decode J_HBars_readFigures.2.1 122 = .ok (.iconst 0, 1) := by decide +kernel
theorem J_HBars_readFigures_d123 : decode J_HBars_readFigures.2.1 123 = .ok (.getstatic 106, 3) := by decide +kernel
theorem J_HBars_readFigures_d126 : decode J_HBars_readFigures.2.1 126 = .ok (.iload_n 2, 1) := by decide +kernel
theorem J_HBars_readFigures_d127 : decode J_HBars_readFigures.2.1 127 = .ok (.invokestatic 152, 3) := by decide +kernel
theorem J_HBars_readFigures_d130 : decode J_HBars_readFigures.2.1 130 = .ok (.iastore, 1) := by decide +kernel
theorem J_HBars_readFigures_d131 : decode J_HBars_readFigures.2.1 131 = .ok (.aload_n 0, 1) := by decide +kernel
theorem J_HBars_readFigures_d132 : decode J_HBars_readFigures.2.1 132 = .ok (.getfield 29, 3) := by decide +kernel
theorem J_HBars_readFigures_d135 : decode J_HBars_readFigures.2.1 135 = .ok (.iconst 0, 1) := by decide +kernel
theorem J_HBars_readFigures_d136 : decode J_HBars_readFigures.2.1 136 = .ok (.iaload, 1) := by decide +kernel
theorem J_HBars_readFigures_d137 : decode J_HBars_readFigures.2.1 137 = .ok (.iconst (-1), 1) := by decide +kernel
theorem J_HBars_readFigures_d138 : decode J_HBars_readFigures.2.1 138 = .ok (.if_icmp .eq 17, 3) := by decide +kernel
theorem J_HBars_readFigures_d141 : decode J_HBars_readFigures.2.1 141 = .ok (.aload_n 0, 1) := by decide +kernel
theorem J_HBars_readFigures_d142 : decode J_HBars_readFigures.2.1 142 = .ok (.getfield 29, 3) := by decide +kernel
theorem J_HBars_readFigures_d145 : decode J_HBars_readFigures.2.1 145 = .ok (.bipush 12, 2) := by decide +kernel
theorem J_HBars_readFigures_d147 : decode J_HBars_readFigures.2.1 147 = .ok (.iaload, 1) := by decide +kernel
theorem J_HBars_readFigures_d148 : decode J_HBars_readFigures.2.1 148 = .ok (.aload_n 0, 1) := by decide +kernel
theorem J_HBars_readFigures_d149 : decode J_HBars_readFigures.2.1 149 = .ok (.invokevirtual 102, 3) := by decide +kernel
theorem J_HBars_readFigures_d152 : decode J_HBars_readFigures.2.1 152 = .ok (.if_icmp .eq 5, 3) := by decide +kernel
theorem J_HBars_readFigures_d155 : decode J_HBars_readFigures.2.1 155 = .ok (.iconst 0, 1) := by decide +kernel
theorem J_HBars_readFigures_d156 : decode J_HBars_readFigures.2.1 156 = .ok (.ireturn, 1) := by decide +kernel
theorem J_HBars_readFigures_d157 : decode J_HBars_readFigures.2.1 157 = .ok (.iconst 0, 1) := by decide +kernel
theorem J_HBars_readFigures_d158 : decode J_HBars_readFigures.2.1 158 = .ok (.istore_n 3, 1) := by decide +kernel
theorem J_HBars_readFigures_d159 : decode J_HBars_readFigures.2.1 159 = .ok (.iload_n 3, 1) := by decide +kernel
theorem J_HBars_readFigures_d160 : decode J_HBars_readFigures.2.1 160 = .ok (.bipush 13, 2) := by decide +kernel
theorem J_HBars_readFigures_d162 : decode J_HBars_readFigures.2.1 162 = .ok (.if_icmp .ge 22, 3) := by decide +kernel
theorem J_HBars_readFigures_d165 : decode J_HBars_readFigures.2.1 165 = .ok (.aload_n 1, 1) := by decide +kernel
theorem J_HBars_readFigures_d166 : decode J_HBars_readFigures.2.1 166 = .ok (.iload_n 3, 1) := by decide +kernel
theorem J_HBars_readFigures_d167 : decode J_HBars_readFigures.2.1 167 = .ok (.bipush 48, 2) := by decide +kernel
theorem J_HBars_readFigures_d169 : decode J_HBars_readFigures.2.1 169 = .ok (.aload_n 0, 1) := by decide +kernel
theorem J_HBars_readFigures_d170 : decode J_HBars_readFigures.2.1 170 = .ok (.getfield 29, 3) := by decide +kernel
theorem J_HBars_readFigures_d173 : decode J_HBars_readFigures.2.1 173 = .ok (.iload_n 3, 1) := by decide +kernel
theorem J_HBars_readFigures_d174 : decode J_HBars_readFigures.2.1 174 = .ok (.iaload, 1) := by decide +kernel
theorem J_HBars_readFigures_d175 : decode J_HBars_readFigures.2.1 175 = .ok (.iadd, 1) := by decide +kernel
theorem J_HBars_readFigures_d176 : decode J_HBars_readFigures.2.1 176 = .ok (.i2b, 1) := by decide +kernel
theorem J_HBars_readFigures_d177 : decode J_HBars_readFigures.2.1 177 = .ok (.bastore, 1) := by decide +kernel
theorem J_HBars_readFigures_d178 : decode J_HBars_readFigures.2.1 178 = .ok (.iinc 3 1, 3) := by decide +kernel
theorem J_HBars_readFigures_d181 : decode J_HBars_readFigures.2.1 181 = .ok (.goto (-22), 3) := by decide +kernel
theorem J_HBars_readFigures_d184 : decode J_HBars_readFigures.2.1 184 = .ok (.iconst 1, 1) := by decide +kernel
theorem J_HBars_readFigures_d185 : decode J_HBars_readFigures.2.1 185 = .ok (.ireturn, 1) := by decide +kernel
theorem f_HBars_readFigures_ok {L : Nat} {xs : Nat → Int32} {dep : Nat} {w : Bool} {M : im_M} {Q : Int32 × im_M → Prop} (hM : lw_S w M) (h : ed (f_HBars_readFigures M) Q) : ia (tb_G L xs) (dep + 3) J_HBars_readFigures (rwI w Q) (0, lv_args 0 [.ref 31, .ref 68], [], M) := by
  have hS : im_St (tb_G L xs) (dep + 3) J_HBars_readFigures (ia (tb_G L xs) (dep + 3) J_HBars_readFigures (rwI w Q)) := ia_St
  unfold f_HBars_readFigures at h
  have l0 : im_lk (lv_args 0 [.ref 31, .ref 68]) 0 = some (.ref 31) := rfl
  have l1 : im_lk (lv_args 0 [.ref 31, .ref 68]) 1 = some (.ref 68) := rfl
  refine iq_aload_n hS 1 J_HBars_readFigures_d0 l0 rfl ?_
  obtain ⟨Q1, hQ1, h⟩ := bd1_ed h
  refine iq_cpI hS 4 J_HBars_readFigures_d1 rfl (pr_inst (vs := []) lc_0_145 lT_245 rfl rfl (by decide) (by decide) rfl (Nat.le_of_ble_eq_true rfl) (Nat.le_of_ble_eq_true rfl) (fun _ => Or.inl (pr_b (ka_31 hM) (by decide) rfl))) (f_HBars_hasGuards_ok (dep := dep + 0) hM h) rfl ?_
  intro x1 h
  replace h := hQ1 _ h
  refine iq_if_ne hS 7 J_HBars_readFigures_d4 (t := 9) rfl (fun q4 => ?_) rfl (fun q4 => ?_)
  · replace h := ed_pos q4 h
    refine iq_iconst hS 10 J_HBars_readFigures_d9 (v := 0) (by decide +kernel) rfl ?_
    refine iq_istore_n hS 11 J_HBars_readFigures_d10 (by decide) rfl ?_
    refine iq_iconst hS 12 J_HBars_readFigures_d11 (v := 1) (by decide +kernel) rfl ?_
    refine iq_istore_n hS 13 J_HBars_readFigures_d12 (by decide) rfl ?_
    obtain ⟨Q2, hQ2, hR2, h⟩ := bs2_ed h
    have K2 : ∀ (y3 : Int32) (M4 : im_M) (L' : List (Nat × Value)), lw_S w M4 → im_lk L' 0 = some (.ref 31) → im_lk L' 1 = some (.ref 68) → im_lk L' 2 = some (.int y3) → Q2 (.inl (y3, M4)) → ia (tb_G L xs) (dep + 3) J_HBars_readFigures (rwI w Q) (118, L', [], M4) := by
      intro y3 M4 L' hM4 l5 l6 l7 h
      replace h := hQ2 _ _ h
      refine iq_aload_n hS 119 J_HBars_readFigures_d118 l5 rfl ?_
      refine iq_getR hS 122 J_HBars_readFigures_d119 lf_0_29 (Or.inr ⟨_, rfl⟩) (ka_31 hM4) (ra_31_10 hM4) rfl ?_
      refine iq_iconst hS 123 J_HBars_readFigures_d122 (v := 0) (by decide +kernel) rfl ?_
      refine iq_getstatic hS 126 J_HBars_readFigures_d123 gs_0_106 rfl ?_
      refine iq_iload_n hS 127 J_HBars_readFigures_d126 l7 rfl ?_
      obtain ⟨Q8, hQ8, h⟩ := bd1_ed h
      refine iq_cpI hS 130 J_HBars_readFigures_d127 rfl (pr_stat (vs := [_, _]) lc_0_152 lT_250 rfl rfl (by decide) rfl (Nat.le_of_ble_eq_true rfl) (Nat.le_of_ble_eq_true rfl)) (f_HBars_indexOf_2_ok (dep := dep + 2) hM4 h) rfl ?_
      intro x8 h
      replace h := hQ8 _ h
      obtain ⟨g130, h⟩ := ed_gd h
      refine iq_iastore hS 131 J_HBars_readFigures_d130 ⟨(ka_37 hM4).1, (ka_37 hM4).2, g130.1, ix_lt (kl_37 hM4) g130.2⟩ rfl ?_
      refine iq_aload_n hS 132 J_HBars_readFigures_d131 l5 rfl ?_
      refine iq_getR hS 135 J_HBars_readFigures_d132 lf_0_29 (Or.inr ⟨_, rfl⟩) (ka_31 hM4) (ra_31_10 hM4) rfl ?_
      refine iq_iconst hS 136 J_HBars_readFigures_d135 (v := 0) (by decide +kernel) rfl ?_
      obtain ⟨g136, h⟩ := ed_gd h
      refine iq_iaload hS 137 J_HBars_readFigures_d136 ⟨(ka_37 hM4).1, (ka_37 hM4).2, g136.1, ix_lt (kl_37 hM4) g136.2⟩ rfl ?_
      refine iq_iconst hS 138 J_HBars_readFigures_d137 (v := (-1)) (by decide +kernel) rfl ?_
      refine iq_icmp_eq hS 141 J_HBars_readFigures_d138 (t := 155) rfl (fun q138 => ?_) rfl (fun q138 => ?_)
      · replace h := ed_pos q138 h
        refine iq_iconst hS 156 J_HBars_readFigures_d155 (v := 0) (by decide +kernel) rfl ?_
        exact iq_iret J_HBars_readFigures_d156 rfl rfl ⟨_, rfl, hM4, ed_some h⟩
      · replace h := ed_neg q138 h
        refine iq_aload_n hS 142 J_HBars_readFigures_d141 l5 rfl ?_
        refine iq_getR hS 145 J_HBars_readFigures_d142 lf_0_29 (Or.inr ⟨_, rfl⟩) (ka_31 hM4) (ra_31_10 hM4) rfl ?_
        refine iq_bipush hS 147 J_HBars_readFigures_d145 (v := 12) (by decide +kernel) rfl ?_
        obtain ⟨g147, h⟩ := ed_gd h
        refine iq_iaload hS 148 J_HBars_readFigures_d147 ⟨(ka_37 hM4).1, (ka_37 hM4).2, g147.1, ix_lt (kl_37 hM4) g147.2⟩ rfl ?_
        refine iq_aload_n hS 149 J_HBars_readFigures_d148 l5 rfl ?_
        obtain ⟨Q9, hQ9, h⟩ := bd1_ed h
        refine iq_cpI hS 152 J_HBars_readFigures_d149 rfl (pr_inst (vs := []) lc_0_102 lT_131 rfl rfl (by decide) (by decide) rfl (Nat.le_of_ble_eq_true rfl) (Nat.le_of_ble_eq_true rfl) (fun _ => Or.inl (pr_b (ka_31 hM4) (by decide) rfl))) (f_HBars_checkFigure_ok (dep := dep + 2) hM4 h) rfl ?_
        intro x9 h
        replace h := hQ9 _ h
        refine iq_icmp_eq hS 155 J_HBars_readFigures_d152 (t := 157) rfl (fun q152 => ?_) rfl (fun q152 => ?_)
        · replace h := ed_pos q152 h
          refine iq_iconst hS 158 J_HBars_readFigures_d157 (v := 0) (by decide +kernel) rfl ?_
          refine iq_istore_n hS 159 J_HBars_readFigures_d158 (by decide) rfl ?_
          obtain ⟨Q10, hQ10, h⟩ := bd1_ed h
          have K10 : ∀ (M11 : im_M) (L' : List (Nat × Value)), lw_S w M11 → Q10 M11 → ia (tb_G L xs) (dep + 3) J_HBars_readFigures (rwI w Q) (184, L', [], M11) := by
            intro M11 L' hM11  h
            replace h := hQ10 _ h
            refine iq_iconst hS 185 J_HBars_readFigures_d184 (v := 1) (by decide +kernel) rfl ?_
            exact iq_iret J_HBars_readFigures_d185 rfl rfl ⟨_, rfl, hM11, ed_some h⟩
          obtain ⟨r10, hr10, hq10⟩ := h
          obtain ⟨n10, hn10⟩ := lp_n hr10
          have I10 : ∀ (n : Nat) (x12 : Int32) (M13 : im_M) (L' : List (Nat × Value)), lw_S w M13 → im_lk L' 0 = some (.ref 31) → im_lk L' 1 = some (.ref 68) → im_lk L' 3 = some (.int x12) → lpn (uc2 (f_HBars_readFigures_L159)) n (x12, M13) = some r10 → ia (tb_G L xs) (dep + 3) J_HBars_readFigures (rwI w Q) (159, L', [], M13) := by
            intro n
            induction n with
            | zero => intro x12 M13 L' hM13 l14 l15 l16 hn; exact (lpn_0 hn).elim
            | succ n ih =>
              intro x12 M13 L' hM13 l14 l15 l16 hn
              have h := lpn_ed2 hn
              unfold f_HBars_readFigures_L159 at h
              refine iq_iload_n hS 160 J_HBars_readFigures_d159 l16 rfl ?_
              refine iq_bipush hS 162 J_HBars_readFigures_d160 (v := 13) (by decide +kernel) rfl ?_
              refine iq_icmp_ge hS 165 J_HBars_readFigures_d162 (t := 184) rfl (fun q162 => ?_) rfl (fun q162 => ?_)
              · replace h := ed_pos q162 h
                exact K10 _ _ hM13  (lq_r h hq10)
              · replace h := ed_neg q162 h
                refine iq_aload_n hS 166 J_HBars_readFigures_d165 l15 rfl ?_
                refine iq_iload_n hS 167 J_HBars_readFigures_d166 l16 rfl ?_
                refine iq_bipush hS 169 J_HBars_readFigures_d167 (v := 48) (by decide +kernel) rfl ?_
                refine iq_aload_n hS 170 J_HBars_readFigures_d169 l14 rfl ?_
                refine iq_getR hS 173 J_HBars_readFigures_d170 lf_0_29 (Or.inr ⟨_, rfl⟩) (ka_31 hM13) (ra_31_10 hM13) rfl ?_
                refine iq_iload_n hS 174 J_HBars_readFigures_d173 l16 rfl ?_
                obtain ⟨g174, h⟩ := ed_gd h
                refine iq_iaload hS 175 J_HBars_readFigures_d174 ⟨(ka_37 hM13).1, (ka_37 hM13).2, g174.1, ix_lt (kl_37 hM13) g174.2⟩ rfl ?_
                refine iq_iadd hS 176 J_HBars_readFigures_d175 rfl ?_
                refine iq_i2b hS 177 J_HBars_readFigures_d176 rfl ?_
                obtain ⟨g177, h⟩ := ed_gd h
                refine iq_bastore hS 178 J_HBars_readFigures_d177 ⟨(ka_68 hM13).1, (ka_68 hM13).2, g177.1, ix_lt (kl_68 hM13) g177.2⟩ rfl ?_
                refine iq_iincv hS 181 J_HBars_readFigures_d178 (c := 1) (by decide +kernel) l16 (by decide) rfl ?_
                refine iq_goto hS J_HBars_readFigures_d181 (t := 159) rfl ?_
                exact ih _ _ _ hM13 (lk_1r l14 (by decide)) (lk_1r l15 (by decide)) lk_1s (lq_l h)
          exact I10 n10 _ _ _ hM4 (lk_1r l5 (by decide)) (lk_1r l6 (by decide)) lk_1s hn10
        · replace h := ed_neg q152 h
          refine iq_iconst hS 156 J_HBars_readFigures_d155 (v := 0) (by decide +kernel) rfl ?_
          exact iq_iret J_HBars_readFigures_d156 rfl rfl ⟨_, rfl, hM4, ed_some h⟩
    obtain ⟨r2, hr2, hq2⟩ := h
    obtain ⟨n2, hn2⟩ := lp_n hr2
    have I2 : ∀ (n : Nat) (x17 : Int32) (x18 : Int32) (M19 : im_M) (L' : List (Nat × Value)), lw_S w M19 → im_lk L' 0 = some (.ref 31) → im_lk L' 1 = some (.ref 68) → im_lk L' 2 = some (.int x17) → im_lk L' 3 = some (.int x18) → lpn (uc3 (f_HBars_readFigures_L13)) n (x17, x18, M19) = some r2 → ia (tb_G L xs) (dep + 3) J_HBars_readFigures (rwI w Q) (13, L', [], M19) := by
      intro n
      induction n with
      | zero => intro x17 x18 M19 L' hM19 l20 l21 l22 l23 hn; exact (lpn_0 hn).elim
      | succ n ih =>
        intro x17 x18 M19 L' hM19 l20 l21 l22 l23 hn
        have h := lpn_ed3 hn
        unfold f_HBars_readFigures_L13 at h
        refine iq_iload_n hS 14 J_HBars_readFigures_d13 l23 rfl ?_
        refine iq_bipush hS 16 J_HBars_readFigures_d14 (v := 13) (by decide +kernel) rfl ?_
        refine iq_icmp_ge hS 19 J_HBars_readFigures_d16 (t := 118) rfl (fun q16 => ?_) rfl (fun q16 => ?_)
        · replace h := ed_pos q16 h
          exact K2 _ _ _ hM19 l20 l21 l22 (lq_r h hq2)
        · replace h := ed_neg q16 h
          refine iq_aload_n hS 20 J_HBars_readFigures_d19 l20 rfl ?_
          refine iq_iload_n hS 21 J_HBars_readFigures_d20 l23 rfl ?_
          refine iq_bipush hS 23 J_HBars_readFigures_d21 (v := 7) (by decide +kernel) rfl ?_
          have J24 : ∀ (z25 : Int32) (L' : List (Nat × Value)), z25 = ((if 7 ≤ x18 then (((4 : Int32) * x18) + 4) else (((4 : Int32) * x18) - 1)) : Int32) → im_lk L' 0 = some (.ref 31) → im_lk L' 1 = some (.ref 68) → im_lk L' 2 = some (.int x17) → im_lk L' 3 = some (.int x18) → ia (tb_G L xs) (dep + 3) J_HBars_readFigures (rwI w Q) (39, L', [.int z25, .ref 31], M19) := by
            intro z25 L' e26 l27 l28 l29 l30
            subst e26
            refine iq_iconst hS 40 J_HBars_readFigures_d39 (v := 4) (by decide +kernel) rfl ?_
            refine iq_bipush hS 42 J_HBars_readFigures_d40 (v := 7) (by decide +kernel) rfl ?_
            obtain ⟨Q31, hQ31, h⟩ := bd1_ed h
            refine iq_cpI hS 45 J_HBars_readFigures_d42 rfl (pr_inst (vs := [_, _, _]) lc_0_149 lT_249 rfl rfl (by decide) (by decide) rfl (Nat.le_of_ble_eq_true rfl) (Nat.le_of_ble_eq_true rfl) (fun _ => Or.inl (pr_b (ka_31 hM19) (by decide) rfl))) (f_HBars_patternAt_ok (dep := dep + 0) hM19 h) rfl ?_
            intro x31 h
            replace h := hQ31 _ h
            refine iq_istore hS 47 J_HBars_readFigures_d45 (by decide) rfl ?_
            refine iq_aload_n hS 48 J_HBars_readFigures_d47 (lk_1r l27 (by decide)) rfl ?_
            refine iq_getR hS 51 J_HBars_readFigures_d48 lf_0_29 (Or.inr ⟨_, rfl⟩) (ka_31 hM19) (ra_31_10 hM19) rfl ?_
            refine iq_iload_n hS 52 J_HBars_readFigures_d51 (lk_1i l30 (by decide)) rfl ?_
            refine iq_getstatic hS 55 J_HBars_readFigures_d52 gs_0_112 rfl ?_
            refine iq_iload hS 57 J_HBars_readFigures_d55 lk_1s rfl ?_
            obtain ⟨Q32, hQ32, h⟩ := bd1_ed h
            refine iq_cpI hS 60 J_HBars_readFigures_d57 rfl (pr_stat (vs := [_, _]) lc_0_152 lT_250 rfl rfl (by decide) rfl (Nat.le_of_ble_eq_true rfl) (Nat.le_of_ble_eq_true rfl)) (f_HBars_indexOf_ok (dep := dep + 2) hM19 h) rfl ?_
            intro x32 h
            replace h := hQ32 _ h
            obtain ⟨g60, h⟩ := ed_gd h
            refine iq_iastore hS 61 J_HBars_readFigures_d60 ⟨(ka_37 hM19).1, (ka_37 hM19).2, g60.1, ix_lt (kl_37 hM19) g60.2⟩ rfl ?_
            refine iq_aload_n hS 62 J_HBars_readFigures_d61 (lk_1r l27 (by decide)) rfl ?_
            refine iq_getR hS 65 J_HBars_readFigures_d62 lf_0_29 (Or.inr ⟨_, rfl⟩) (ka_31 hM19) (ra_31_10 hM19) rfl ?_
            refine iq_iload_n hS 66 J_HBars_readFigures_d65 (lk_1i l30 (by decide)) rfl ?_
            obtain ⟨g66, h⟩ := ed_gd h
            refine iq_iaload hS 67 J_HBars_readFigures_d66 ⟨(ka_37 hM19).1, (ka_37 hM19).2, g66.1, ix_lt (kl_37 hM19) g66.2⟩ rfl ?_
            refine iq_iconst hS 68 J_HBars_readFigures_d67 (v := (-1)) (by decide +kernel) rfl ?_
            obtain ⟨Q33, hQ33, h⟩ := bd2_ed h
            have J33 : ∀ (y35 : Int32) (M36 : im_M) (L' : List (Nat × Value)), lw_S w M36 → im_lk L' 0 = some (.ref 31) → im_lk L' 1 = some (.ref 68) → im_lk L' 2 = some (.int y35) → im_lk L' 3 = some (.int x18) → Q33 (y35, M36) → ia (tb_G L xs) (dep + 3) J_HBars_readFigures (rwI w Q) (100, L', [], M36) := by
              intro y35 M36 L' hM36 l37 l38 l39 l40 h
              replace h := hQ33 _ _ h
              refine iq_aload_n hS 101 J_HBars_readFigures_d100 l37 rfl ?_
              refine iq_getR hS 104 J_HBars_readFigures_d101 lf_0_29 (Or.inr ⟨_, rfl⟩) (ka_31 hM36) (ra_31_10 hM36) rfl ?_
              refine iq_iload_n hS 105 J_HBars_readFigures_d104 l40 rfl ?_
              obtain ⟨g105, h⟩ := ed_gd h
              refine iq_iaload hS 106 J_HBars_readFigures_d105 ⟨(ka_37 hM36).1, (ka_37 hM36).2, g105.1, ix_lt (kl_37 hM36) g105.2⟩ rfl ?_
              refine iq_iconst hS 107 J_HBars_readFigures_d106 (v := (-1)) (by decide +kernel) rfl ?_
              refine iq_icmp_ne hS 110 J_HBars_readFigures_d107 (t := 112) rfl (fun q107 => ?_) rfl (fun q107 => ?_)
              · replace h := ed_pos q107 h
                refine iq_iincv hS 115 J_HBars_readFigures_d112 (c := 1) (by decide +kernel) l40 (by decide) rfl ?_
                refine iq_goto hS J_HBars_readFigures_d115 (t := 13) rfl ?_
                exact ih _ _ _ _ hM36 (lk_1r l37 (by decide)) (lk_1r l38 (by decide)) (lk_1i l39 (by decide)) lk_1s (lq_l h)
              · replace h := ed_neg q107 h
                refine iq_iconst hS 111 J_HBars_readFigures_d110 (v := 0) (by decide +kernel) rfl ?_
                exact iq_iret J_HBars_readFigures_d111 rfl rfl ⟨_, rfl, hM36, ed_some (hR2 _ (lq_r h hq2))⟩
            refine iq_icmp_ne hS 71 J_HBars_readFigures_d68 (t := 100) rfl (fun q68 => ?_) rfl (fun q68 => ?_)
            · replace h := ed_pos q68 h
              exact J33 _ _ _ hM19 (lk_1r l27 (by decide)) (lk_1r l28 (by decide)) (lk_1i l29 (by decide)) (lk_1i l30 (by decide)) (ed_some h)
            · replace h := ed_neg q68 h
              refine iq_iload_n hS 72 J_HBars_readFigures_d71 (lk_1i l30 (by decide)) rfl ?_
              refine iq_bipush hS 74 J_HBars_readFigures_d72 (v := 7) (by decide +kernel) rfl ?_
              refine iq_icmp_ge hS 77 J_HBars_readFigures_d74 (t := 100) rfl (fun q74 => ?_) rfl (fun q74 => ?_)
              · replace h := ed_pos q74 h
                exact J33 _ _ _ hM19 (lk_1r l27 (by decide)) (lk_1r l28 (by decide)) (lk_1i l29 (by decide)) (lk_1i l30 (by decide)) (ed_some h)
              · replace h := ed_neg q74 h
                refine iq_aload_n hS 78 J_HBars_readFigures_d77 (lk_1r l27 (by decide)) rfl ?_
                refine iq_getR hS 81 J_HBars_readFigures_d78 lf_0_29 (Or.inr ⟨_, rfl⟩) (ka_31 hM19) (ra_31_10 hM19) rfl ?_
                refine iq_iload_n hS 82 J_HBars_readFigures_d81 (lk_1i l30 (by decide)) rfl ?_
                refine iq_getstatic hS 85 J_HBars_readFigures_d82 gs_0_109 rfl ?_
                refine iq_iload hS 87 J_HBars_readFigures_d85 lk_1s rfl ?_
                obtain ⟨Q34, hQ34, h⟩ := bd1_ed h
                refine iq_cpI hS 90 J_HBars_readFigures_d87 rfl (pr_stat (vs := [_, _]) lc_0_152 lT_250 rfl rfl (by decide) rfl (Nat.le_of_ble_eq_true rfl) (Nat.le_of_ble_eq_true rfl)) (f_HBars_indexOf_1_ok (dep := dep + 2) hM19 h) rfl ?_
                intro x34 h
                replace h := hQ34 _ h
                obtain ⟨g90, h⟩ := ed_gd h
                refine iq_iastore hS 91 J_HBars_readFigures_d90 ⟨(ka_37 hM19).1, (ka_37 hM19).2, g90.1, ix_lt (kl_37 hM19) g90.2⟩ rfl ?_
                refine iq_iload_n hS 92 J_HBars_readFigures_d91 (lk_1i l29 (by decide)) rfl ?_
                refine iq_iconst hS 93 J_HBars_readFigures_d92 (v := 1) (by decide +kernel) rfl ?_
                refine iq_bipush hS 95 J_HBars_readFigures_d93 (v := 6) (by decide +kernel) rfl ?_
                refine iq_iload_n hS 96 J_HBars_readFigures_d95 (lk_1i l30 (by decide)) rfl ?_
                refine iq_isub hS 97 J_HBars_readFigures_d96 rfl ?_
                refine iq_ishl hS 98 J_HBars_readFigures_d97 rfl ?_
                refine iq_ior hS 99 J_HBars_readFigures_d98 rfl ?_
                refine iq_istore_n hS 100 J_HBars_readFigures_d99 (by decide) rfl ?_
                exact J33 _ _ _ hM19 (lk_1r (lk_1r l27 (by decide)) (by decide)) (lk_1r (lk_1r l28 (by decide)) (by decide)) lk_1s (lk_1i (lk_1i l30 (by decide)) (by decide)) (ed_some h)
          refine iq_icmp_ge hS 26 J_HBars_readFigures_d23 (t := 34) rfl (fun q23 => ?_) rfl (fun q23 => ?_)
          · refine iq_iconst hS 35 J_HBars_readFigures_d34 (v := 4) (by decide +kernel) rfl ?_
            refine iq_iload_n hS 36 J_HBars_readFigures_d35 l23 rfl ?_
            refine iq_imul hS 37 J_HBars_readFigures_d36 rfl ?_
            refine iq_iconst hS 38 J_HBars_readFigures_d37 (v := 4) (by decide +kernel) rfl ?_
            refine iq_iadd hS 39 J_HBars_readFigures_d38 rfl ?_
            exact J24 _ _ (by rw [if_pos q23]) l20 l21 l22 l23
          · refine iq_iconst hS 27 J_HBars_readFigures_d26 (v := 4) (by decide +kernel) rfl ?_
            refine iq_iload_n hS 28 J_HBars_readFigures_d27 l23 rfl ?_
            refine iq_imul hS 29 J_HBars_readFigures_d28 rfl ?_
            refine iq_iconst hS 30 J_HBars_readFigures_d29 (v := 1) (by decide +kernel) rfl ?_
            refine iq_isub hS 31 J_HBars_readFigures_d30 rfl ?_
            refine iq_goto hS J_HBars_readFigures_d31 (t := 39) rfl ?_
            exact J24 _ _ (by rw [if_neg q23]) l20 l21 l22 l23
    exact I2 n2 _ _ _ _ hM (lk_1r (lk_1r l0 (by decide)) (by decide)) (lk_1r (lk_1r l1 (by decide)) (by decide)) (lk_1i lk_1s (by decide)) lk_1s hn2
  · replace h := ed_neg q4 h
    refine iq_iconst hS 8 J_HBars_readFigures_d7 (v := 0) (by decide +kernel) rfl ?_
    exact iq_iret J_HBars_readFigures_d8 rfl rfl ⟨_, rfl, hM, ed_some h⟩
noncomputable def f_HBars_indexOf_3_L2 (v2 : Int32) (M4 : im_M) (x3 : Int32) : Option ((Int32) ⊕ ((Unit) ⊕ (Int32))) := if (Int32.ofNat 106) ≤ x3 then some (.inr (.inl ())) else gd (inb x3 106) <| if ¬ (xa_3 x3) = v2 then some (.inl (x3 + 1)) else some (.inr (.inr x3))
noncomputable def f_HBars_indexOf_3 (p1 : Int32) (M : im_M) : Option (Int32) := bs0 (lp (uc1 (f_HBars_indexOf_3_L2 p1 M)) 0) (fun (_ : Unit) => some (-1)) (fun t => some t)
theorem f_HBars_indexOf_3_ok {L : Nat} {xs : Nat → Int32} {dep : Nat} {w : Bool} {p1 : Int32} {M : im_M} {Q : Int32 → Prop} (hM : lw_S w M) (h : ed (f_HBars_indexOf_3 p1 M) Q) : ia (tb_G L xs) dep J_HBars_indexOf (rpI M Q) (0, lv_args 0 [.ref 1000003, .int p1], [], M) := by
  have hS : im_St (tb_G L xs) dep J_HBars_indexOf (ia (tb_G L xs) dep J_HBars_indexOf (rpI M Q)) := ia_St
  unfold f_HBars_indexOf_3 at h
  have l0 : im_lk (lv_args 0 [.ref 1000003, .int p1]) 0 = some (.ref 1000003) := rfl
  have l1 : im_lk (lv_args 0 [.ref 1000003, .int p1]) 1 = some (.int p1) := rfl
  refine iq_iconst hS 1 J_HBars_indexOf_d0 (v := 0) (by decide +kernel) rfl ?_
  refine iq_istore_n hS 2 J_HBars_indexOf_d1 (by decide) rfl ?_
  obtain ⟨Q1, hQ1, hR1, h⟩ := bs0_ed h
  have K1 : ∀  (L' : List (Nat × Value)), Q1 (.inl ()) → ia (tb_G L xs) dep J_HBars_indexOf (rpI M Q) (23, L', [], M) := by
    intro  L'  h
    replace h := hQ1  h
    refine iq_iconst hS 24 J_HBars_indexOf_d23 (v := (-1)) (by decide +kernel) rfl ?_
    exact iq_iret J_HBars_indexOf_d24 rfl rfl ⟨_, rfl, rfl, ed_some h⟩
  obtain ⟨r1, hr1, hq1⟩ := h
  obtain ⟨n1, hn1⟩ := lp_n hr1
  have I1 : ∀ (n : Nat) (x2 : Int32) (L' : List (Nat × Value)), im_lk L' 0 = some (.ref 1000003) → im_lk L' 1 = some (.int p1) → im_lk L' 2 = some (.int x2) → lpn (uc1 (f_HBars_indexOf_3_L2 p1 M)) n x2 = some r1 → ia (tb_G L xs) dep J_HBars_indexOf (rpI M Q) (2, L', [], M) := by
    intro n
    induction n with
    | zero => intro x2 L' l3 l4 l5 hn; exact (lpn_0 hn).elim
    | succ n ih =>
      intro x2 L' l3 l4 l5 hn
      have h := lpn_ed1 hn
      unfold f_HBars_indexOf_3_L2 at h
      refine iq_iload_n hS 3 J_HBars_indexOf_d2 l5 rfl ?_
      refine iq_aload_n hS 4 J_HBars_indexOf_d3 l3 rfl ?_
      refine iq_xalen hS 5 J_HBars_indexOf_d4 (by rw [(hM).1]; decide) (Or.inl (by rw [xk_3])) rfl ?_
      rw [xk_3]
      refine iq_icmp_ge hS 8 J_HBars_indexOf_d5 (t := 23) rfl (fun q5 => ?_) rfl (fun q5 => ?_)
      · replace h := ed_pos q5 h
        exact K1  _  (lq_r h hq1)
      · replace h := ed_neg q5 h
        refine iq_aload_n hS 9 J_HBars_indexOf_d8 l3 rfl ?_
        refine iq_iload_n hS 10 J_HBars_indexOf_d9 l5 rfl ?_
        obtain ⟨g10, h⟩ := ed_gd h
        refine iq_xl_3 hS 11 J_HBars_indexOf_d10 hM g10 rfl ?_
        refine iq_iload_n hS 12 J_HBars_indexOf_d11 l4 rfl ?_
        refine iq_icmp_ne hS 15 J_HBars_indexOf_d12 (t := 17) rfl (fun q12 => ?_) rfl (fun q12 => ?_)
        · replace h := ed_pos q12 h
          refine iq_iincv hS 20 J_HBars_indexOf_d17 (c := 1) (by decide +kernel) l5 (by decide) rfl ?_
          refine iq_goto hS J_HBars_indexOf_d20 (t := 2) rfl ?_
          exact ih _ _ (lk_1r l3 (by decide)) (lk_1i l4 (by decide)) lk_1s (lq_l h)
        · replace h := ed_neg q12 h
          refine iq_iload_n hS 16 J_HBars_indexOf_d15 l5 rfl ?_
          exact iq_iret J_HBars_indexOf_d16 rfl rfl ⟨_, rfl, rfl, ed_some (hR1 _ (lq_r h hq1))⟩
  exact I1 n1 _ _ (lk_1r l0 (by decide)) (lk_1i l1 (by decide)) lk_1s hn1
noncomputable def f_HBars_write (p0 : Int32) (M : im_M) : Option (im_M) := gd (inb (im_i M 31 12) 3000) <| some (im_setI (im_setI M 68 (Int32.toNatClampNeg (im_i M 31 12)) (vp_nar .byte ((Int32.toInt8 p0).toInt32))) 31 12 ((im_i (im_setI M 68 (Int32.toNatClampNeg (im_i M 31 12)) (vp_nar .byte ((Int32.toInt8 p0).toInt32))) 31 12) + 1))
theorem J_HBars_write_d0 : decode J_HBars_write.2.1 0 = .ok (.aload_n 2, 1) := by decide +kernel
theorem J_HBars_write_d1 : decode J_HBars_write.2.1 1 = .ok (.aload_n 0, 1) := by decide +kernel
theorem J_HBars_write_d2 : decode J_HBars_write.2.1 2 = .ok (.getfield 132, 3) := by decide +kernel
theorem J_HBars_write_d5 : decode J_HBars_write.2.1 5 = .ok (.iload_n 1, 1) := by decide +kernel
theorem J_HBars_write_d6 : decode J_HBars_write.2.1 6 = .ok (.i2b, 1) := by decide +kernel
theorem J_HBars_write_d7 : decode J_HBars_write.2.1 7 = .ok (.bastore, 1) := by decide +kernel
theorem J_HBars_write_d8 : decode J_HBars_write.2.1 8 = .ok (.aload_n 0, 1) := by decide +kernel
theorem J_HBars_write_d9 : decode J_HBars_write.2.1 9 = .ok (.dup, 1) := by decide +kernel
theorem J_HBars_write_d10 : decode J_HBars_write.2.1 10 = .ok (.getfield 132, 3) := by decide +kernel
theorem J_HBars_write_d13 : decode J_HBars_write.2.1 13 = .ok (.iconst 1, 1) := by decide +kernel
theorem J_HBars_write_d14 : decode J_HBars_write.2.1 14 = .ok (.iadd, 1) := by decide +kernel
theorem J_HBars_write_d15 : decode J_HBars_write.2.1 15 = .ok (.putfield 132, 3) := by decide +kernel
theorem J_HBars_write_d18 : decode J_HBars_write.2.1 18 = .ok (.return_, 1) := by decide +kernel
theorem f_HBars_write_ok {L : Nat} {xs : Nat → Int32} {dep : Nat} {w : Bool} {p0 : Int32} {M : im_M} {Q : im_M → Prop} (hM : lw_S w M) (h : ed (f_HBars_write p0 M) Q) : ia (tb_G L xs) dep J_HBars_write (rwV w Q) (0, lv_args 0 [.ref 31, .int p0, .ref 68], [], M) := by
  have hS : im_St (tb_G L xs) dep J_HBars_write (ia (tb_G L xs) dep J_HBars_write (rwV w Q)) := ia_St
  unfold f_HBars_write at h
  have l0 : im_lk (lv_args 0 [.ref 31, .int p0, .ref 68]) 0 = some (.ref 31) := rfl
  have l1 : im_lk (lv_args 0 [.ref 31, .int p0, .ref 68]) 1 = some (.int p0) := rfl
  have l2 : im_lk (lv_args 0 [.ref 31, .int p0, .ref 68]) 2 = some (.ref 68) := rfl
  refine iq_aload_n hS 1 J_HBars_write_d0 l2 rfl ?_
  refine iq_aload_n hS 2 J_HBars_write_d1 l0 rfl ?_
  refine iq_getI hS 5 J_HBars_write_d2 lf_0_132 (Or.inl rfl) (ka_31 hM) rfl ?_
  refine iq_iload_n hS 6 J_HBars_write_d5 l1 rfl ?_
  refine iq_i2b hS 7 J_HBars_write_d6 rfl ?_
  obtain ⟨g7, h⟩ := ed_gd h
  refine iq_bastore hS 8 J_HBars_write_d7 ⟨(ka_68 hM).1, (ka_68 hM).2, g7.1, ix_lt (kl_68 hM) g7.2⟩ rfl ?_
  refine iq_aload_n hS 9 J_HBars_write_d8 l0 rfl ?_
  refine iq_dup hS 10 J_HBars_write_d9 rfl rfl ?_
  refine iq_getI hS 13 J_HBars_write_d10 lf_0_132 (Or.inl rfl) (ka_31 hM) rfl ?_
  refine iq_iconst hS 14 J_HBars_write_d13 (v := 1) (by decide +kernel) rfl ?_
  refine iq_iadd hS 15 J_HBars_write_d14 rfl ?_
  refine iq_putI hS 18 J_HBars_write_d15 lf_0_132 (Or.inl rfl) rfl (ka_31 hM) rfl ?_
  exact iq_ret J_HBars_write_d18 rfl ⟨rfl, hM, ed_some h⟩
noncomputable def f_HBars_signOf (p0 : Int32) (p1 : Int32) (M : im_M) : Option (Int32) := jn0 (fun (_ : Unit) => some (p0 + 32)) fun k1 => if ¬ p1 = 0 then k1 () else if p0 ≤ 63 then k1 () else some (p0 - 64)
theorem J_HBars_signOf_d0 : decode J_HBars_signOf.2.1 0 = .ok (.iload_n 1, 1) := by decide +kernel
theorem J_HBars_signOf_d1 : decode J_HBars_signOf.2.1 1 = .ok (.ifCond .ne 16, 3) := by decide +kernel
theorem J_HBars_signOf_d4 : decode J_HBars_signOf.2.1 4 = .ok (.iload_n 0, 1) := by decide +kernel
theorem J_HBars_signOf_d5 : decode J_HBars_signOf.2.1 5 = .ok (.bipush 63, 2) := by decide +kernel
theorem J_HBars_signOf_d7 : decode J_HBars_signOf.2.1 7 = .ok (.if_icmp .le 10, 3) := by decide +kernel
theorem J_HBars_signOf_d10 : decode J_HBars_signOf.2.1 10 = .ok (.iload_n 0, 1) := by decide +kernel
theorem J_HBars_signOf_d11 : decode J_HBars_signOf.2.1 11 = .ok (.bipush 64, 2) := by decide +kernel
theorem J_HBars_signOf_d13 : decode J_HBars_signOf.2.1 13 = .ok (.isub, 1) := by decide +kernel
theorem J_HBars_signOf_d14 : decode J_HBars_signOf.2.1 14 = .ok (.goto 7, 3) := by decide +kernel
theorem J_HBars_signOf_d17 : decode J_HBars_signOf.2.1 17 = .ok (.iload_n 0, 1) := by decide +kernel
theorem J_HBars_signOf_d18 : decode J_HBars_signOf.2.1 18 = .ok (.bipush 32, 2) := by decide +kernel
theorem J_HBars_signOf_d20 : decode J_HBars_signOf.2.1 20 = .ok (.iadd, 1) := by decide +kernel
theorem J_HBars_signOf_d21 : decode J_HBars_signOf.2.1 21 = .ok (.ireturn, 1) := by decide +kernel
theorem f_HBars_signOf_ok {L : Nat} {xs : Nat → Int32} {dep : Nat} {w : Bool} {p0 : Int32} {p1 : Int32} {M : im_M} {Q : Int32 → Prop} (hM : lw_S w M) (h : ed (f_HBars_signOf p0 p1 M) Q) : ia (tb_G L xs) dep J_HBars_signOf (rpI M Q) (0, lv_args 0 [.int p0, .int p1], [], M) := by
  have hS : im_St (tb_G L xs) dep J_HBars_signOf (ia (tb_G L xs) dep J_HBars_signOf (rpI M Q)) := ia_St
  unfold f_HBars_signOf at h
  have l0 : im_lk (lv_args 0 [.int p0, .int p1]) 0 = some (.int p0) := rfl
  have l1 : im_lk (lv_args 0 [.int p0, .int p1]) 1 = some (.int p1) := rfl
  refine iq_iload_n hS 1 J_HBars_signOf_d0 l1 rfl ?_
  obtain ⟨k1, Q1, hQ1, hk1, h⟩ := jn0_ed h
  have J1 : ∀  (L' : List (Nat × Value)), im_lk L' 0 = some (.int p0) → Q1 () → ia (tb_G L xs) dep J_HBars_signOf (rpI M Q) (17, L', [], M) := by
    intro  L' l2 h
    replace h := hQ1  h
    refine iq_iload_n hS 18 J_HBars_signOf_d17 l2 rfl ?_
    refine iq_bipush hS 20 J_HBars_signOf_d18 (v := 32) (by decide +kernel) rfl ?_
    refine iq_iadd hS 21 J_HBars_signOf_d20 rfl ?_
    exact iq_iret J_HBars_signOf_d21 rfl rfl ⟨_, rfl, rfl, ed_some h⟩
  refine iq_if_ne hS 4 J_HBars_signOf_d1 (t := 17) rfl (fun q1 => ?_) rfl (fun q1 => ?_)
  · replace h := ed_pos q1 h
    exact J1  _ l0 (hk1  h)
  · replace h := ed_neg q1 h
    refine iq_iload_n hS 5 J_HBars_signOf_d4 l0 rfl ?_
    refine iq_bipush hS 7 J_HBars_signOf_d5 (v := 63) (by decide +kernel) rfl ?_
    refine iq_icmp_le hS 10 J_HBars_signOf_d7 (t := 17) rfl (fun q7 => ?_) rfl (fun q7 => ?_)
    · replace h := ed_pos q7 h
      exact J1  _ l0 (hk1  h)
    · replace h := ed_neg q7 h
      refine iq_iload_n hS 11 J_HBars_signOf_d10 l0 rfl ?_
      refine iq_bipush hS 13 J_HBars_signOf_d11 (v := 64) (by decide +kernel) rfl ?_
      refine iq_isub hS 14 J_HBars_signOf_d13 rfl ?_
      refine iq_goto hS J_HBars_signOf_d14 (t := 21) rfl ?_
      exact iq_iret J_HBars_signOf_d21 rfl rfl ⟨_, rfl, rfl, ed_some h⟩
noncomputable def f_HBars_tell_L18 (v2 : Int32) (x3 : Int32) (x4 : Int32) (M5 : im_M) : Option ((Int32 × Int32 × im_M) ⊕ ((im_M) ⊕ (Int32 × im_M))) := if v2 ≤ x4 then some (.inr (.inl M5)) else gd (inb x4 140) <| jn3 (fun (y32 : Int32) (y33 : Int32) (M34 : im_M) => some (.inl (y32, (y33 + 1), M34))) fun k7 => if ¬ (im_i M5 36 (Int32.toNatClampNeg x4)) = 102 then if ((if 101 < (im_i M5 36 (Int32.toNatClampNeg x4)) then 0 else (if ¬ x3 = 2 then (if (im_i M5 36 (Int32.toNatClampNeg x4)) < 99 then 0 else 1) else (if (im_i M5 36 (Int32.toNatClampNeg x4)) < 100 then 0 else 1))) : Int32) = 0 then jn1 (fun (M11 : im_M) => jn2 (fun (y21 : Int32) (M22 : im_M) => if 96 ≤ (im_i M5 36 (Int32.toNatClampNeg x4)) then some (.inr (.inr (0, M22))) else bd1 (f_HBars_signOf (im_i M5 36 (Int32.toNatClampNeg x4)) x3 M22) fun (x29 : Int32) => bd1 (f_HBars_write x29 M22) fun (M30 : im_M) => k7 x3 y21 M30) fun k18 => if ¬ (im_i M5 36 (Int32.toNatClampNeg x4)) = 98 then k18 x4 M11 else if v2 ≤ (x4 + 1) then k18 x4 M11 else gd (inb (x4 + 1) 140) <| if 96 ≤ (im_i M11 36 (Int32.toNatClampNeg (x4 + 1))) then k18 x4 M11 else gd (inb (x4 + 1) 140) <| bd1 (f_HBars_signOf (im_i M11 36 (Int32.toNatClampNeg (x4 + 1))) ((1 : Int32) - x3) M11) fun (x19 : Int32) => bd1 (f_HBars_write x19 M11) fun (M20 : im_M) => k7 x3 (x4 + 1) M20) fun k8 => if ¬ x3 = 2 then k8 M5 else if 100 ≤ (im_i M5 36 (Int32.toNatClampNeg x4)) then k8 M5 else bd1 (f_HBars_write ((48 : Int32) + ((im_i M5 36 (Int32.toNatClampNeg x4)) / 10)) M5) fun (M9 : im_M) => bd1 (f_HBars_write ((48 : Int32) + ((im_i M5 36 (Int32.toNatClampNeg x4)) - (im_i M5 36 (Int32.toNatClampNeg x4)) / 10 * 10)) M9) fun (M10 : im_M) => k7 x3 x4 M10 else if ¬ ((101 : Int32) - (im_i M5 36 (Int32.toNatClampNeg x4))) = x3 then k7 ((101 : Int32) - (im_i M5 36 (Int32.toNatClampNeg x4))) x4 M5 else some (.inr (.inr (0, M5))) else bd1 (f_HBars_write 128 M5) fun (M31 : im_M) => k7 x3 x4 M31
noncomputable def f_HBars_tell (p0 : Int32) (M : im_M) : Option (Int32 × im_M) := gd (inb 0 140) <| bs1 (lp (uc3 (f_HBars_tell_L18 p0)) (((im_i M 36 (Int32.toNatClampNeg 0)) - 103), 1, (im_setI M 31 12 0))) (fun (M40 : im_M) => some (1, M40)) (fun t => some t)
theorem J_HBars_tell_d0 : decode J_HBars_tell.2.1 0 = .ok (.aload_n 0, 1) := by decide +kernel
theorem J_HBars_tell_d1 : decode J_HBars_tell.2.1 1 = .ok (.getfield 26, 3) := by decide +kernel
theorem J_HBars_tell_d4 : decode J_HBars_tell.2.1 4 = .ok (.iconst 0, 1) := by decide +kernel
theorem J_HBars_tell_d5 : decode J_HBars_tell.2.1 5 = .ok (.iaload, 1) := by decide +kernel
theorem J_HBars_tell_d6 : decode J_HBars_tell.2.1 6 = .ok (.bipush 103, 2) := by decide +kernel
theorem J_HBars_tell_d8 : decode J_HBars_tell.2.1 8 = .ok (.isub, 1) := by decide +kernel
theorem J_HBars_tell_d9 : decode J_HBars_tell.2.1 9 = .ok (.istore_n 3, 1) := by decide +kernel
theorem J_HBars_tell_d10 : decode J_HBars_tell.2.1 10 = .ok (.aload_n 0, 1) := by decide +kernel
theorem J_HBars_tell_d11 : decode J_HBars_tell.2.1 11 = .ok (.iconst 0, 1) := by decide +kernel
theorem J_HBars_tell_d12 : decode J_HBars_tell.2.1 12 = .ok (.putfield 132, 3) := by decide +kernel
theorem J_HBars_tell_d15 : decode J_HBars_tell.2.1 15 = .ok (.iconst 1, 1) := by decide +kernel
theorem J_HBars_tell_d16 : decode J_HBars_tell.2.1 16 = .ok (.istore 4, 2) := by decide +kernel
theorem J_HBars_tell_d18 : decode J_HBars_tell.2.1 18 = .ok (.iload 4, 2) := by decide +kernel
theorem J_HBars_tell_d20 : decode J_HBars_tell.2.1 20 = .ok (.iload_n 1, 1) := by decide +kernel
theorem J_HBars_tell_d21 : decode J_HBars_tell.2.1 21 = .ok (.if_icmp .ge 209, 3) := by decide +kernel
theorem J_HBars_tell_d24 : decode J_HBars_tell.2.1 24 = .ok (.aload_n 0, 1) := by decide +kernel
theorem J_HBars_tell_d25 : decode J_HBars_tell.2.1 25 = .ok (.getfield 26, 3) := by decide +kernel
theorem J_HBars_tell_d28 : decode J_HBars_tell.2.1 28 = .ok (.iload 4, 2) := by decide +kernel
theorem J_HBars_tell_d30 : decode J_HBars_tell.2.1 30 = .ok (.iaload, 1) := by decide +kernel
theorem J_HBars_tell_d31 : decode J_HBars_tell.2.1 31 = .ok (.istore 5, 2) := by decide +kernel
theorem J_HBars_tell_d33 : decode J_HBars_tell.2.1 33 = .ok (.iload 5, 2) := by decide +kernel
theorem J_HBars_tell_d35 : decode J_HBars_tell.2.1 35 = .ok (.bipush 101, 2) := by decide +kernel
theorem J_HBars_tell_d37 : decode J_HBars_tell.2.1 37 = .ok (.if_icmp .gt 24, 3) := by decide +kernel
theorem J_HBars_tell_d40 : decode J_HBars_tell.2.1 40 = .ok (.iload 5, 2) := by decide +kernel
theorem J_HBars_tell_d42 : decode J_HBars_tell.2.1 42 = .ok (.iload_n 3, 1) := by decide +kernel
theorem J_HBars_tell_d43 : decode J_HBars_tell.2.1 43 = .ok (.iconst 2, 1) := by decide +kernel
theorem J_HBars_tell_d44 : decode J_HBars_tell.2.1 44 = .ok (.if_icmp .ne 8, 3) := by decide +kernel
theorem J_HBars_tell_d47 : decode J_HBars_tell.2.1 47 = .ok (.bipush 100, 2) := by decide +kernel
theorem J_HBars_tell_d49 : decode J_HBars_tell.2.1 49 = .ok (.goto 5, 3) := by decide +kernel
theorem J_HBars_tell_d52 : decode J_HBars_tell.2.1 52 = .ok (.bipush 99, 2) := by decide +kernel
theorem J_HBars_tell_d54 : decode J_HBars_tell.2.1 54 = .ok (.if_icmp .lt 7, 3) := by decide +kernel
theorem J_HBars_tell_d57 : decode J_HBars_tell.2.1 57 = .ok (.iconst 1, 1) := by decide +kernel
theorem J_HBars_tell_d58 : decode J_HBars_tell.2.1 58 = .ok (.goto 4, 3) := by decide +kernel
theorem J_HBars_tell_d61 : decode J_HBars_tell.2.1 61 = .ok (.iconst 0, 1) := by decide +kernel
theorem J_HBars_tell_d62 : decode J_HBars_tell.2.1 62 = .ok (.istore 6, 2) := by decide +kernel
theorem J_HBars_tell_d64 : decode J_HBars_tell.2.1 64 = .ok (.iload 5, 2) := by decide +kernel
theorem J_HBars_tell_d66 : decode J_HBars_tell.2.1 66 = .ok (.bipush 102, 2) := by decide +kernel
theorem J_HBars_tell_d68 : decode J_HBars_tell.2.1 68 = .ok (.if_icmp .ne 14, 3) := by decide +kernel
theorem J_HBars_tell_d71 : decode J_HBars_tell.2.1 71 = .ok (.aload_n 0, 1) := by decide +kernel
theorem J_HBars_tell_d72 : decode J_HBars_tell.2.1 72 = .ok (.sipush 128, 3) := by decide +kernel
theorem J_HBars_tell_d75 : decode J_HBars_tell.2.1 75 = .ok (.aload_n 2, 1) := by decide +kernel
theorem J_HBars_tell_d76 : decode J_HBars_tell.2.1 76 = .ok (.invokevirtual 160, 3) := by decide +kernel
theorem J_HBars_tell_d79 : decode J_HBars_tell.2.1 79 = .ok (.goto 145, 3) := by decide +kernel
theorem J_HBars_tell_d82 : decode J_HBars_tell.2.1 82 = .ok (.iload 6, 2) := by decide +kernel
theorem J_HBars_tell_d84 : decode J_HBars_tell.2.1 84 = .ok (.ifCond .eq 23, 3) := by decide +kernel
theorem J_HBars_tell_d87 : decode J_HBars_tell.2.1 87 = .ok (.bipush 101, 2) := by decide +kernel
theorem J_HBars_tell_d89 : decode J_HBars_tell.2.1 89 = .ok (.iload 5, 2) := by decide +kernel
theorem J_HBars_tell_d91 : decode J_HBars_tell.2.1 91 = .ok (.isub, 1) := by decide +kernel
theorem J_HBars_tell_d92 : decode J_HBars_tell.2.1 92 = .ok (.iload_n 3, 1) := by decide +kernel
theorem J_HBars_tell_d93 : decode J_HBars_tell.2.1 93 = .ok (.if_icmp .ne 5, 3) := by decide +kernel
theorem J_HBars_tell_d96 : decode J_HBars_tell.2.1 96 = .ok (.iconst 0, 1) := by decide +kernel
theorem J_HBars_tell_d97 : decode J_HBars_tell.2.1 97 = .ok (.ireturn, 1) := by decide +kernel
theorem J_HBars_tell_d98 : decode J_HBars_tell.2.1 98 = .ok (.bipush 101, 2) := by decide +kernel
theorem J_HBars_tell_d100 : decode J_HBars_tell.2.1 100 = .ok (.iload 5, 2) := by decide +kernel
theorem J_HBars_tell_d102 : decode J_HBars_tell.2.1 102 = .ok (.isub, 1) := by decide +kernel
theorem J_HBars_tell_d103 : decode J_HBars_tell.2.1 103 = .ok (.istore_n 3, 1) := by decide +kernel
theorem J_HBars_tell_d104 : decode J_HBars_tell.2.1 104 = .ok (.goto 120, 3) := by decide +kernel
theorem J_HBars_tell_d107 : decode J_HBars_tell.2.1 107 = .ok (.iload_n 3, 1) := by decide +kernel
theorem J_HBars_tell_d108 : decode J_HBars_tell.2.1 108 = .ok (.iconst 2, 1) := by decide +kernel
theorem J_HBars_tell_d109 : decode J_HBars_tell.2.1 109 = .ok (.if_icmp .ne 39, 3) := by decide +kernel
theorem J_HBars_tell_d112 : decode J_HBars_tell.2.1 112 = .ok (.iload 5, 2) := by decide +kernel
theorem J_HBars_tell_d114 : decode J_HBars_tell.2.1 114 = .ok (.bipush 100, 2) := by decide +kernel
theorem J_HBars_tell_d116 : decode J_HBars_tell.2.1 116 = .ok (.if_icmp .ge 32, 3) := by decide +kernel
theorem J_HBars_tell_d119 : decode J_HBars_tell.2.1 119 = .ok (.aload_n 0, 1) := by decide +kernel
theorem J_HBars_tell_d120 : decode J_HBars_tell.2.1 120 = .ok (.bipush 48, 2) := by decide +kernel
theorem J_HBars_tell_d122 : decode J_HBars_tell.2.1 122 = .ok (.iload 5, 2) := by decide +kernel
theorem J_HBars_tell_d124 : decode J_HBars_tell.2.1 124 = .ok (.bipush 10, 2) := by decide +kernel
theorem J_HBars_tell_d126 : decode J_HBars_tell.2.1 126 = .ok (.idiv, 1) := by decide +kernel
theorem J_HBars_tell_d127 : decode J_HBars_tell.2.1 127 = .ok (.iadd, 1) := by decide +kernel
theorem J_HBars_tell_d128 : decode J_HBars_tell.2.1 128 = .ok (.aload_n 2, 1) := by decide +kernel
theorem J_HBars_tell_d129 : decode J_HBars_tell.2.1 129 = .ok (.invokevirtual 160, 3) := by decide +kernel
theorem J_HBars_tell_d132 : decode J_HBars_tell.2.1 132 = .ok (.aload_n 0, 1) := by decide +kernel
theorem J_HBars_tell_d133 : decode J_HBars_tell.2.1 133 = .ok (.bipush 48, 2) := by decide +kernel
theorem J_HBars_tell_d135 : decode J_HBars_tell.2.1 135 = .ok (.iload 5, 2) := by decide +kernel
theorem J_HBars_tell_d137 : decode J_HBars_tell.2.1 137 = .ok (.bipush 10, 2) := by decide +kernel
theorem J_HBars_tell_d139 : decode J_HBars_tell.2.1 139 = .ok (.irem, 1) := by decide +kernel
theorem J_HBars_tell_d140 : decode J_HBars_tell.2.1 140 = .ok (.iadd, 1) := by decide +kernel
theorem J_HBars_tell_d141 : decode J_HBars_tell.2.1 141 = .ok (.aload_n 2, 1) := by decide +kernel
theorem J_HBars_tell_d142 : decode J_HBars_tell.2.1 142 = .ok (.invokevirtual 160, 3) := by decide +kernel
theorem J_HBars_tell_d145 : decode J_HBars_tell.2.1 145 = .ok (.goto 79, 3) := by decide +kernel
theorem J_HBars_tell_d148 : decode J_HBars_tell.2.1 148 = .ok (.iload 5, 2) := by decide +kernel
theorem J_HBars_tell_d150 : decode J_HBars_tell.2.1 150 = .ok (.bipush 98, 2) := by decide +kernel
theorem J_HBars_tell_d152 : decode J_HBars_tell.2.1 152 = .ok (.if_icmp .ne 49, 3) := by decide +kernel
theorem J_HBars_tell_d155 : decode J_HBars_tell.2.1 155 = .ok (.iload 4, 2) := by decide +kernel
theorem J_HBars_tell_d157 : decode J_HBars_tell.2.1 157 = .ok (.iconst 1, 1) := by decide +kernel
theorem J_HBars_tell_d158 : decode J_HBars_tell.2.1 158 = .ok (.iadd, 1) := by decide +kernel
theorem J_HBars_tell_d159 : decode J_HBars_tell.2.1 159 = .ok (.iload_n 1, 1) := by decide +kernel
theorem J_HBars_tell_d160 : decode J_HBars_tell.2.1 160 = .ok (.if_icmp .ge 41, 3) := by decide +kernel
theorem J_HBars_tell_d163 : decode J_HBars_tell.2.1 163 = .ok (.aload_n 0, 1) := by decide +kernel
theorem J_HBars_tell_d164 : decode J_HBars_tell.2.1 164 = .ok (.getfield 26, 3) := by decide +kernel
theorem J_HBars_tell_d167 : decode J_HBars_tell.2.1 167 = .ok (.iload 4, 2) := by decide +kernel
theorem J_HBars_tell_d169 : decode J_HBars_tell.2.1 169 = .ok (.iconst 1, 1) := by decide +kernel
theorem J_HBars_tell_d170 : decode J_HBars_tell.2.1 170 = .ok (.iadd, 1) := by decide +kernel
theorem J_HBars_tell_d171 : decode J_HBars_tell.2.1 171 = .ok (.iaload, 1) := by decide +kernel
theorem J_HBars_tell_d172 : decode J_HBars_tell.2.1 172 = .ok (.bipush 96, 2) := by decide +kernel
theorem J_HBars_tell_d174 : decode J_HBars_tell.2.1 174 = .ok (.if_icmp .ge 27, 3) := by decide +kernel
theorem J_HBars_tell_d177 : decode J_HBars_tell.2.1 177 = .ok (.iinc 4 1, 3) := by decide +kernel
theorem J_HBars_tell_d180 : decode J_HBars_tell.2.1 180 = .ok (.aload_n 0, 1) := by decide +kernel
theorem J_HBars_tell_d181 : decode J_HBars_tell.2.1 181 = .ok (.aload_n 0, 1) := by decide +kernel
theorem J_HBars_tell_d182 : decode J_HBars_tell.2.1 182 = .ok (.getfield 26, 3) := by decide +kernel
theorem J_HBars_tell_d185 : decode J_HBars_tell.2.1 185 = .ok (.iload 4, 2) := by decide +kernel
theorem J_HBars_tell_d187 : decode J_HBars_tell.2.1 187 = .ok (.iaload, 1) := by decide +kernel
theorem J_HBars_tell_d188 : decode J_HBars_tell.2.1 188 = .ok (.iconst 1, 1) := by decide +kernel
theorem J_HBars_tell_d189 : decode J_HBars_tell.2.1 189 = .ok (.iload_n 3, 1) := by decide +kernel
theorem J_HBars_tell_d190 : decode J_HBars_tell.2.1 190 = .ok (.isub, 1) := by decide +kernel
theorem J_HBars_tell_d191 : decode J_HBars_tell.2.1 191 = .ok (.invokestatic 164, 3) := by decide +kernel
theorem J_HBars_tell_d194 : decode J_HBars_tell.2.1 194 = .ok (.aload_n 2, 1) := by decide +kernel
theorem J_HBars_tell_d195 : decode J_HBars_tell.2.1 195 = .ok (.invokevirtual 160, 3) := by decide +kernel
theorem J_HBars_tell_d198 : decode J_HBars_tell.2.1 198 = .ok (.goto 26, 3) := by decide +kernel
theorem J_HBars_tell_d201 : decode J_HBars_tell.2.1 201 = .ok (.iload 5, 2) := by decide +kernel
theorem J_HBars_tell_d203 : decode J_HBars_tell.2.1 203 = .ok (.bipush 96, 2) := by decide +kernel
theorem J_HBars_tell_d205 : decode J_HBars_tell.2.1 205 = .ok (.if_icmp .ge 17, 3) := by decide +kernel
theorem J_HBars_tell_d208 : decode J_HBars_tell.2.1 208 = .ok (.aload_n 0, 1) := by decide +kernel
theorem J_HBars_tell_d209 : decode J_HBars_tell.2.1 209 = .ok (.iload 5, 2) := by decide +kernel
theorem J_HBars_tell_d211 : decode J_HBars_tell.2.1 211 = .ok (.iload_n 3, 1) := by decide +kernel
theorem J_HBars_tell_d212 : decode J_HBars_tell.2.1 212 = .ok (.invokestatic 164, 3) := by decide +kernel
theorem J_HBars_tell_d215 : decode J_HBars_tell.2.1 215 = .ok (.aload_n 2, 1) := by decide +kernel
theorem J_HBars_tell_d216 : decode J_HBars_tell.2.1 216 = .ok (.invokevirtual 160, 3) := by decide +kernel
theorem J_HBars_tell_d219 : decode J_HBars_tell.2.1 219 = .ok (.goto 5, 3) := by decide +kernel
theorem J_HBars_tell_d222 : decode J_HBars_tell.2.1 222 = .ok (.iconst 0, 1) := by decide +kernel
theorem J_HBars_tell_d223 : decode J_HBars_tell.2.1 223 = .ok (.ireturn, 1) := by decide +kernel
theorem J_HBars_tell_d224 : decode J_HBars_tell.2.1 224 = .ok (.iinc 4 1, 3) := by decide +kernel
theorem J_HBars_tell_d227 : decode J_HBars_tell.2.1 227 = .ok (.goto (-209), 3) := by decide +kernel
theorem J_HBars_tell_d230 : decode J_HBars_tell.2.1 230 = .ok (.iconst 1, 1) := by decide +kernel
theorem J_HBars_tell_d231 : decode J_HBars_tell.2.1 231 = .ok (.ireturn, 1) := by decide +kernel
theorem f_HBars_tell_ok {L : Nat} {xs : Nat → Int32} {dep : Nat} {w : Bool} {p0 : Int32} {M : im_M} {Q : Int32 × im_M → Prop} (hM : lw_S w M) (h : ed (f_HBars_tell p0 M) Q) : ia (tb_G L xs) (dep + 1) J_HBars_tell (rwI w Q) (0, lv_args 0 [.ref 31, .int p0, .ref 68], [], M) := by
  have hS : im_St (tb_G L xs) (dep + 1) J_HBars_tell (ia (tb_G L xs) (dep + 1) J_HBars_tell (rwI w Q)) := ia_St
  unfold f_HBars_tell at h
  have l0 : im_lk (lv_args 0 [.ref 31, .int p0, .ref 68]) 0 = some (.ref 31) := rfl
  have l1 : im_lk (lv_args 0 [.ref 31, .int p0, .ref 68]) 1 = some (.int p0) := rfl
  have l2 : im_lk (lv_args 0 [.ref 31, .int p0, .ref 68]) 2 = some (.ref 68) := rfl
  refine iq_aload_n hS 1 J_HBars_tell_d0 l0 rfl ?_
  refine iq_getR hS 4 J_HBars_tell_d1 lf_0_26 (Or.inr ⟨_, rfl⟩) (ka_31 hM) (ra_31_8 hM) rfl ?_
  refine iq_iconst hS 5 J_HBars_tell_d4 (v := 0) (by decide +kernel) rfl ?_
  obtain ⟨g5, h⟩ := ed_gd h
  refine iq_iaload hS 6 J_HBars_tell_d5 ⟨(ka_36 hM).1, (ka_36 hM).2, g5.1, ix_lt (kl_36 hM) g5.2⟩ rfl ?_
  refine iq_bipush hS 8 J_HBars_tell_d6 (v := 103) (by decide +kernel) rfl ?_
  refine iq_isub hS 9 J_HBars_tell_d8 rfl ?_
  refine iq_istore_n hS 10 J_HBars_tell_d9 (by decide) rfl ?_
  refine iq_aload_n hS 11 J_HBars_tell_d10 (lk_1r l0 (by decide)) rfl ?_
  refine iq_iconst hS 12 J_HBars_tell_d11 (v := 0) (by decide +kernel) rfl ?_
  refine iq_putI hS 15 J_HBars_tell_d12 lf_0_132 (Or.inl rfl) rfl (ka_31 hM) rfl ?_
  refine iq_iconst hS 16 J_HBars_tell_d15 (v := 1) (by decide +kernel) rfl ?_
  refine iq_istore hS 18 J_HBars_tell_d16 (by decide) rfl ?_
  obtain ⟨Q1, hQ1, hR1, h⟩ := bs1_ed h
  have K1 : ∀ (M2 : im_M) (L' : List (Nat × Value)), lw_S w M2 → Q1 (.inl M2) → ia (tb_G L xs) (dep + 1) J_HBars_tell (rwI w Q) (230, L', [], M2) := by
    intro M2 L' hM2  h
    replace h := hQ1 _ h
    refine iq_iconst hS 231 J_HBars_tell_d230 (v := 1) (by decide +kernel) rfl ?_
    exact iq_iret J_HBars_tell_d231 rfl rfl ⟨_, rfl, hM2, ed_some h⟩
  obtain ⟨r1, hr1, hq1⟩ := h
  obtain ⟨n1, hn1⟩ := lp_n hr1
  have I1 : ∀ (n : Nat) (x3 : Int32) (x4 : Int32) (M5 : im_M) (L' : List (Nat × Value)), lw_S w M5 → im_lk L' 0 = some (.ref 31) → im_lk L' 1 = some (.int p0) → im_lk L' 2 = some (.ref 68) → im_lk L' 3 = some (.int x3) → im_lk L' 4 = some (.int x4) → lpn (uc3 (f_HBars_tell_L18 p0)) n (x3, x4, M5) = some r1 → ia (tb_G L xs) (dep + 1) J_HBars_tell (rwI w Q) (18, L', [], M5) := by
    intro n
    induction n with
    | zero => intro x3 x4 M5 L' hM5 l6 l7 l8 l9 l10 hn; exact (lpn_0 hn).elim
    | succ n ih =>
      intro x3 x4 M5 L' hM5 l6 l7 l8 l9 l10 hn
      have h := lpn_ed3 hn
      unfold f_HBars_tell_L18 at h
      refine iq_iload hS 20 J_HBars_tell_d18 l10 rfl ?_
      refine iq_iload_n hS 21 J_HBars_tell_d20 l7 rfl ?_
      refine iq_icmp_ge hS 24 J_HBars_tell_d21 (t := 230) rfl (fun q21 => ?_) rfl (fun q21 => ?_)
      · replace h := ed_pos q21 h
        exact K1 _ _ hM5  (lq_r h hq1)
      · replace h := ed_neg q21 h
        refine iq_aload_n hS 25 J_HBars_tell_d24 l6 rfl ?_
        refine iq_getR hS 28 J_HBars_tell_d25 lf_0_26 (Or.inr ⟨_, rfl⟩) (ka_31 hM5) (ra_31_8 hM5) rfl ?_
        refine iq_iload hS 30 J_HBars_tell_d28 l10 rfl ?_
        obtain ⟨g30, h⟩ := ed_gd h
        refine iq_iaload hS 31 J_HBars_tell_d30 ⟨(ka_36 hM5).1, (ka_36 hM5).2, g30.1, ix_lt (kl_36 hM5) g30.2⟩ rfl ?_
        refine iq_istore hS 33 J_HBars_tell_d31 (by decide) rfl ?_
        refine iq_iload hS 35 J_HBars_tell_d33 lk_1s rfl ?_
        refine iq_bipush hS 37 J_HBars_tell_d35 (v := 101) (by decide +kernel) rfl ?_
        have J11 : ∀ (z12 : Int32) (L' : List (Nat × Value)), z12 = ((if 101 < (im_i M5 36 (Int32.toNatClampNeg x4)) then 0 else (if ¬ x3 = 2 then (if (im_i M5 36 (Int32.toNatClampNeg x4)) < 99 then 0 else 1) else (if (im_i M5 36 (Int32.toNatClampNeg x4)) < 100 then 0 else 1))) : Int32) → im_lk L' 0 = some (.ref 31) → im_lk L' 1 = some (.int p0) → im_lk L' 2 = some (.ref 68) → im_lk L' 3 = some (.int x3) → im_lk L' 4 = some (.int x4) → im_lk L' 5 = some (.int (im_i M5 36 (Int32.toNatClampNeg x4))) → ia (tb_G L xs) (dep + 1) J_HBars_tell (rwI w Q) (62, L', [.int z12], M5) := by
          intro z12 L' e13 l14 l15 l16 l17 l18 l19
          subst e13
          refine iq_istore hS 64 J_HBars_tell_d62 (by decide) rfl ?_
          refine iq_iload hS 66 J_HBars_tell_d64 (lk_1i l19 (by decide)) rfl ?_
          refine iq_bipush hS 68 J_HBars_tell_d66 (v := 102) (by decide +kernel) rfl ?_
          obtain ⟨k20, Q20, hQ20, hk20, h⟩ := jn3_ed h
          have J20 : ∀ (y45 : Int32) (y46 : Int32) (M47 : im_M) (L' : List (Nat × Value)), lw_S w M47 → im_lk L' 0 = some (.ref 31) → im_lk L' 1 = some (.int p0) → im_lk L' 2 = some (.ref 68) → im_lk L' 3 = some (.int y45) → im_lk L' 4 = some (.int y46) → Q20 y45 y46 M47 → ia (tb_G L xs) (dep + 1) J_HBars_tell (rwI w Q) (224, L', [], M47) := by
            intro y45 y46 M47 L' hM47 l48 l49 l50 l51 l52 h
            replace h := hQ20 _ _ _ h
            refine iq_iincv hS 227 J_HBars_tell_d224 (c := 1) (by decide +kernel) l52 (by decide) rfl ?_
            refine iq_goto hS J_HBars_tell_d227 (t := 18) rfl ?_
            exact ih _ _ _ _ hM47 (lk_1r l48 (by decide)) (lk_1i l49 (by decide)) (lk_1r l50 (by decide)) (lk_1i l51 (by decide)) lk_1s (lq_l h)
          refine iq_icmp_ne hS 71 J_HBars_tell_d68 (t := 82) rfl (fun q68 => ?_) rfl (fun q68 => ?_)
          · replace h := ed_pos q68 h
            refine iq_iload hS 84 J_HBars_tell_d82 lk_1s rfl ?_
            refine iq_if_eq hS 87 J_HBars_tell_d84 (t := 107) rfl (fun q84 => ?_) rfl (fun q84 => ?_)
            · replace h := ed_pos q84 h
              refine iq_iload_n hS 108 J_HBars_tell_d107 (lk_1i l17 (by decide)) rfl ?_
              refine iq_iconst hS 109 J_HBars_tell_d108 (v := 2) (by decide +kernel) rfl ?_
              obtain ⟨k21, Q21, hQ21, hk21, h⟩ := jn1_ed h
              have J21 : ∀ (M24 : im_M) (L' : List (Nat × Value)), lw_S w M24 → im_lk L' 0 = some (.ref 31) → im_lk L' 1 = some (.int p0) → im_lk L' 2 = some (.ref 68) → im_lk L' 3 = some (.int x3) → im_lk L' 4 = some (.int x4) → im_lk L' 5 = some (.int (im_i M5 36 (Int32.toNatClampNeg x4))) → Q21 M24 → ia (tb_G L xs) (dep + 1) J_HBars_tell (rwI w Q) (148, L', [], M24) := by
                intro M24 L' hM24 l25 l26 l27 l28 l29 l30 h
                replace h := hQ21 _ h
                refine iq_iload hS 150 J_HBars_tell_d148 l30 rfl ?_
                refine iq_bipush hS 152 J_HBars_tell_d150 (v := 98) (by decide +kernel) rfl ?_
                obtain ⟨k31, Q31, hQ31, hk31, h⟩ := jn2_ed h
                have J31 : ∀ (y34 : Int32) (M35 : im_M) (L' : List (Nat × Value)), lw_S w M35 → im_lk L' 0 = some (.ref 31) → im_lk L' 1 = some (.int p0) → im_lk L' 2 = some (.ref 68) → im_lk L' 3 = some (.int x3) → im_lk L' 4 = some (.int y34) → im_lk L' 5 = some (.int (im_i M5 36 (Int32.toNatClampNeg x4))) → Q31 y34 M35 → ia (tb_G L xs) (dep + 1) J_HBars_tell (rwI w Q) (201, L', [], M35) := by
                  intro y34 M35 L' hM35 l36 l37 l38 l39 l40 l41 h
                  replace h := hQ31 _ _ h
                  refine iq_iload hS 203 J_HBars_tell_d201 l41 rfl ?_
                  refine iq_bipush hS 205 J_HBars_tell_d203 (v := 96) (by decide +kernel) rfl ?_
                  refine iq_icmp_ge hS 208 J_HBars_tell_d205 (t := 222) rfl (fun q205 => ?_) rfl (fun q205 => ?_)
                  · replace h := ed_pos q205 h
                    refine iq_iconst hS 223 J_HBars_tell_d222 (v := 0) (by decide +kernel) rfl ?_
                    exact iq_iret J_HBars_tell_d223 rfl rfl ⟨_, rfl, hM35, ed_some (hR1 _ (lq_r h hq1))⟩
                  · replace h := ed_neg q205 h
                    refine iq_aload_n hS 209 J_HBars_tell_d208 l36 rfl ?_
                    refine iq_iload hS 211 J_HBars_tell_d209 l41 rfl ?_
                    refine iq_iload_n hS 212 J_HBars_tell_d211 l39 rfl ?_
                    obtain ⟨Q42, hQ42, h⟩ := bd1_ed h
                    refine iq_cpI hS 215 J_HBars_tell_d212 rfl (pr_stat (vs := [_, _]) lc_0_164 lT_254 rfl rfl (by decide) rfl (Nat.le_of_ble_eq_true rfl) (Nat.le_of_ble_eq_true rfl)) (f_HBars_signOf_ok (dep := dep + 0) hM35 h) rfl ?_
                    intro x42 h
                    replace h := hQ42 _ h
                    refine iq_aload_n hS 216 J_HBars_tell_d215 l38 rfl ?_
                    obtain ⟨Q43, hQ43, h⟩ := bd1_ed h
                    refine iq_cwV hS 219 J_HBars_tell_d216 rfl (pr_inst (vs := [_, _]) lc_0_160 lT_253 rfl rfl (by decide) (by decide) rfl (Nat.le_of_ble_eq_true rfl) (Nat.le_of_ble_eq_true rfl) (fun _ => Or.inl (pr_b (ka_31 hM35) (by decide) rfl))) (f_HBars_write_ok (dep := dep + 0) hM35 h) rfl ?_
                    intro M43 hM43 h
                    replace h := hQ43 _ h
                    refine iq_goto hS J_HBars_tell_d219 (t := 224) rfl ?_
                    exact J20 _ _ _ _ hM43 l36 l37 l38 l39 l40 (hk20 _ _ _ h)
                refine iq_icmp_ne hS 155 J_HBars_tell_d152 (t := 201) rfl (fun q152 => ?_) rfl (fun q152 => ?_)
                · replace h := ed_pos q152 h
                  exact J31 _ _ _ hM24 l25 l26 l27 l28 l29 l30 (hk31 _ _ h)
                · replace h := ed_neg q152 h
                  refine iq_iload hS 157 J_HBars_tell_d155 l29 rfl ?_
                  refine iq_iconst hS 158 J_HBars_tell_d157 (v := 1) (by decide +kernel) rfl ?_
                  refine iq_iadd hS 159 J_HBars_tell_d158 rfl ?_
                  refine iq_iload_n hS 160 J_HBars_tell_d159 l26 rfl ?_
                  refine iq_icmp_ge hS 163 J_HBars_tell_d160 (t := 201) rfl (fun q160 => ?_) rfl (fun q160 => ?_)
                  · replace h := ed_pos q160 h
                    exact J31 _ _ _ hM24 l25 l26 l27 l28 l29 l30 (hk31 _ _ h)
                  · replace h := ed_neg q160 h
                    refine iq_aload_n hS 164 J_HBars_tell_d163 l25 rfl ?_
                    refine iq_getR hS 167 J_HBars_tell_d164 lf_0_26 (Or.inr ⟨_, rfl⟩) (ka_31 hM24) (ra_31_8 hM24) rfl ?_
                    refine iq_iload hS 169 J_HBars_tell_d167 l29 rfl ?_
                    refine iq_iconst hS 170 J_HBars_tell_d169 (v := 1) (by decide +kernel) rfl ?_
                    refine iq_iadd hS 171 J_HBars_tell_d170 rfl ?_
                    obtain ⟨g171, h⟩ := ed_gd h
                    refine iq_iaload hS 172 J_HBars_tell_d171 ⟨(ka_36 hM24).1, (ka_36 hM24).2, g171.1, ix_lt (kl_36 hM24) g171.2⟩ rfl ?_
                    refine iq_bipush hS 174 J_HBars_tell_d172 (v := 96) (by decide +kernel) rfl ?_
                    refine iq_icmp_ge hS 177 J_HBars_tell_d174 (t := 201) rfl (fun q174 => ?_) rfl (fun q174 => ?_)
                    · replace h := ed_pos q174 h
                      exact J31 _ _ _ hM24 l25 l26 l27 l28 l29 l30 (hk31 _ _ h)
                    · replace h := ed_neg q174 h
                      refine iq_iincv hS 180 J_HBars_tell_d177 (c := 1) (by decide +kernel) l29 (by decide) rfl ?_
                      refine iq_aload_n hS 181 J_HBars_tell_d180 (lk_1r l25 (by decide)) rfl ?_
                      refine iq_aload_n hS 182 J_HBars_tell_d181 (lk_1r l25 (by decide)) rfl ?_
                      refine iq_getR hS 185 J_HBars_tell_d182 lf_0_26 (Or.inr ⟨_, rfl⟩) (ka_31 hM24) (ra_31_8 hM24) rfl ?_
                      refine iq_iload hS 187 J_HBars_tell_d185 lk_1s rfl ?_
                      obtain ⟨g187, h⟩ := ed_gd h
                      refine iq_iaload hS 188 J_HBars_tell_d187 ⟨(ka_36 hM24).1, (ka_36 hM24).2, g187.1, ix_lt (kl_36 hM24) g187.2⟩ rfl ?_
                      refine iq_iconst hS 189 J_HBars_tell_d188 (v := 1) (by decide +kernel) rfl ?_
                      refine iq_iload_n hS 190 J_HBars_tell_d189 (lk_1i l28 (by decide)) rfl ?_
                      refine iq_isub hS 191 J_HBars_tell_d190 rfl ?_
                      obtain ⟨Q32, hQ32, h⟩ := bd1_ed h
                      refine iq_cpI hS 194 J_HBars_tell_d191 rfl (pr_stat (vs := [_, _]) lc_0_164 lT_254 rfl rfl (by decide) rfl (Nat.le_of_ble_eq_true rfl) (Nat.le_of_ble_eq_true rfl)) (f_HBars_signOf_ok (dep := dep + 0) hM24 h) rfl ?_
                      intro x32 h
                      replace h := hQ32 _ h
                      refine iq_aload_n hS 195 J_HBars_tell_d194 (lk_1r l27 (by decide)) rfl ?_
                      obtain ⟨Q33, hQ33, h⟩ := bd1_ed h
                      refine iq_cwV hS 198 J_HBars_tell_d195 rfl (pr_inst (vs := [_, _]) lc_0_160 lT_253 rfl rfl (by decide) (by decide) rfl (Nat.le_of_ble_eq_true rfl) (Nat.le_of_ble_eq_true rfl) (fun _ => Or.inl (pr_b (ka_31 hM24) (by decide) rfl))) (f_HBars_write_ok (dep := dep + 0) hM24 h) rfl ?_
                      intro M33 hM33 h
                      replace h := hQ33 _ h
                      refine iq_goto hS J_HBars_tell_d198 (t := 224) rfl ?_
                      exact J20 _ _ _ _ hM33 (lk_1r l25 (by decide)) (lk_1i l26 (by decide)) (lk_1r l27 (by decide)) (lk_1i l28 (by decide)) lk_1s (hk20 _ _ _ h)
              refine iq_icmp_ne hS 112 J_HBars_tell_d109 (t := 148) rfl (fun q109 => ?_) rfl (fun q109 => ?_)
              · replace h := ed_pos q109 h
                exact J21 _ _ hM5 (lk_1r l14 (by decide)) (lk_1i l15 (by decide)) (lk_1r l16 (by decide)) (lk_1i l17 (by decide)) (lk_1i l18 (by decide)) (lk_1i l19 (by decide)) (hk21 _ h)
              · replace h := ed_neg q109 h
                refine iq_iload hS 114 J_HBars_tell_d112 (lk_1i l19 (by decide)) rfl ?_
                refine iq_bipush hS 116 J_HBars_tell_d114 (v := 100) (by decide +kernel) rfl ?_
                refine iq_icmp_ge hS 119 J_HBars_tell_d116 (t := 148) rfl (fun q116 => ?_) rfl (fun q116 => ?_)
                · replace h := ed_pos q116 h
                  exact J21 _ _ hM5 (lk_1r l14 (by decide)) (lk_1i l15 (by decide)) (lk_1r l16 (by decide)) (lk_1i l17 (by decide)) (lk_1i l18 (by decide)) (lk_1i l19 (by decide)) (hk21 _ h)
                · replace h := ed_neg q116 h
                  refine iq_aload_n hS 120 J_HBars_tell_d119 (lk_1r l14 (by decide)) rfl ?_
                  refine iq_bipush hS 122 J_HBars_tell_d120 (v := 48) (by decide +kernel) rfl ?_
                  refine iq_iload hS 124 J_HBars_tell_d122 (lk_1i l19 (by decide)) rfl ?_
                  refine iq_bipush hS 126 J_HBars_tell_d124 (v := 10) (by decide +kernel) rfl ?_
                  refine iq_idiv hS 127 J_HBars_tell_d126 (by decide) rfl ?_
                  refine iq_iadd hS 128 J_HBars_tell_d127 rfl ?_
                  refine iq_aload_n hS 129 J_HBars_tell_d128 (lk_1r l16 (by decide)) rfl ?_
                  obtain ⟨Q22, hQ22, h⟩ := bd1_ed h
                  refine iq_cwV hS 132 J_HBars_tell_d129 rfl (pr_inst (vs := [_, _]) lc_0_160 lT_253 rfl rfl (by decide) (by decide) rfl (Nat.le_of_ble_eq_true rfl) (Nat.le_of_ble_eq_true rfl) (fun _ => Or.inl (pr_b (ka_31 hM5) (by decide) rfl))) (f_HBars_write_ok (dep := dep + 0) hM5 h) rfl ?_
                  intro M22 hM22 h
                  replace h := hQ22 _ h
                  refine iq_aload_n hS 133 J_HBars_tell_d132 (lk_1r l14 (by decide)) rfl ?_
                  refine iq_bipush hS 135 J_HBars_tell_d133 (v := 48) (by decide +kernel) rfl ?_
                  refine iq_iload hS 137 J_HBars_tell_d135 (lk_1i l19 (by decide)) rfl ?_
                  refine iq_bipush hS 139 J_HBars_tell_d137 (v := 10) (by decide +kernel) rfl ?_
                  refine iq_irem hS 140 J_HBars_tell_d139 (by decide) rfl ?_
                  refine iq_iadd hS 141 J_HBars_tell_d140 rfl ?_
                  refine iq_aload_n hS 142 J_HBars_tell_d141 (lk_1r l16 (by decide)) rfl ?_
                  obtain ⟨Q23, hQ23, h⟩ := bd1_ed h
                  refine iq_cwV hS 145 J_HBars_tell_d142 rfl (pr_inst (vs := [_, _]) lc_0_160 lT_253 rfl rfl (by decide) (by decide) rfl (Nat.le_of_ble_eq_true rfl) (Nat.le_of_ble_eq_true rfl) (fun _ => Or.inl (pr_b (ka_31 hM22) (by decide) rfl))) (f_HBars_write_ok (dep := dep + 0) hM22 h) rfl ?_
                  intro M23 hM23 h
                  replace h := hQ23 _ h
                  refine iq_goto hS J_HBars_tell_d145 (t := 224) rfl ?_
                  exact J20 _ _ _ _ hM23 (lk_1r l14 (by decide)) (lk_1i l15 (by decide)) (lk_1r l16 (by decide)) (lk_1i l17 (by decide)) (lk_1i l18 (by decide)) (hk20 _ _ _ h)
            · replace h := ed_neg q84 h
              refine iq_bipush hS 89 J_HBars_tell_d87 (v := 101) (by decide +kernel) rfl ?_
              refine iq_iload hS 91 J_HBars_tell_d89 (lk_1i l19 (by decide)) rfl ?_
              refine iq_isub hS 92 J_HBars_tell_d91 rfl ?_
              refine iq_iload_n hS 93 J_HBars_tell_d92 (lk_1i l17 (by decide)) rfl ?_
              refine iq_icmp_ne hS 96 J_HBars_tell_d93 (t := 98) rfl (fun q93 => ?_) rfl (fun q93 => ?_)
              · replace h := ed_pos q93 h
                refine iq_bipush hS 100 J_HBars_tell_d98 (v := 101) (by decide +kernel) rfl ?_
                refine iq_iload hS 102 J_HBars_tell_d100 (lk_1i l19 (by decide)) rfl ?_
                refine iq_isub hS 103 J_HBars_tell_d102 rfl ?_
                refine iq_istore_n hS 104 J_HBars_tell_d103 (by decide) rfl ?_
                refine iq_goto hS J_HBars_tell_d104 (t := 224) rfl ?_
                exact J20 _ _ _ _ hM5 (lk_1r (lk_1r l14 (by decide)) (by decide)) (lk_1i (lk_1i l15 (by decide)) (by decide)) (lk_1r (lk_1r l16 (by decide)) (by decide)) lk_1s (lk_1i (lk_1i l18 (by decide)) (by decide)) (hk20 _ _ _ h)
              · replace h := ed_neg q93 h
                refine iq_iconst hS 97 J_HBars_tell_d96 (v := 0) (by decide +kernel) rfl ?_
                exact iq_iret J_HBars_tell_d97 rfl rfl ⟨_, rfl, hM5, ed_some (hR1 _ (lq_r h hq1))⟩
          · replace h := ed_neg q68 h
            refine iq_aload_n hS 72 J_HBars_tell_d71 (lk_1r l14 (by decide)) rfl ?_
            refine iq_sipush hS 75 J_HBars_tell_d72 (v := 128) (by decide +kernel) rfl ?_
            refine iq_aload_n hS 76 J_HBars_tell_d75 (lk_1r l16 (by decide)) rfl ?_
            obtain ⟨Q44, hQ44, h⟩ := bd1_ed h
            refine iq_cwV hS 79 J_HBars_tell_d76 rfl (pr_inst (vs := [_, _]) lc_0_160 lT_253 rfl rfl (by decide) (by decide) rfl (Nat.le_of_ble_eq_true rfl) (Nat.le_of_ble_eq_true rfl) (fun _ => Or.inl (pr_b (ka_31 hM5) (by decide) rfl))) (f_HBars_write_ok (dep := dep + 0) hM5 h) rfl ?_
            intro M44 hM44 h
            replace h := hQ44 _ h
            refine iq_goto hS J_HBars_tell_d79 (t := 224) rfl ?_
            exact J20 _ _ _ _ hM44 (lk_1r l14 (by decide)) (lk_1i l15 (by decide)) (lk_1r l16 (by decide)) (lk_1i l17 (by decide)) (lk_1i l18 (by decide)) (hk20 _ _ _ h)
        refine iq_icmp_gt hS 40 J_HBars_tell_d37 (t := 61) rfl (fun q37 => ?_) rfl (fun q37 => ?_)
        · refine iq_iconst hS 62 J_HBars_tell_d61 (v := 0) (by decide +kernel) rfl ?_
          exact J11 _ _ (by rw [if_pos q37]) (lk_1r l6 (by decide)) (lk_1i l7 (by decide)) (lk_1r l8 (by decide)) (lk_1i l9 (by decide)) (lk_1i l10 (by decide)) lk_1s
        · refine iq_iload hS 42 J_HBars_tell_d40 lk_1s rfl ?_
          refine iq_iload_n hS 43 J_HBars_tell_d42 (lk_1i l9 (by decide)) rfl ?_
          refine iq_iconst hS 44 J_HBars_tell_d43 (v := 2) (by decide +kernel) rfl ?_
          refine iq_icmp_ne hS 47 J_HBars_tell_d44 (t := 52) rfl (fun q44 => ?_) rfl (fun q44 => ?_)
          · refine iq_bipush hS 54 J_HBars_tell_d52 (v := 99) (by decide +kernel) rfl ?_
            refine iq_icmp_lt hS 57 J_HBars_tell_d54 (t := 61) rfl (fun q54 => ?_) rfl (fun q54 => ?_)
            · refine iq_iconst hS 62 J_HBars_tell_d61 (v := 0) (by decide +kernel) rfl ?_
              exact J11 _ _ (by rw [if_neg q37, if_pos q44, if_pos q54]) (lk_1r l6 (by decide)) (lk_1i l7 (by decide)) (lk_1r l8 (by decide)) (lk_1i l9 (by decide)) (lk_1i l10 (by decide)) lk_1s
            · refine iq_iconst hS 58 J_HBars_tell_d57 (v := 1) (by decide +kernel) rfl ?_
              refine iq_goto hS J_HBars_tell_d58 (t := 62) rfl ?_
              exact J11 _ _ (by rw [if_neg q37, if_pos q44, if_neg q54]) (lk_1r l6 (by decide)) (lk_1i l7 (by decide)) (lk_1r l8 (by decide)) (lk_1i l9 (by decide)) (lk_1i l10 (by decide)) lk_1s
          · refine iq_bipush hS 49 J_HBars_tell_d47 (v := 100) (by decide +kernel) rfl ?_
            refine iq_goto hS J_HBars_tell_d49 (t := 54) rfl ?_
            refine iq_icmp_lt hS 57 J_HBars_tell_d54 (t := 61) rfl (fun q54 => ?_) rfl (fun q54 => ?_)
            · refine iq_iconst hS 62 J_HBars_tell_d61 (v := 0) (by decide +kernel) rfl ?_
              exact J11 _ _ (by rw [if_neg q37, if_neg q44, if_pos q54]) (lk_1r l6 (by decide)) (lk_1i l7 (by decide)) (lk_1r l8 (by decide)) (lk_1i l9 (by decide)) (lk_1i l10 (by decide)) lk_1s
            · refine iq_iconst hS 58 J_HBars_tell_d57 (v := 1) (by decide +kernel) rfl ?_
              refine iq_goto hS J_HBars_tell_d58 (t := 62) rfl ?_
              exact J11 _ _ (by rw [if_neg q37, if_neg q44, if_neg q54]) (lk_1r l6 (by decide)) (lk_1i l7 (by decide)) (lk_1r l8 (by decide)) (lk_1i l9 (by decide)) (lk_1i l10 (by decide)) lk_1s
  exact I1 n1 _ _ _ _ hM (lk_1r (lk_1r l0 (by decide)) (by decide)) (lk_1i (lk_1i l1 (by decide)) (by decide)) (lk_1r (lk_1r l2 (by decide)) (by decide)) (lk_1i lk_1s (by decide)) lk_1s hn1
noncomputable def f_HBars_readSymbols_L29 (x3 : Int32) (M4 : im_M) : Option ((Int32 × im_M) ⊕ ((im_M) ⊕ (Int32 × im_M))) := if ((im_i M4 31 11) - 7) ≤ x3 then some (.inr (.inl M4)) else bd1 (f_HBars_patternAt x3 6 11 M4) fun (x5 : Int32) => bd1 (f_HBars_indexOf_3 x5 M4) fun (x6 : Int32) => if x6 = (-1) then some (.inr (.inr (0, M4))) else jn0 (fun (_ : Unit) => bd1 (f_HBars_addSymbol x6 M4) fun (M12 : im_M) => some (.inl ((x3 + 6), M12))) fun k7 => if ¬ x3 = 0 then k7 () else if 103 ≤ x6 then k7 () else some (.inr (.inr (0, M4)))
noncomputable def f_HBars_readSymbols (M : im_M) : Option (Int32 × im_M) := bd1 (f_HBars_patternAt ((im_i M 31 11) - 7) 7 13 M) fun (x1 : Int32) => if x1 = 2331112 then bs1 (lp (uc2 (f_HBars_readSymbols_L29)) (0, (im_setI M 31 9 0))) (fun (M13 : im_M) => gd (inb ((im_i M13 31 9) - 1) 140) <| bd1 (f_HBars_checkSymbol ((im_i M13 31 9) - 1) M13) fun (x14 : Int32) => if ¬ (im_i M13 36 (Int32.toNatClampNeg ((im_i M13 31 9) - 1))) = x14 then some (0, M13) else bd2 (f_HBars_tell ((im_i M13 31 9) - 1) M13) fun (x15 : Int32) (M15 : im_M) => if x15 = 0 then some (0, M15) else some (1, M15)) (fun t => some t) else some (0, M)
theorem J_HBars_readSymbols_d0 : decode J_HBars_readSymbols.2.1 0 = .ok (.aload_n 0, 1) := by decide +kernel
theorem J_HBars_readSymbols_d1 : decode J_HBars_readSymbols.2.1 1 = .ok (.aload_n 0, 1) := by decide +kernel
theorem J_HBars_readSymbols_d2 : decode J_HBars_readSymbols.2.1 2 = .ok (.getfield 115, 3) := by decide +kernel
theorem J_HBars_readSymbols_d5 : decode J_HBars_readSymbols.2.1 5 = .ok (.bipush 7, 2) := by decide +kernel
theorem J_HBars_readSymbols_d7 : decode J_HBars_readSymbols.2.1 7 = .ok (.isub, 1) := by decide +kernel
theorem J_HBars_readSymbols_d8 : decode J_HBars_readSymbols.2.1 8 = .ok (.bipush 7, 2) := by decide +kernel
theorem J_HBars_readSymbols_d10 : decode J_HBars_readSymbols.2.1 10 = .ok (.bipush 13, 2) := by decide +kernel
theorem J_HBars_readSymbols_d12 : decode J_HBars_readSymbols.2.1 12 = .ok (.invokevirtual 149, 3) := by decide +kernel
theorem J_HBars_readSymbols_d15 : decode J_HBars_readSymbols.2.1 15 = .ok (.ldc 97, 2) := by decide +kernel
theorem J_HBars_readSymbols_d17 : decode J_HBars_readSymbols.2.1 17 = .ok (.if_icmp .eq 5, 3) := by decide +kernel
theorem J_HBars_readSymbols_d20 : decode J_HBars_readSymbols.2.1 20 = .ok (.iconst 0, 1) := by decide +kernel
theorem J_HBars_readSymbols_d21 : decode J_HBars_readSymbols.2.1 21 = .ok (.ireturn, 1) := by decide +kernel
theorem J_HBars_readSymbols_d22 : decode J_HBars_readSymbols.2.1 22 = .ok (.aload_n 0, 1) := by decide +kernel
theorem J_HBars_readSymbols_d23 : decode J_HBars_readSymbols.2.1 23 = .ok (.iconst 0, 1) := by decide +kernel
theorem J_HBars_readSymbols_d24 : decode J_HBars_readSymbols.2.1 24 = .ok (.putfield 73, 3) := by decide +kernel
theorem J_HBars_readSymbols_d27 : decode J_HBars_readSymbols.2.1 27 = .ok (.iconst 0, 1) := by decide +kernel
theorem J_HBars_readSymbols_d28 : decode J_HBars_readSymbols.2.1 28 = .ok (.istore_n 2, 1) := by decide +kernel
theorem J_HBars_readSymbols_d29 : decode J_HBars_readSymbols.2.1 29 = .ok (.iload_n 2, 1) := by decide +kernel
theorem J_HBars_readSymbols_d30 : decode J_HBars_readSymbols.2.1 30 = .ok (.aload_n 0, 1) := by decide +kernel
theorem J_HBars_readSymbols_d31 : decode J_HBars_readSymbols.2.1 31 = .ok (.getfield 115, 3) := by decide +kernel
theorem J_HBars_readSymbols_d34 : decode J_HBars_readSymbols.2.1 34 = .ok (.bipush 7, 2) := by decide +kernel
theorem J_HBars_readSymbols_d36 : decode J_HBars_readSymbols.2.1 36 = .ok (.isub, 1) := by decide +kernel
theorem J_HBars_readSymbols_d37 : decode J_HBars_readSymbols.2.1 37 = .ok (.if_icmp .ge 47, 3) := by decide +kernel
theorem J_HBars_readSymbols_d40 : decode J_HBars_readSymbols.2.1 40 = .ok (.getstatic 89, 3) := by decide +kernel
theorem J_HBars_readSymbols_d43 : decode J_HBars_readSymbols.2.1 43 = .ok (.aload_n 0, 1) := by decide +kernel
theorem J_HBars_readSymbols_d44 : decode J_HBars_readSymbols.2.1 44 = .ok (.iload_n 2, 1) := by decide +kernel
theorem J_HBars_readSymbols_d45 : decode J_HBars_readSymbols.2.1 45 = .ok (.bipush 6, 2) := by decide +kernel
theorem J_HBars_readSymbols_d47 : decode J_HBars_readSymbols.2.1 47 = .ok (.bipush 11, 2) := by decide +kernel
theorem J_HBars_readSymbols_d49 : decode J_HBars_readSymbols.2.1 49 = .ok (.invokevirtual 149, 3) := by decide +kernel
theorem J_HBars_readSymbols_d52 : decode J_HBars_readSymbols.2.1 52 = .ok (.invokestatic 152, 3) := by decide +kernel
theorem J_HBars_readSymbols_d55 : decode J_HBars_readSymbols.2.1 55 = .ok (.istore_n 3, 1) := by decide +kernel
theorem J_HBars_readSymbols_d56 : decode J_HBars_readSymbols.2.1 56 = .ok (.iload_n 3, 1) := by decide +kernel
theorem J_HBars_readSymbols_d57 : decode J_HBars_readSymbols.2.1 57 = .ok (.iconst (-1), 1) := by decide +kernel
theorem J_HBars_readSymbols_d58 : decode J_HBars_readSymbols.2.1 58 = .ok (.if_icmp .eq 13, 3) := by decide +kernel
theorem J_HBars_readSymbols_d61 : decode J_HBars_readSymbols.2.1 61 = .ok (.iload_n 2, 1) := by decide +kernel
theorem J_HBars_readSymbols_d62 : decode J_HBars_readSymbols.2.1 62 = .ok (.ifCond .ne 11, 3) := by decide +kernel
theorem J_HBars_readSymbols_d65 : decode J_HBars_readSymbols.2.1 65 = .ok (.iload_n 3, 1) := by decide +kernel
theorem J_HBars_readSymbols_d66 : decode J_HBars_readSymbols.2.1 66 = .ok (.bipush 103, 2) := by decide +kernel
theorem J_HBars_readSymbols_d68 : decode J_HBars_readSymbols.2.1 68 = .ok (.if_icmp .ge 5, 3) := by decide +kernel
theorem J_HBars_readSymbols_d71 : decode J_HBars_readSymbols.2.1 71 = .ok (.iconst 0, 1) := by decide +kernel
theorem J_HBars_readSymbols_d72 : decode J_HBars_readSymbols.2.1 72 = .ok (.ireturn, 1) := by decide +kernel
theorem J_HBars_readSymbols_d73 : decode J_HBars_readSymbols.2.1 73 = .ok (.aload_n 0, 1) := by decide +kernel
theorem J_HBars_readSymbols_d74 : decode J_HBars_readSymbols.2.1 74 = .ok (.iload_n 3, 1) := by decide +kernel
theorem J_HBars_readSymbols_d75 : decode J_HBars_readSymbols.2.1 75 = .ok (.invokevirtual 79, 3) := by decide +kernel
theorem J_HBars_readSymbols_d78 : decode J_HBars_readSymbols.2.1 78 = .ok (.iinc 2 6, 3) := by decide +kernel
theorem J_HBars_readSymbols_d81 : decode J_HBars_readSymbols.2.1 81 = .ok (.goto (-52), 3) := by decide +kernel
theorem J_HBars_readSymbols_d84 : decode J_HBars_readSymbols.2.1 84 = .ok (.aload_n 0, 1) := by decide +kernel
theorem J_HBars_readSymbols_d85 : decode J_HBars_readSymbols.2.1 85 = .ok (.getfield 73, 3) := by decide +kernel
theorem J_HBars_readSymbols_d88 : decode J_HBars_readSymbols.2.1 88 = .ok (.iconst 1, 1) := by decide +kernel
theorem J_HBars_readSymbols_d89 : decode J_HBars_readSymbols.2.1 89 = .ok (.isub, 1) := by decide +kernel
theorem J_HBars_readSymbols_d90 : decode J_HBars_readSymbols.2.1 90 = .ok (.istore_n 2, 1) := by decide +kernel
theorem J_HBars_readSymbols_d91 : decode J_HBars_readSymbols.2.1 91 = .ok (.aload_n 0, 1) := by decide +kernel
theorem J_HBars_readSymbols_d92 : decode J_HBars_readSymbols.2.1 92 = .ok (.getfield 26, 3) := by decide +kernel
theorem J_HBars_readSymbols_d95 : decode J_HBars_readSymbols.2.1 95 = .ok (.iload_n 2, 1) := by decide +kernel
theorem J_HBars_readSymbols_d96 : decode J_HBars_readSymbols.2.1 96 = .ok (.iaload, 1) := by decide +kernel
theorem J_HBars_readSymbols_d97 : decode J_HBars_readSymbols.2.1 97 = .ok (.aload_n 0, 1) := by decide +kernel
theorem J_HBars_readSymbols_d98 : decode J_HBars_readSymbols.2.1 98 = .ok (.iload_n 2, 1) := by decide +kernel
theorem J_HBars_readSymbols_d99 : decode J_HBars_readSymbols.2.1 99 = .ok (.invokevirtual 83, 3) := by decide +kernel
theorem J_HBars_readSymbols_d102 : decode J_HBars_readSymbols.2.1 102 = .ok (.if_icmp .ne 16, 3) := by decide +kernel
theorem J_HBars_readSymbols_d105 : decode J_HBars_readSymbols.2.1 105 = .ok (.aload_n 0, 1) := by decide +kernel
theorem J_HBars_readSymbols_d106 : decode J_HBars_readSymbols.2.1 106 = .ok (.iload_n 2, 1) := by decide +kernel
theorem J_HBars_readSymbols_d107 : decode J_HBars_readSymbols.2.1 107 = .ok (.aload_n 1, 1) := by decide +kernel
theorem J_HBars_readSymbols_d108 : decode J_HBars_readSymbols.2.1 108 = .ok (.invokevirtual 156, 3) := by decide +kernel
theorem J_HBars_readSymbols_d111 : decode J_HBars_readSymbols.2.1 111 = .ok (.ifCond .eq 7, 3) := by decide +kernel
theorem J_HBars_readSymbols_d114 : decode J_HBars_readSymbols.2.1 114 = .ok (.iconst 1, 1) := by decide +kernel
theorem J_HBars_readSymbols_d115 : decode J_HBars_readSymbols.2.1 115 = .ok (.goto 4, 3) := by decide +kernel
theorem J_HBars_readSymbols_d118 : decode J_HBars_readSymbols.2.1 118 = .ok (.iconst 0, 1) := by decide +kernel
theorem J_HBars_readSymbols_d119 : decode J_HBars_readSymbols.2.1 119 = .ok (.ireturn, 1) := by decide +kernel
theorem f_HBars_readSymbols_ok {L : Nat} {xs : Nat → Int32} {dep : Nat} {w : Bool} {M : im_M} {Q : Int32 × im_M → Prop} (hM : lw_S w M) (h : ed (f_HBars_readSymbols M) Q) : ia (tb_G L xs) (dep + 3) J_HBars_readSymbols (rwI w Q) (0, lv_args 0 [.ref 31, .ref 68], [], M) := by
  have hS : im_St (tb_G L xs) (dep + 3) J_HBars_readSymbols (ia (tb_G L xs) (dep + 3) J_HBars_readSymbols (rwI w Q)) := ia_St
  unfold f_HBars_readSymbols at h
  have l0 : im_lk (lv_args 0 [.ref 31, .ref 68]) 0 = some (.ref 31) := rfl
  have l1 : im_lk (lv_args 0 [.ref 31, .ref 68]) 1 = some (.ref 68) := rfl
  refine iq_aload_n hS 1 J_HBars_readSymbols_d0 l0 rfl ?_
  refine iq_aload_n hS 2 J_HBars_readSymbols_d1 l0 rfl ?_
  refine iq_getI hS 5 J_HBars_readSymbols_d2 lf_0_115 (Or.inl rfl) (ka_31 hM) rfl ?_
  refine iq_bipush hS 7 J_HBars_readSymbols_d5 (v := 7) (by decide +kernel) rfl ?_
  refine iq_isub hS 8 J_HBars_readSymbols_d7 rfl ?_
  refine iq_bipush hS 10 J_HBars_readSymbols_d8 (v := 7) (by decide +kernel) rfl ?_
  refine iq_bipush hS 12 J_HBars_readSymbols_d10 (v := 13) (by decide +kernel) rfl ?_
  obtain ⟨Q1, hQ1, h⟩ := bd1_ed h
  refine iq_cpI hS 15 J_HBars_readSymbols_d12 rfl (pr_inst (vs := [_, _, _]) lc_0_149 lT_249 rfl rfl (by decide) (by decide) rfl (Nat.le_of_ble_eq_true rfl) (Nat.le_of_ble_eq_true rfl) (fun _ => Or.inl (pr_b (ka_31 hM) (by decide) rfl))) (f_HBars_patternAt_ok (dep := dep + 0) hM h) rfl ?_
  intro x1 h
  replace h := hQ1 _ h
  refine iq_ldc hS 17 J_HBars_readSymbols_d15 lk_0_97 rfl ?_
  refine iq_icmp_eq hS 20 J_HBars_readSymbols_d17 (t := 22) rfl (fun q17 => ?_) rfl (fun q17 => ?_)
  · replace h := ed_pos q17 h
    refine iq_aload_n hS 23 J_HBars_readSymbols_d22 l0 rfl ?_
    refine iq_iconst hS 24 J_HBars_readSymbols_d23 (v := 0) (by decide +kernel) rfl ?_
    refine iq_putI hS 27 J_HBars_readSymbols_d24 lf_0_73 (Or.inl rfl) rfl (ka_31 hM) rfl ?_
    refine iq_iconst hS 28 J_HBars_readSymbols_d27 (v := 0) (by decide +kernel) rfl ?_
    refine iq_istore_n hS 29 J_HBars_readSymbols_d28 (by decide) rfl ?_
    obtain ⟨Q2, hQ2, hR2, h⟩ := bs1_ed h
    have K2 : ∀ (M3 : im_M) (L' : List (Nat × Value)), lw_S w M3 → im_lk L' 0 = some (.ref 31) → im_lk L' 1 = some (.ref 68) → Q2 (.inl M3) → ia (tb_G L xs) (dep + 3) J_HBars_readSymbols (rwI w Q) (84, L', [], M3) := by
      intro M3 L' hM3 l4 l5 h
      replace h := hQ2 _ h
      refine iq_aload_n hS 85 J_HBars_readSymbols_d84 l4 rfl ?_
      refine iq_getI hS 88 J_HBars_readSymbols_d85 lf_0_73 (Or.inl rfl) (ka_31 hM3) rfl ?_
      refine iq_iconst hS 89 J_HBars_readSymbols_d88 (v := 1) (by decide +kernel) rfl ?_
      refine iq_isub hS 90 J_HBars_readSymbols_d89 rfl ?_
      refine iq_istore_n hS 91 J_HBars_readSymbols_d90 (by decide) rfl ?_
      refine iq_aload_n hS 92 J_HBars_readSymbols_d91 (lk_1r l4 (by decide)) rfl ?_
      refine iq_getR hS 95 J_HBars_readSymbols_d92 lf_0_26 (Or.inr ⟨_, rfl⟩) (ka_31 hM3) (ra_31_8 hM3) rfl ?_
      refine iq_iload_n hS 96 J_HBars_readSymbols_d95 lk_1s rfl ?_
      obtain ⟨g96, h⟩ := ed_gd h
      refine iq_iaload hS 97 J_HBars_readSymbols_d96 ⟨(ka_36 hM3).1, (ka_36 hM3).2, g96.1, ix_lt (kl_36 hM3) g96.2⟩ rfl ?_
      refine iq_aload_n hS 98 J_HBars_readSymbols_d97 (lk_1r l4 (by decide)) rfl ?_
      refine iq_iload_n hS 99 J_HBars_readSymbols_d98 lk_1s rfl ?_
      obtain ⟨Q6, hQ6, h⟩ := bd1_ed h
      refine iq_cpI hS 102 J_HBars_readSymbols_d99 rfl (pr_inst (vs := [_]) lc_0_83 lT_125 rfl rfl (by decide) (by decide) rfl (Nat.le_of_ble_eq_true rfl) (Nat.le_of_ble_eq_true rfl) (fun _ => Or.inl (pr_b (ka_31 hM3) (by decide) rfl))) (f_HBars_checkSymbol_ok (dep := dep + 2) hM3 h) rfl ?_
      intro x6 h
      replace h := hQ6 _ h
      refine iq_icmp_ne hS 105 J_HBars_readSymbols_d102 (t := 118) rfl (fun q102 => ?_) rfl (fun q102 => ?_)
      · replace h := ed_pos q102 h
        refine iq_iconst hS 119 J_HBars_readSymbols_d118 (v := 0) (by decide +kernel) rfl ?_
        exact iq_iret J_HBars_readSymbols_d119 rfl rfl ⟨_, rfl, hM3, ed_some h⟩
      · replace h := ed_neg q102 h
        refine iq_aload_n hS 106 J_HBars_readSymbols_d105 (lk_1r l4 (by decide)) rfl ?_
        refine iq_iload_n hS 107 J_HBars_readSymbols_d106 lk_1s rfl ?_
        refine iq_aload_n hS 108 J_HBars_readSymbols_d107 (lk_1r l5 (by decide)) rfl ?_
        obtain ⟨Q7, hQ7, h⟩ := bd2_ed h
        refine iq_cwI hS 111 J_HBars_readSymbols_d108 rfl (pr_inst (vs := [_, _]) lc_0_156 lT_252 rfl rfl (by decide) (by decide) rfl (Nat.le_of_ble_eq_true rfl) (Nat.le_of_ble_eq_true rfl) (fun _ => Or.inl (pr_b (ka_31 hM3) (by decide) rfl))) (f_HBars_tell_ok (dep := dep + 1) hM3 h) rfl ?_
        intro x7 M7 hM7 h
        replace h := hQ7 _ _ h
        refine iq_if_eq hS 114 J_HBars_readSymbols_d111 (t := 118) rfl (fun q111 => ?_) rfl (fun q111 => ?_)
        · replace h := ed_pos q111 h
          refine iq_iconst hS 119 J_HBars_readSymbols_d118 (v := 0) (by decide +kernel) rfl ?_
          exact iq_iret J_HBars_readSymbols_d119 rfl rfl ⟨_, rfl, hM7, ed_some h⟩
        · replace h := ed_neg q111 h
          refine iq_iconst hS 115 J_HBars_readSymbols_d114 (v := 1) (by decide +kernel) rfl ?_
          refine iq_goto hS J_HBars_readSymbols_d115 (t := 119) rfl ?_
          exact iq_iret J_HBars_readSymbols_d119 rfl rfl ⟨_, rfl, hM7, ed_some h⟩
    obtain ⟨r2, hr2, hq2⟩ := h
    obtain ⟨n2, hn2⟩ := lp_n hr2
    have I2 : ∀ (n : Nat) (x8 : Int32) (M9 : im_M) (L' : List (Nat × Value)), lw_S w M9 → im_lk L' 0 = some (.ref 31) → im_lk L' 1 = some (.ref 68) → im_lk L' 2 = some (.int x8) → lpn (uc2 (f_HBars_readSymbols_L29)) n (x8, M9) = some r2 → ia (tb_G L xs) (dep + 3) J_HBars_readSymbols (rwI w Q) (29, L', [], M9) := by
      intro n
      induction n with
      | zero => intro x8 M9 L' hM9 l10 l11 l12 hn; exact (lpn_0 hn).elim
      | succ n ih =>
        intro x8 M9 L' hM9 l10 l11 l12 hn
        have h := lpn_ed2 hn
        unfold f_HBars_readSymbols_L29 at h
        refine iq_iload_n hS 30 J_HBars_readSymbols_d29 l12 rfl ?_
        refine iq_aload_n hS 31 J_HBars_readSymbols_d30 l10 rfl ?_
        refine iq_getI hS 34 J_HBars_readSymbols_d31 lf_0_115 (Or.inl rfl) (ka_31 hM9) rfl ?_
        refine iq_bipush hS 36 J_HBars_readSymbols_d34 (v := 7) (by decide +kernel) rfl ?_
        refine iq_isub hS 37 J_HBars_readSymbols_d36 rfl ?_
        refine iq_icmp_ge hS 40 J_HBars_readSymbols_d37 (t := 84) rfl (fun q37 => ?_) rfl (fun q37 => ?_)
        · replace h := ed_pos q37 h
          exact K2 _ _ hM9 l10 l11 (lq_r h hq2)
        · replace h := ed_neg q37 h
          refine iq_getstatic hS 43 J_HBars_readSymbols_d40 gs_0_89 rfl ?_
          refine iq_aload_n hS 44 J_HBars_readSymbols_d43 l10 rfl ?_
          refine iq_iload_n hS 45 J_HBars_readSymbols_d44 l12 rfl ?_
          refine iq_bipush hS 47 J_HBars_readSymbols_d45 (v := 6) (by decide +kernel) rfl ?_
          refine iq_bipush hS 49 J_HBars_readSymbols_d47 (v := 11) (by decide +kernel) rfl ?_
          obtain ⟨Q13, hQ13, h⟩ := bd1_ed h
          refine iq_cpI hS 52 J_HBars_readSymbols_d49 rfl (pr_inst (vs := [_, _, _]) lc_0_149 lT_249 rfl rfl (by decide) (by decide) rfl (Nat.le_of_ble_eq_true rfl) (Nat.le_of_ble_eq_true rfl) (fun _ => Or.inl (pr_b (ka_31 hM9) (by decide) rfl))) (f_HBars_patternAt_ok (dep := dep + 0) hM9 h) rfl ?_
          intro x13 h
          replace h := hQ13 _ h
          obtain ⟨Q14, hQ14, h⟩ := bd1_ed h
          refine iq_cpI hS 55 J_HBars_readSymbols_d52 rfl (pr_stat (vs := [_, _]) lc_0_152 lT_250 rfl rfl (by decide) rfl (Nat.le_of_ble_eq_true rfl) (Nat.le_of_ble_eq_true rfl)) (f_HBars_indexOf_3_ok (dep := dep + 2) hM9 h) rfl ?_
          intro x14 h
          replace h := hQ14 _ h
          refine iq_istore_n hS 56 J_HBars_readSymbols_d55 (by decide) rfl ?_
          refine iq_iload_n hS 57 J_HBars_readSymbols_d56 lk_1s rfl ?_
          refine iq_iconst hS 58 J_HBars_readSymbols_d57 (v := (-1)) (by decide +kernel) rfl ?_
          refine iq_icmp_eq hS 61 J_HBars_readSymbols_d58 (t := 71) rfl (fun q58 => ?_) rfl (fun q58 => ?_)
          · replace h := ed_pos q58 h
            refine iq_iconst hS 72 J_HBars_readSymbols_d71 (v := 0) (by decide +kernel) rfl ?_
            exact iq_iret J_HBars_readSymbols_d72 rfl rfl ⟨_, rfl, hM9, ed_some (hR2 _ (lq_r h hq2))⟩
          · replace h := ed_neg q58 h
            refine iq_iload_n hS 62 J_HBars_readSymbols_d61 (lk_1i l12 (by decide)) rfl ?_
            obtain ⟨k15, Q15, hQ15, hk15, h⟩ := jn0_ed h
            have J15 : ∀  (L' : List (Nat × Value)), im_lk L' 0 = some (.ref 31) → im_lk L' 1 = some (.ref 68) → im_lk L' 2 = some (.int x8) → im_lk L' 3 = some (.int x14) → Q15 () → ia (tb_G L xs) (dep + 3) J_HBars_readSymbols (rwI w Q) (73, L', [], M9) := by
              intro  L' l16 l17 l18 l19 h
              replace h := hQ15  h
              refine iq_aload_n hS 74 J_HBars_readSymbols_d73 l16 rfl ?_
              refine iq_iload_n hS 75 J_HBars_readSymbols_d74 l19 rfl ?_
              obtain ⟨Q20, hQ20, h⟩ := bd1_ed h
              refine iq_cwV hS 78 J_HBars_readSymbols_d75 rfl (pr_inst (vs := [_]) lc_0_79 lT_124 rfl rfl (by decide) (by decide) rfl (Nat.le_of_ble_eq_true rfl) (Nat.le_of_ble_eq_true rfl) (fun _ => Or.inl (pr_b (ka_31 hM9) (by decide) rfl))) (f_HBars_addSymbol_ok (dep := dep + 2) hM9 h) rfl ?_
              intro M20 hM20 h
              replace h := hQ20 _ h
              refine iq_iincv hS 81 J_HBars_readSymbols_d78 (c := 6) (by decide +kernel) l18 (by decide) rfl ?_
              refine iq_goto hS J_HBars_readSymbols_d81 (t := 29) rfl ?_
              exact ih _ _ _ hM20 (lk_1r l16 (by decide)) (lk_1r l17 (by decide)) lk_1s (lq_l h)
            refine iq_if_ne hS 65 J_HBars_readSymbols_d62 (t := 73) rfl (fun q62 => ?_) rfl (fun q62 => ?_)
            · replace h := ed_pos q62 h
              exact J15  _ (lk_1r l10 (by decide)) (lk_1r l11 (by decide)) (lk_1i l12 (by decide)) lk_1s (hk15  h)
            · replace h := ed_neg q62 h
              refine iq_iload_n hS 66 J_HBars_readSymbols_d65 lk_1s rfl ?_
              refine iq_bipush hS 68 J_HBars_readSymbols_d66 (v := 103) (by decide +kernel) rfl ?_
              refine iq_icmp_ge hS 71 J_HBars_readSymbols_d68 (t := 73) rfl (fun q68 => ?_) rfl (fun q68 => ?_)
              · replace h := ed_pos q68 h
                exact J15  _ (lk_1r l10 (by decide)) (lk_1r l11 (by decide)) (lk_1i l12 (by decide)) lk_1s (hk15  h)
              · replace h := ed_neg q68 h
                refine iq_iconst hS 72 J_HBars_readSymbols_d71 (v := 0) (by decide +kernel) rfl ?_
                exact iq_iret J_HBars_readSymbols_d72 rfl rfl ⟨_, rfl, hM9, ed_some (hR2 _ (lq_r h hq2))⟩
    exact I2 n2 _ _ _ hM (lk_1r l0 (by decide)) (lk_1r l1 (by decide)) lk_1s hn2
  · replace h := ed_neg q17 h
    refine iq_iconst hS 21 J_HBars_readSymbols_d20 (v := 0) (by decide +kernel) rfl ?_
    exact iq_iret J_HBars_readSymbols_d21 rfl rfl ⟨_, rfl, hM, ed_some h⟩
noncomputable def f_HBars_understand_L31 (x5 : Int32) (M6 : im_M) : Option ((Int32 × im_M) ⊕ ((im_M) ⊕ (Int32 × im_M))) := if 2 ≤ x5 then some (.inr (.inl M6)) else gd (((if ¬ x5 = 1 then 0 else 1) : Int32) = 0 ∨ ((if ¬ x5 = 1 then 0 else 1) : Int32) = 1) <| gd (((if ¬ (im_i (im_setI M6 31 4 ((if ¬ x5 = 1 then 0 else 1) : Int32)) 31 11) = 59 then 0 else 1) : Int32) = 0 ∨ ((if ¬ (im_i (im_setI M6 31 4 ((if ¬ x5 = 1 then 0 else 1) : Int32)) 31 11) = 59 then 0 else 1) : Int32) = 1) <| jn1 (fun (M11 : im_M) => jn1 (fun (M17 : im_M) => some (.inl ((x5 + 1), M17))) fun k15 => if ¬ ((im_i M11 31 11) - (im_i M11 31 11) / 6 * 6) = 1 then k15 M11 else bd2 (f_HBars_readSymbols M11) fun (x16 : Int32) (M16 : im_M) => if x16 = 0 then k15 M16 else some (.inr (.inr ((im_i M16 31 12), M16)))) fun k9 => if (im_i (im_setI (im_setI M6 31 4 ((if ¬ x5 = 1 then 0 else 1) : Int32)) 31 3 ((if ¬ (im_i (im_setI M6 31 4 ((if ¬ x5 = 1 then 0 else 1) : Int32)) 31 11) = 59 then 0 else 1) : Int32)) 31 3) = 0 then k9 (im_setI (im_setI M6 31 4 ((if ¬ x5 = 1 then 0 else 1) : Int32)) 31 3 ((if ¬ (im_i (im_setI M6 31 4 ((if ¬ x5 = 1 then 0 else 1) : Int32)) 31 11) = 59 then 0 else 1) : Int32)) else bd2 (f_HBars_readFigures (im_setI (im_setI M6 31 4 ((if ¬ x5 = 1 then 0 else 1) : Int32)) 31 3 ((if ¬ (im_i (im_setI M6 31 4 ((if ¬ x5 = 1 then 0 else 1) : Int32)) 31 11) = 59 then 0 else 1) : Int32))) fun (x10 : Int32) (M10 : im_M) => if x10 = 0 then k9 M10 else some (.inr (.inr (13, M10)))
noncomputable def f_HBars_understand_L19 (M3 : im_M) : Option ((im_M) ⊕ ((im_M) ⊕ (Int32 × im_M))) := if (im_i M3 31 11) < 19 then some (.inr (.inl M3)) else bs1 (lp (uc2 (f_HBars_understand_L31)) (0, M3)) (fun (M21 : im_M) => some (.inl (im_setI M21 31 11 ((im_i M21 31 11) - 2)))) (fun t => some (.inr (.inr t)))
noncomputable def f_HBars_understand (p0 : Int32) (M : im_M) : Option (Int32 × im_M) := bs1 (lp (uc1 (f_HBars_understand_L19)) (im_setI M 31 11 ((if ¬ (p0 - p0 / 2 * 2) = 0 then p0 else (p0 - 1)) : Int32))) (fun (M22 : im_M) => some ((-1), M22)) (fun t => some t)
theorem J_HBars_understand_d0 : decode J_HBars_understand.2.1 0 = .ok (.iload_n 1, 1) := by decide +kernel
theorem J_HBars_understand_d1 : decode J_HBars_understand.2.1 1 = .ok (.iconst 2, 1) := by decide +kernel
theorem J_HBars_understand_d2 : decode J_HBars_understand.2.1 2 = .ok (.irem, 1) := by decide +kernel
theorem J_HBars_understand_d3 : decode J_HBars_understand.2.1 3 = .ok (.ifCond .ne 9, 3) := by decide +kernel
theorem J_HBars_understand_d6 : decode J_HBars_understand.2.1 6 = .ok (.iload_n 1, 1) := by decide +kernel
theorem J_HBars_understand_d7 : decode J_HBars_understand.2.1 7 = .ok (.iconst 1, 1) := by decide +kernel
theorem J_HBars_understand_d8 : decode J_HBars_understand.2.1 8 = .ok (.isub, 1) := by decide +kernel
theorem J_HBars_understand_d9 : decode J_HBars_understand.2.1 9 = .ok (.goto 4, 3) := by decide +kernel
theorem J_HBars_understand_d12 : decode J_HBars_understand.2.1 12 = .ok (.iload_n 1, 1) := by decide +kernel
theorem J_HBars_understand_d13 : decode J_HBars_understand.2.1 13 = .ok (.istore_n 3, 1) := by decide +kernel
theorem J_HBars_understand_d14 : decode J_HBars_understand.2.1 14 = .ok (.aload_n 0, 1) := by decide +kernel
theorem J_HBars_understand_d15 : decode J_HBars_understand.2.1 15 = .ok (.iload_n 3, 1) := by decide +kernel
theorem J_HBars_understand_d16 : decode J_HBars_understand.2.1 16 = .ok (.putfield 115, 3) := by decide +kernel
theorem J_HBars_understand_d19 : decode J_HBars_understand.2.1 19 = .ok (.aload_n 0, 1) := by decide +kernel
theorem J_HBars_understand_d20 : decode J_HBars_understand.2.1 20 = .ok (.getfield 115, 3) := by decide +kernel
theorem J_HBars_understand_d23 : decode J_HBars_understand.2.1 23 = .ok (.bipush 19, 2) := by decide +kernel
theorem J_HBars_understand_d25 : decode J_HBars_understand.2.1 25 = .ok (.if_icmp .lt 106, 3) := by decide +kernel
theorem J_HBars_understand_d28 : decode J_HBars_understand.2.1 28 = .ok (.iconst 0, 1) := by decide +kernel
theorem J_HBars_understand_d29 : decode J_HBars_understand.2.1 29 = .ok (.istore 4, 2) := by decide +kernel
theorem J_HBars_understand_d31 : decode J_HBars_understand.2.1 31 = .ok (.iload 4, 2) := by decide +kernel
theorem J_HBars_understand_d33 : decode J_HBars_understand.2.1 33 = .ok (.iconst 2, 1) := by decide +kernel
theorem J_HBars_understand_d34 : decode J_HBars_understand.2.1 34 = .ok (.if_icmp .ge 84, 3) := by decide +kernel
theorem J_HBars_understand_d37 : decode J_HBars_understand.2.1 37 = .ok (.aload_n 0, 1) := by decide +kernel
theorem J_HBars_understand_d38 : decode J_HBars_understand.2.1 38 = .ok (.iload 4, 2) := by decide +kernel
theorem J_HBars_understand_d40 : decode J_HBars_understand.2.1 40 = .ok (.iconst 1, 1) := by decide +kernel
theorem J_HBars_understand_d41 : decode J_HBars_understand.2.1 41 = .ok (.if_icmp .ne 7, 3) := by decide +kernel
theorem J_HBars_understand_d44 : decode J_HBars_understand.2.1 44 = .ok (.iconst 1, 1) := by decide +kernel
theorem J_HBars_understand_d45 : decode J_HBars_understand.2.1 45 = .ok (.goto 4, 3) := by decide +kernel
theorem J_HBars_understand_d48 : decode J_HBars_understand.2.1 48 = .ok (.iconst 0, 1) := by decide +kernel
theorem J_HBars_understand_d49 : decode J_HBars_understand.2.1 49 = .ok (.putfield 118, 3) := by decide +kernel
theorem J_HBars_understand_d52 : decode J_HBars_understand.2.1 52 = .ok (.aload_n 0, 1) := by decide +kernel
theorem J_HBars_understand_d53 : decode J_HBars_understand.2.1 53 = .ok (.aload_n 0, 1) := by decide +kernel
theorem J_HBars_understand_d54 : decode J_HBars_understand.2.1 54 = .ok (.getfield 115, 3) := by decide +kernel
theorem J_HBars_understand_d57 : decode J_HBars_understand.2.1 57 = .ok (.bipush 59, 2) := by decide +kernel
theorem J_HBars_understand_d59 : decode J_HBars_understand.2.1 59 = .ok (.if_icmp .ne 7, 3) := by decide +kernel
theorem J_HBars_understand_d62 : decode J_HBars_understand.2.1 62 = .ok (.iconst 1, 1) := by decide +kernel
theorem J_HBars_understand_d63 : decode J_HBars_understand.2.1 63 = .ok (.goto 4, 3) := by decide +kernel
theorem J_HBars_understand_d66 : decode J_HBars_understand.2.1 66 = .ok (.iconst 0, 1) := by decide +kernel
theorem J_HBars_understand_d67 : decode J_HBars_understand.2.1 67 = .ok (.putfield 122, 3) := by decide +kernel
theorem J_HBars_understand_d70 : decode J_HBars_understand.2.1 70 = .ok (.aload_n 0, 1) := by decide +kernel
theorem J_HBars_understand_d71 : decode J_HBars_understand.2.1 71 = .ok (.getfield 122, 3) := by decide +kernel
theorem J_HBars_understand_d74 : decode J_HBars_understand.2.1 74 = .ok (.ifCond .eq 14, 3) := by decide +kernel
theorem J_HBars_understand_d77 : decode J_HBars_understand.2.1 77 = .ok (.aload_n 0, 1) := by decide +kernel
theorem J_HBars_understand_d78 : decode J_HBars_understand.2.1 78 = .ok (.aload_n 2, 1) := by decide +kernel
theorem J_HBars_understand_d79 : decode J_HBars_understand.2.1 79 = .ok (.invokevirtual 125, 3) := by decide +kernel
theorem J_HBars_understand_d82 : decode J_HBars_understand.2.1 82 = .ok (.ifCond .eq 6, 3) := by decide +kernel
theorem J_HBars_understand_d85 : decode J_HBars_understand.2.1 85 = .ok (.bipush 13, 2) := by decide +kernel
theorem J_HBars_understand_d87 : decode J_HBars_understand.2.1 87 = .ok (.ireturn, 1) := by decide +kernel
theorem J_HBars_understand_d88 : decode J_HBars_understand.2.1 88 = .ok (.aload_n 0, 1) := by decide +kernel
theorem J_HBars_understand_d89 : decode J_HBars_understand.2.1 89 = .ok (.getfield 115, 3) := by decide +kernel
theorem J_HBars_understand_d92 : decode J_HBars_understand.2.1 92 = .ok (.bipush 6, 2) := by decide +kernel
theorem J_HBars_understand_d94 : decode J_HBars_understand.2.1 94 = .ok (.irem, 1) := by decide +kernel
theorem J_HBars_understand_d95 : decode J_HBars_understand.2.1 95 = .ok (.iconst 1, 1) := by decide +kernel
theorem J_HBars_understand_d96 : decode J_HBars_understand.2.1 96 = .ok (.if_icmp .ne 16, 3) := by decide +kernel
theorem J_HBars_understand_d99 : decode J_HBars_understand.2.1 99 = .ok (.aload_n 0, 1) := by decide +kernel
theorem J_HBars_understand_d100 : decode J_HBars_understand.2.1 100 = .ok (.aload_n 2, 1) := by decide +kernel
theorem J_HBars_understand_d101 : decode J_HBars_understand.2.1 101 = .ok (.invokevirtual 129, 3) := by decide +kernel
theorem J_HBars_understand_d104 : decode J_HBars_understand.2.1 104 = .ok (.ifCond .eq 8, 3) := by decide +kernel
theorem J_HBars_understand_d107 : decode J_HBars_understand.2.1 107 = .ok (.aload_n 0, 1) := by decide +kernel
theorem J_HBars_understand_d108 : decode J_HBars_understand.2.1 108 = .ok (.getfield 132, 3) := by decide +kernel
theorem J_HBars_understand_d111 : decode J_HBars_understand.2.1 111 = .ok (.ireturn, 1) := by decide +kernel
theorem J_HBars_understand_d112 : decode J_HBars_understand.2.1 112 = .ok (.iinc 4 1, 3) := by decide +kernel
theorem J_HBars_understand_d115 : decode J_HBars_understand.2.1 115 = .ok (.goto (-84), 3) := by decide +kernel
theorem J_HBars_understand_d118 : decode J_HBars_understand.2.1 118 = .ok (.aload_n 0, 1) := by decide +kernel
theorem J_HBars_understand_d119 : decode J_HBars_understand.2.1 119 = .ok (.dup, 1) := by decide +kernel
theorem J_HBars_understand_d120 : decode J_HBars_understand.2.1 120 = .ok (.getfield 115, 3) := by decide +kernel
theorem J_HBars_understand_d123 : decode J_HBars_understand.2.1 123 = .ok (.iconst 2, 1) := by decide +kernel
theorem J_HBars_understand_d124 : decode J_HBars_understand.2.1 124 = .ok (.isub, 1) := by decide +kernel
theorem J_HBars_understand_d125 : decode J_HBars_understand.2.1 125 = .ok (.putfield 115, 3) := by decide +kernel
theorem J_HBars_understand_d128 : decode J_HBars_understand.2.1 128 = .ok (.goto (-109), 3) := by decide +kernel
theorem J_HBars_understand_d131 : decode J_HBars_understand.2.1 131 = .ok (.iconst (-1), 1) := by decide +kernel
theorem J_HBars_understand_d132 : decode J_HBars_understand.2.1 132 = .ok (.ireturn, 1) := by decide +kernel
theorem f_HBars_understand_ok {L : Nat} {xs : Nat → Int32} {dep : Nat} {w : Bool} {p0 : Int32} {M : im_M} {Q : Int32 × im_M → Prop} (hM : lw_S w M) (h : ed (f_HBars_understand p0 M) Q) : ia (tb_G L xs) (dep + 4) J_HBars_understand (rwI w Q) (0, lv_args 0 [.ref 31, .int p0, .ref 68], [], M) := by
  have hS : im_St (tb_G L xs) (dep + 4) J_HBars_understand (ia (tb_G L xs) (dep + 4) J_HBars_understand (rwI w Q)) := ia_St
  unfold f_HBars_understand at h
  have l0 : im_lk (lv_args 0 [.ref 31, .int p0, .ref 68]) 0 = some (.ref 31) := rfl
  have l1 : im_lk (lv_args 0 [.ref 31, .int p0, .ref 68]) 1 = some (.int p0) := rfl
  have l2 : im_lk (lv_args 0 [.ref 31, .int p0, .ref 68]) 2 = some (.ref 68) := rfl
  refine iq_iload_n hS 1 J_HBars_understand_d0 l1 rfl ?_
  refine iq_iconst hS 2 J_HBars_understand_d1 (v := 2) (by decide +kernel) rfl ?_
  refine iq_irem hS 3 J_HBars_understand_d2 (by decide) rfl ?_
  have J1 : ∀ (z2 : Int32) (L' : List (Nat × Value)), z2 = ((if ¬ (p0 - p0 / 2 * 2) = 0 then p0 else (p0 - 1)) : Int32) → im_lk L' 0 = some (.ref 31) → im_lk L' 2 = some (.ref 68) → ia (tb_G L xs) (dep + 4) J_HBars_understand (rwI w Q) (13, L', [.int z2], M) := by
    intro z2 L' e3 l4 l5
    subst e3
    refine iq_istore_n hS 14 J_HBars_understand_d13 (by decide) rfl ?_
    refine iq_aload_n hS 15 J_HBars_understand_d14 (lk_1r l4 (by decide)) rfl ?_
    refine iq_iload_n hS 16 J_HBars_understand_d15 lk_1s rfl ?_
    refine iq_putI hS 19 J_HBars_understand_d16 lf_0_115 (Or.inl rfl) rfl (ka_31 hM) rfl ?_
    obtain ⟨Q6, hQ6, hR6, h⟩ := bs1_ed h
    have K6 : ∀ (M7 : im_M) (L' : List (Nat × Value)), lw_S w M7 → Q6 (.inl M7) → ia (tb_G L xs) (dep + 4) J_HBars_understand (rwI w Q) (131, L', [], M7) := by
      intro M7 L' hM7  h
      replace h := hQ6 _ h
      refine iq_iconst hS 132 J_HBars_understand_d131 (v := (-1)) (by decide +kernel) rfl ?_
      exact iq_iret J_HBars_understand_d132 rfl rfl ⟨_, rfl, hM7, ed_some h⟩
    obtain ⟨r6, hr6, hq6⟩ := h
    obtain ⟨n6, hn6⟩ := lp_n hr6
    have I6 : ∀ (n : Nat)  (M8 : im_M) (L' : List (Nat × Value)), lw_S w M8 → im_lk L' 0 = some (.ref 31) → im_lk L' 2 = some (.ref 68) → lpn (uc1 (f_HBars_understand_L19)) n M8 = some r6 → ia (tb_G L xs) (dep + 4) J_HBars_understand (rwI w Q) (19, L', [], M8) := by
      intro n
      induction n with
      | zero => intro  M8 L' hM8 l9 l10 hn; exact (lpn_0 hn).elim
      | succ n ih =>
        intro  M8 L' hM8 l9 l10 hn
        have h := lpn_ed1 hn
        unfold f_HBars_understand_L19 at h
        refine iq_aload_n hS 20 J_HBars_understand_d19 l9 rfl ?_
        refine iq_getI hS 23 J_HBars_understand_d20 lf_0_115 (Or.inl rfl) (ka_31 hM8) rfl ?_
        refine iq_bipush hS 25 J_HBars_understand_d23 (v := 19) (by decide +kernel) rfl ?_
        refine iq_icmp_lt hS 28 J_HBars_understand_d25 (t := 131) rfl (fun q25 => ?_) rfl (fun q25 => ?_)
        · replace h := ed_pos q25 h
          exact K6 _ _ hM8  (lq_r h hq6)
        · replace h := ed_neg q25 h
          refine iq_iconst hS 29 J_HBars_understand_d28 (v := 0) (by decide +kernel) rfl ?_
          refine iq_istore hS 31 J_HBars_understand_d29 (by decide) rfl ?_
          obtain ⟨Q11, hQ11, hR11, h⟩ := bs1_ed h
          have K11 : ∀ (M12 : im_M) (L' : List (Nat × Value)), lw_S w M12 → im_lk L' 0 = some (.ref 31) → im_lk L' 2 = some (.ref 68) → Q11 (.inl M12) → ia (tb_G L xs) (dep + 4) J_HBars_understand (rwI w Q) (118, L', [], M12) := by
            intro M12 L' hM12 l13 l14 h
            replace h := hQ11 _ h
            refine iq_aload_n hS 119 J_HBars_understand_d118 l13 rfl ?_
            refine iq_dup hS 120 J_HBars_understand_d119 rfl rfl ?_
            refine iq_getI hS 123 J_HBars_understand_d120 lf_0_115 (Or.inl rfl) (ka_31 hM12) rfl ?_
            refine iq_iconst hS 124 J_HBars_understand_d123 (v := 2) (by decide +kernel) rfl ?_
            refine iq_isub hS 125 J_HBars_understand_d124 rfl ?_
            refine iq_putI hS 128 J_HBars_understand_d125 lf_0_115 (Or.inl rfl) rfl (ka_31 hM12) rfl ?_
            refine iq_goto hS J_HBars_understand_d128 (t := 19) rfl ?_
            exact ih  _ _ hM12 l13 l14 (lq_l h)
          obtain ⟨r11, hr11, hq11⟩ := h
          obtain ⟨n11, hn11⟩ := lp_n hr11
          have I11 : ∀ (n : Nat) (x15 : Int32) (M16 : im_M) (L' : List (Nat × Value)), lw_S w M16 → im_lk L' 0 = some (.ref 31) → im_lk L' 2 = some (.ref 68) → im_lk L' 4 = some (.int x15) → lpn (uc2 (f_HBars_understand_L31)) n (x15, M16) = some r11 → ia (tb_G L xs) (dep + 4) J_HBars_understand (rwI w Q) (31, L', [], M16) := by
            intro n
            induction n with
            | zero => intro x15 M16 L' hM16 l17 l18 l19 hn; exact (lpn_0 hn).elim
            | succ n ih =>
              intro x15 M16 L' hM16 l17 l18 l19 hn
              have h := lpn_ed2 hn
              unfold f_HBars_understand_L31 at h
              refine iq_iload hS 33 J_HBars_understand_d31 l19 rfl ?_
              refine iq_iconst hS 34 J_HBars_understand_d33 (v := 2) (by decide +kernel) rfl ?_
              refine iq_icmp_ge hS 37 J_HBars_understand_d34 (t := 118) rfl (fun q34 => ?_) rfl (fun q34 => ?_)
              · replace h := ed_pos q34 h
                exact K11 _ _ hM16 l17 l18 (lq_r h hq11)
              · replace h := ed_neg q34 h
                refine iq_aload_n hS 38 J_HBars_understand_d37 l17 rfl ?_
                refine iq_iload hS 40 J_HBars_understand_d38 l19 rfl ?_
                refine iq_iconst hS 41 J_HBars_understand_d40 (v := 1) (by decide +kernel) rfl ?_
                have J20 : ∀ (z21 : Int32) (L' : List (Nat × Value)), z21 = ((if ¬ x15 = 1 then 0 else 1) : Int32) → im_lk L' 0 = some (.ref 31) → im_lk L' 2 = some (.ref 68) → im_lk L' 4 = some (.int x15) → ia (tb_G L xs) (dep + 4) J_HBars_understand (rwI w Q) (49, L', [.int z21, .ref 31], M16) := by
                  intro z21 L' e22 l23 l24 l25
                  subst e22
                  obtain ⟨g49, h⟩ := ed_gd h
                  refine iq_putZ hS 52 J_HBars_understand_d49 lf_0_118 (Or.inl rfl) rfl (ka_31 hM16) g49 rfl ?_
                  refine iq_aload_n hS 53 J_HBars_understand_d52 l23 rfl ?_
                  refine iq_aload_n hS 54 J_HBars_understand_d53 l23 rfl ?_
                  refine iq_getI hS 57 J_HBars_understand_d54 lf_0_115 (Or.inl rfl) (ka_31 hM16) rfl ?_
                  refine iq_bipush hS 59 J_HBars_understand_d57 (v := 59) (by decide +kernel) rfl ?_
                  have J26 : ∀ (z27 : Int32) (L' : List (Nat × Value)), z27 = ((if ¬ (im_i (im_setI M16 31 4 ((if ¬ x15 = 1 then 0 else 1) : Int32)) 31 11) = 59 then 0 else 1) : Int32) → im_lk L' 0 = some (.ref 31) → im_lk L' 2 = some (.ref 68) → im_lk L' 4 = some (.int x15) → ia (tb_G L xs) (dep + 4) J_HBars_understand (rwI w Q) (67, L', [.int z27, .ref 31], (im_setI M16 31 4 ((if ¬ x15 = 1 then 0 else 1) : Int32))) := by
                    intro z27 L' e28 l29 l30 l31
                    subst e28
                    obtain ⟨g67, h⟩ := ed_gd h
                    refine iq_putZ hS 70 J_HBars_understand_d67 lf_0_122 (Or.inl rfl) rfl (ka_31 hM16) g67 rfl ?_
                    refine iq_aload_n hS 71 J_HBars_understand_d70 l29 rfl ?_
                    refine iq_getI hS 74 J_HBars_understand_d71 lf_0_122 (Or.inr rfl) (ka_31 hM16) rfl ?_
                    obtain ⟨k32, Q32, hQ32, hk32, h⟩ := jn1_ed h
                    have J32 : ∀ (M34 : im_M) (L' : List (Nat × Value)), lw_S w M34 → im_lk L' 0 = some (.ref 31) → im_lk L' 2 = some (.ref 68) → im_lk L' 4 = some (.int x15) → Q32 M34 → ia (tb_G L xs) (dep + 4) J_HBars_understand (rwI w Q) (88, L', [], M34) := by
                      intro M34 L' hM34 l35 l36 l37 h
                      replace h := hQ32 _ h
                      refine iq_aload_n hS 89 J_HBars_understand_d88 l35 rfl ?_
                      refine iq_getI hS 92 J_HBars_understand_d89 lf_0_115 (Or.inl rfl) (ka_31 hM34) rfl ?_
                      refine iq_bipush hS 94 J_HBars_understand_d92 (v := 6) (by decide +kernel) rfl ?_
                      refine iq_irem hS 95 J_HBars_understand_d94 (by decide) rfl ?_
                      refine iq_iconst hS 96 J_HBars_understand_d95 (v := 1) (by decide +kernel) rfl ?_
                      obtain ⟨k38, Q38, hQ38, hk38, h⟩ := jn1_ed h
                      have J38 : ∀ (M40 : im_M) (L' : List (Nat × Value)), lw_S w M40 → im_lk L' 0 = some (.ref 31) → im_lk L' 2 = some (.ref 68) → im_lk L' 4 = some (.int x15) → Q38 M40 → ia (tb_G L xs) (dep + 4) J_HBars_understand (rwI w Q) (112, L', [], M40) := by
                        intro M40 L' hM40 l41 l42 l43 h
                        replace h := hQ38 _ h
                        refine iq_iincv hS 115 J_HBars_understand_d112 (c := 1) (by decide +kernel) l43 (by decide) rfl ?_
                        refine iq_goto hS J_HBars_understand_d115 (t := 31) rfl ?_
                        exact ih _ _ _ hM40 (lk_1r l41 (by decide)) (lk_1r l42 (by decide)) lk_1s (lq_l h)
                      refine iq_icmp_ne hS 99 J_HBars_understand_d96 (t := 112) rfl (fun q96 => ?_) rfl (fun q96 => ?_)
                      · replace h := ed_pos q96 h
                        exact J38 _ _ hM34 l35 l36 l37 (hk38 _ h)
                      · replace h := ed_neg q96 h
                        refine iq_aload_n hS 100 J_HBars_understand_d99 l35 rfl ?_
                        refine iq_aload_n hS 101 J_HBars_understand_d100 l36 rfl ?_
                        obtain ⟨Q39, hQ39, h⟩ := bd2_ed h
                        refine iq_cwI hS 104 J_HBars_understand_d101 rfl (pr_inst (vs := [_]) lc_0_129 lT_251 rfl rfl (by decide) (by decide) rfl (Nat.le_of_ble_eq_true rfl) (Nat.le_of_ble_eq_true rfl) (fun _ => Or.inl (pr_b (ka_31 hM34) (by decide) rfl))) (f_HBars_readSymbols_ok (dep := dep + 0) hM34 h) rfl ?_
                        intro x39 M39 hM39 h
                        replace h := hQ39 _ _ h
                        refine iq_if_eq hS 107 J_HBars_understand_d104 (t := 112) rfl (fun q104 => ?_) rfl (fun q104 => ?_)
                        · replace h := ed_pos q104 h
                          exact J38 _ _ hM39 l35 l36 l37 (hk38 _ h)
                        · replace h := ed_neg q104 h
                          refine iq_aload_n hS 108 J_HBars_understand_d107 l35 rfl ?_
                          refine iq_getI hS 111 J_HBars_understand_d108 lf_0_132 (Or.inl rfl) (ka_31 hM39) rfl ?_
                          exact iq_iret J_HBars_understand_d111 rfl rfl ⟨_, rfl, hM39, ed_some (hR6 _ (lq_r (hR11 _ (lq_r h hq11)) hq6))⟩
                    refine iq_if_eq hS 77 J_HBars_understand_d74 (t := 88) rfl (fun q74 => ?_) rfl (fun q74 => ?_)
                    · replace h := ed_pos q74 h
                      exact J32 _ _ hM16 l29 l30 l31 (hk32 _ h)
                    · replace h := ed_neg q74 h
                      refine iq_aload_n hS 78 J_HBars_understand_d77 l29 rfl ?_
                      refine iq_aload_n hS 79 J_HBars_understand_d78 l30 rfl ?_
                      obtain ⟨Q33, hQ33, h⟩ := bd2_ed h
                      refine iq_cwI hS 82 J_HBars_understand_d79 rfl (pr_inst (vs := [_]) lc_0_125 lT_244 rfl rfl (by decide) (by decide) rfl (Nat.le_of_ble_eq_true rfl) (Nat.le_of_ble_eq_true rfl) (fun _ => Or.inl (pr_b (ka_31 hM16) (by decide) rfl))) (f_HBars_readFigures_ok (dep := dep + 0) hM16 h) rfl ?_
                      intro x33 M33 hM33 h
                      replace h := hQ33 _ _ h
                      refine iq_if_eq hS 85 J_HBars_understand_d82 (t := 88) rfl (fun q82 => ?_) rfl (fun q82 => ?_)
                      · replace h := ed_pos q82 h
                        exact J32 _ _ hM33 l29 l30 l31 (hk32 _ h)
                      · replace h := ed_neg q82 h
                        refine iq_bipush hS 87 J_HBars_understand_d85 (v := 13) (by decide +kernel) rfl ?_
                        exact iq_iret J_HBars_understand_d87 rfl rfl ⟨_, rfl, hM33, ed_some (hR6 _ (lq_r (hR11 _ (lq_r h hq11)) hq6))⟩
                  refine iq_icmp_ne hS 62 J_HBars_understand_d59 (t := 66) rfl (fun q59 => ?_) rfl (fun q59 => ?_)
                  · refine iq_iconst hS 67 J_HBars_understand_d66 (v := 0) (by decide +kernel) rfl ?_
                    exact J26 _ _ (by rw [if_pos q59]) l23 l24 l25
                  · refine iq_iconst hS 63 J_HBars_understand_d62 (v := 1) (by decide +kernel) rfl ?_
                    refine iq_goto hS J_HBars_understand_d63 (t := 67) rfl ?_
                    exact J26 _ _ (by rw [if_neg q59]) l23 l24 l25
                refine iq_icmp_ne hS 44 J_HBars_understand_d41 (t := 48) rfl (fun q41 => ?_) rfl (fun q41 => ?_)
                · refine iq_iconst hS 49 J_HBars_understand_d48 (v := 0) (by decide +kernel) rfl ?_
                  exact J20 _ _ (by rw [if_pos q41]) l17 l18 l19
                · refine iq_iconst hS 45 J_HBars_understand_d44 (v := 1) (by decide +kernel) rfl ?_
                  refine iq_goto hS J_HBars_understand_d45 (t := 49) rfl ?_
                  exact J20 _ _ (by rw [if_neg q41]) l17 l18 l19
          exact I11 n11 _ _ _ hM8 (lk_1r l9 (by decide)) (lk_1r l10 (by decide)) lk_1s hn11
    exact I6 n6  _ _ hM (lk_1r l4 (by decide)) (lk_1r l5 (by decide)) hn6
  refine iq_if_ne hS 6 J_HBars_understand_d3 (t := 12) rfl (fun q3 => ?_) rfl (fun q3 => ?_)
  · refine iq_iload_n hS 13 J_HBars_understand_d12 l1 rfl ?_
    exact J1 _ _ (by rw [if_pos q3]) l0 l2
  · refine iq_iload_n hS 7 J_HBars_understand_d6 l1 rfl ?_
    refine iq_iconst hS 8 J_HBars_understand_d7 (v := 1) (by decide +kernel) rfl ?_
    refine iq_isub hS 9 J_HBars_understand_d8 rfl ?_
    refine iq_goto hS J_HBars_understand_d9 (t := 13) rfl ?_
    exact J1 _ _ (by rw [if_neg q3]) l0 l2
noncomputable def f_H_bars (w : Bool) (p0 : Int32) (p1 : Int32) (p2 : Int32) (M : im_M) : Option (Int32 × im_M) := bd1 (f_HSheet_has p0 p1 M) fun (x1 : Int32) => if ¬ x1 = 0 then bd1 (f_H_forgetReading M) fun (M2 : im_M) => bd1 (f_HSheet_isDark w p0 p1 M2) fun (x3 : Int32) => if ¬ x3 = 0 then bd2 (f_HSheet_takeRuns w p0 p1 p2 M2) fun (x4 : Int32) (M4 : im_M) => bd2 (f_HBars_understand x4 M4) fun (x5 : Int32) (M5 : im_M) => if ¬ x5 = (-1) then gd (inb 0 7) <| gd (inb 5 7) <| some (x5, (im_setI (im_setI (im_setI M5 67 (Int32.toNatClampNeg 0) ((if (im_i M5 31 3) = 0 then 1 else 2) : Int32)) 67 (Int32.toNatClampNeg 5) ((if (im_i (im_setI M5 67 (Int32.toNatClampNeg 0) ((if (im_i M5 31 3) = 0 then 1 else 2) : Int32)) 31 4) = 0 then 0 else 1) : Int32)) 0 12 x5)) else some ((-1), M5) else some ((-1), M2) else none
theorem J_H_bars_d0 : decode J_H_bars.2.1 0 = .ok (.aload_n 0, 1) := by decide +kernel
theorem J_H_bars_d1 : decode J_H_bars.2.1 1 = .ok (.getfield 37, 3) := by decide +kernel
theorem J_H_bars_d4 : decode J_H_bars.2.1 4 = .ok (.iload_n 1, 1) := by decide +kernel
theorem J_H_bars_d5 : decode J_H_bars.2.1 5 = .ok (.iload_n 2, 1) := by decide +kernel
theorem J_H_bars_d6 : decode J_H_bars.2.1 6 = .ok (.invokevirtual 182, 3) := by decide +kernel
theorem J_H_bars_d9 : decode J_H_bars.2.1 9 = .ok (.ifCond .ne 11, 3) := by decide +kernel
theorem J_H_bars_d20 : decode J_H_bars.2.1 20 = .ok (.aload_n 0, 1) := by decide +kernel
theorem J_H_bars_d21 : decode J_H_bars.2.1 21 = .ok (.invokevirtual 200, 3) := by decide +kernel
theorem J_H_bars_d24 : decode J_H_bars.2.1 24 = .ok (.aload_n 0, 1) := by decide +kernel
theorem J_H_bars_d25 : decode J_H_bars.2.1 25 = .ok (.getfield 37, 3) := by decide +kernel
theorem J_H_bars_d28 : decode J_H_bars.2.1 28 = .ok (.iload_n 1, 1) := by decide +kernel
theorem J_H_bars_d29 : decode J_H_bars.2.1 29 = .ok (.iload_n 2, 1) := by decide +kernel
theorem J_H_bars_d30 : decode J_H_bars.2.1 30 = .ok (.invokevirtual 234, 3) := by decide +kernel
theorem J_H_bars_d33 : decode J_H_bars.2.1 33 = .ok (.ifCond .ne 5, 3) := by decide +kernel
theorem J_H_bars_d36 : decode J_H_bars.2.1 36 = .ok (.iconst (-1), 1) := by decide +kernel
theorem J_H_bars_d37 : decode J_H_bars.2.1 37 = .ok (.ireturn, 1) := by decide +kernel
theorem J_H_bars_d38 : decode J_H_bars.2.1 38 = .ok (.aload_n 0, 1) := by decide +kernel
theorem J_H_bars_d39 : decode J_H_bars.2.1 39 = .ok (.getfield 44, 3) := by decide +kernel
theorem J_H_bars_d42 : decode J_H_bars.2.1 42 = .ok (.aload_n 0, 1) := by decide +kernel
theorem J_H_bars_d43 : decode J_H_bars.2.1 43 = .ok (.getfield 37, 3) := by decide +kernel
theorem J_H_bars_d46 : decode J_H_bars.2.1 46 = .ok (.iload_n 1, 1) := by decide +kernel
theorem J_H_bars_d47 : decode J_H_bars.2.1 47 = .ok (.iload_n 2, 1) := by decide +kernel
theorem J_H_bars_d48 : decode J_H_bars.2.1 48 = .ok (.iload_n 3, 1) := by decide +kernel
theorem J_H_bars_d49 : decode J_H_bars.2.1 49 = .ok (.aload_n 0, 1) := by decide +kernel
theorem J_H_bars_d50 : decode J_H_bars.2.1 50 = .ok (.getfield 44, 3) := by decide +kernel
theorem J_H_bars_d53 : decode J_H_bars.2.1 53 = .ok (.getfield 186, 3) := by decide +kernel
theorem J_H_bars_d56 : decode J_H_bars.2.1 56 = .ok (.invokevirtual 189, 3) := by decide +kernel
theorem J_H_bars_d59 : decode J_H_bars.2.1 59 = .ok (.aload_n 0, 1) := by decide +kernel
theorem J_H_bars_d60 : decode J_H_bars.2.1 60 = .ok (.getfield 80, 3) := by decide +kernel
theorem J_H_bars_d63 : decode J_H_bars.2.1 63 = .ok (.invokevirtual 237, 3) := by decide +kernel
theorem J_H_bars_d66 : decode J_H_bars.2.1 66 = .ok (.istore 4, 2) := by decide +kernel
theorem J_H_bars_d68 : decode J_H_bars.2.1 68 = .ok (.iload 4, 2) := by decide +kernel
theorem J_H_bars_d70 : decode J_H_bars.2.1 70 = .ok (.iconst (-1), 1) := by decide +kernel
theorem J_H_bars_d71 : decode J_H_bars.2.1 71 = .ok (.if_icmp .ne 5, 3) := by decide +kernel
theorem J_H_bars_d74 : decode J_H_bars.2.1 74 = .ok (.iconst (-1), 1) := by decide +kernel
theorem J_H_bars_d75 : decode J_H_bars.2.1 75 = .ok (.ireturn, 1) := by decide +kernel
theorem J_H_bars_d76 : decode J_H_bars.2.1 76 = .ok (.aload_n 0, 1) := by decide +kernel
theorem J_H_bars_d77 : decode J_H_bars.2.1 77 = .ok (.getfield 77, 3) := by decide +kernel
theorem J_H_bars_d80 : decode J_H_bars.2.1 80 = .ok (.iconst 0, 1) := by decide +kernel
theorem J_H_bars_d81 : decode J_H_bars.2.1 81 = .ok (.aload_n 0, 1) := by decide +kernel
theorem J_H_bars_d82 : decode J_H_bars.2.1 82 = .ok (.getfield 44, 3) := by decide +kernel
theorem J_H_bars_d85 : decode J_H_bars.2.1 85 = .ok (.getfield 240, 3) := by decide +kernel
theorem J_H_bars_d88 : decode J_H_bars.2.1 88 = .ok (.ifCond .eq 7, 3) := by decide +kernel
theorem J_H_bars_d91 : decode J_H_bars.2.1 91 = .ok (.iconst 2, 1) := by decide +kernel
theorem J_H_bars_d92 : decode J_H_bars.2.1 92 = .ok (.goto 4, 3) := by decide +kernel
theorem J_H_bars_d95 : decode J_H_bars.2.1 95 = .ok (.iconst 1, 1) := by decide +kernel
theorem J_H_bars_d96 : decode J_H_bars.2.1 96 = .ok (.iastore, 1) := by decide +kernel
theorem J_H_bars_d97 : decode J_H_bars.2.1 97 = .ok (.aload_n 0, 1) := by decide +kernel
theorem J_H_bars_d98 : decode J_H_bars.2.1 98 = .ok (.getfield 77, 3) := by decide +kernel
theorem J_H_bars_d101 : decode J_H_bars.2.1 101 = .ok (.iconst 5, 1) := by decide +kernel
theorem J_H_bars_d102 : decode J_H_bars.2.1 102 = .ok (.aload_n 0, 1) := by decide +kernel
theorem J_H_bars_d103 : decode J_H_bars.2.1 103 = .ok (.getfield 44, 3) := by decide +kernel
theorem J_H_bars_d106 : decode J_H_bars.2.1 106 = .ok (.getfield 244, 3) := by decide +kernel
theorem J_H_bars_d109 : decode J_H_bars.2.1 109 = .ok (.ifCond .eq 7, 3) := by decide +kernel
theorem J_H_bars_d112 : decode J_H_bars.2.1 112 = .ok (.iconst 1, 1) := by decide +kernel
theorem J_H_bars_d113 : decode J_H_bars.2.1 113 = .ok (.goto 4, 3) := by decide +kernel
theorem J_H_bars_d116 : decode J_H_bars.2.1 116 = .ok (.iconst 0, 1) := by decide +kernel
theorem J_H_bars_d117 : decode J_H_bars.2.1 117 = .ok (.iastore, 1) := by decide +kernel
theorem J_H_bars_d118 : decode J_H_bars.2.1 118 = .ok (.aload_n 0, 1) := by decide +kernel
theorem J_H_bars_d119 : decode J_H_bars.2.1 119 = .ok (.iload 4, 2) := by decide +kernel
theorem J_H_bars_d121 : decode J_H_bars.2.1 121 = .ok (.putfield 231, 3) := by decide +kernel
theorem J_H_bars_d124 : decode J_H_bars.2.1 124 = .ok (.iload 4, 2) := by decide +kernel
theorem J_H_bars_d126 : decode J_H_bars.2.1 126 = .ok (.ireturn, 1) := by decide +kernel
theorem f_H_bars_ok {L : Nat} {xs : Nat → Int32} {dep : Nat} {w : Bool} {p0 : Int32} {p1 : Int32} {p2 : Int32} {M : im_M} {Q : Int32 × im_M → Prop} (hM : lw_S w M) (h : ed (f_H_bars w p0 p1 p2 M) Q) : ia (tb_G L xs) (dep + 5) J_H_bars (rwI w Q) (0, lv_args 0 [.ref 0, .int p0, .int p1, .int p2], [], M) := by
  have hS : im_St (tb_G L xs) (dep + 5) J_H_bars (ia (tb_G L xs) (dep + 5) J_H_bars (rwI w Q)) := ia_St
  unfold f_H_bars at h
  have l0 : im_lk (lv_args 0 [.ref 0, .int p0, .int p1, .int p2]) 0 = some (.ref 0) := rfl
  have l1 : im_lk (lv_args 0 [.ref 0, .int p0, .int p1, .int p2]) 1 = some (.int p0) := rfl
  have l2 : im_lk (lv_args 0 [.ref 0, .int p0, .int p1, .int p2]) 2 = some (.int p1) := rfl
  have l3 : im_lk (lv_args 0 [.ref 0, .int p0, .int p1, .int p2]) 3 = some (.int p2) := rfl
  refine iq_aload_n hS 1 J_H_bars_d0 l0 rfl ?_
  refine iq_getR hS 4 J_H_bars_d1 lf_11_37 (Or.inl ⟨_, rfl⟩) (ka_0 hM) (ra_0_3 hM) rfl ?_
  refine iq_iload_n hS 5 J_H_bars_d4 l1 rfl ?_
  refine iq_iload_n hS 6 J_H_bars_d5 l2 rfl ?_
  obtain ⟨Q1, hQ1, h⟩ := bd1_ed h
  refine iq_cpI hS 9 J_H_bars_d6 rfl (pr_inst (vs := [_, _]) lc_11_182 lT_198 rfl rfl (by decide) (by decide) rfl (Nat.le_of_ble_eq_true rfl) (Nat.le_of_ble_eq_true rfl) (fun _ => Or.inl (pr_b (ka_28 hM) (by decide) rfl))) (f_HSheet_has_ok (dep := dep + 4) hM h) rfl ?_
  intro x1 h
  replace h := hQ1 _ h
  refine iq_if_ne hS 12 J_H_bars_d9 (t := 20) rfl (fun q9 => ?_) rfl (fun q9 => ?_)
  · replace h := ed_pos q9 h
    refine iq_aload_n hS 21 J_H_bars_d20 l0 rfl ?_
    obtain ⟨Q2, hQ2, h⟩ := bd1_ed h
    refine iq_cwV hS 24 J_H_bars_d21 rfl (pr_inst (vs := []) lc_11_200 lT_219 rfl rfl (by decide) (by decide) rfl (Nat.le_of_ble_eq_true rfl) (Nat.le_of_ble_eq_true rfl) (fun _ => Or.inl (pr_b (ka_0 hM) (by decide) rfl))) (f_H_forgetReading_ok (dep := dep + 2) hM h) rfl ?_
    intro M2 hM2 h
    replace h := hQ2 _ h
    refine iq_aload_n hS 25 J_H_bars_d24 l0 rfl ?_
    refine iq_getR hS 28 J_H_bars_d25 lf_11_37 (Or.inl ⟨_, rfl⟩) (ka_0 hM2) (ra_0_3 hM2) rfl ?_
    refine iq_iload_n hS 29 J_H_bars_d28 l1 rfl ?_
    refine iq_iload_n hS 30 J_H_bars_d29 l2 rfl ?_
    obtain ⟨Q3, hQ3, h⟩ := bd1_ed h
    refine iq_cpI hS 33 J_H_bars_d30 rfl (pr_inst (vs := [_, _]) lc_11_234 lT_200 rfl rfl (by decide) (by decide) rfl (Nat.le_of_ble_eq_true rfl) (Nat.le_of_ble_eq_true rfl) (fun _ => Or.inl (pr_b (ka_28 hM2) (by decide) rfl))) (f_HSheet_isDark_ok (dep := dep + 4) hM2 h) rfl ?_
    intro x3 h
    replace h := hQ3 _ h
    refine iq_if_ne hS 36 J_H_bars_d33 (t := 38) rfl (fun q33 => ?_) rfl (fun q33 => ?_)
    · replace h := ed_pos q33 h
      refine iq_aload_n hS 39 J_H_bars_d38 l0 rfl ?_
      refine iq_getR hS 42 J_H_bars_d39 lf_11_44 (Or.inl ⟨_, rfl⟩) (ka_0 hM2) (ra_0_5 hM2) rfl ?_
      refine iq_aload_n hS 43 J_H_bars_d42 l0 rfl ?_
      refine iq_getR hS 46 J_H_bars_d43 lf_11_37 (Or.inl ⟨_, rfl⟩) (ka_0 hM2) (ra_0_3 hM2) rfl ?_
      refine iq_iload_n hS 47 J_H_bars_d46 l1 rfl ?_
      refine iq_iload_n hS 48 J_H_bars_d47 l2 rfl ?_
      refine iq_iload_n hS 49 J_H_bars_d48 l3 rfl ?_
      refine iq_aload_n hS 50 J_H_bars_d49 l0 rfl ?_
      refine iq_getR hS 53 J_H_bars_d50 lf_11_44 (Or.inl ⟨_, rfl⟩) (ka_0 hM2) (ra_0_5 hM2) rfl ?_
      refine iq_getR hS 56 J_H_bars_d53 lf_11_186 (Or.inr ⟨_, rfl⟩) (ka_31 hM2) (ra_31_0 hM2) rfl ?_
      obtain ⟨Q4, hQ4, h⟩ := bd2_ed h
      refine iq_cwI hS 59 J_H_bars_d56 rfl (pr_inst (vs := [_, _, _, _]) lc_11_189 lT_199 rfl rfl (by decide) (by decide) rfl (Nat.le_of_ble_eq_true rfl) (Nat.le_of_ble_eq_true rfl) (fun _ => Or.inl (pr_b (ka_28 hM2) (by decide) rfl))) (f_HSheet_takeRuns_ok (dep := dep + 3) hM2 h) rfl ?_
      intro x4 M4 hM4 h
      replace h := hQ4 _ _ h
      refine iq_aload_n hS 60 J_H_bars_d59 l0 rfl ?_
      refine iq_getR hS 63 J_H_bars_d60 lf_11_80 (Or.inr ⟨_, rfl⟩) (ka_0 hM4) (ra_0_11 hM4) rfl ?_
      obtain ⟨Q5, hQ5, h⟩ := bd2_ed h
      refine iq_cwI hS 66 J_H_bars_d63 rfl (pr_inst (vs := [_, _]) lc_11_237 lT_243 rfl rfl (by decide) (by decide) rfl (Nat.le_of_ble_eq_true rfl) (Nat.le_of_ble_eq_true rfl) (fun _ => Or.inl (pr_b (ka_31 hM4) (by decide) rfl))) (f_HBars_understand_ok (dep := dep + 0) hM4 h) rfl ?_
      intro x5 M5 hM5 h
      replace h := hQ5 _ _ h
      refine iq_istore hS 68 J_H_bars_d66 (by decide) rfl ?_
      refine iq_iload hS 70 J_H_bars_d68 lk_1s rfl ?_
      refine iq_iconst hS 71 J_H_bars_d70 (v := (-1)) (by decide +kernel) rfl ?_
      refine iq_icmp_ne hS 74 J_H_bars_d71 (t := 76) rfl (fun q71 => ?_) rfl (fun q71 => ?_)
      · replace h := ed_pos q71 h
        refine iq_aload_n hS 77 J_H_bars_d76 (lk_1r l0 (by decide)) rfl ?_
        refine iq_getR hS 80 J_H_bars_d77 lf_11_77 (Or.inr ⟨_, rfl⟩) (ka_0 hM5) (ra_0_10 hM5) rfl ?_
        refine iq_iconst hS 81 J_H_bars_d80 (v := 0) (by decide +kernel) rfl ?_
        refine iq_aload_n hS 82 J_H_bars_d81 (lk_1r l0 (by decide)) rfl ?_
        refine iq_getR hS 85 J_H_bars_d82 lf_11_44 (Or.inl ⟨_, rfl⟩) (ka_0 hM5) (ra_0_5 hM5) rfl ?_
        refine iq_getI hS 88 J_H_bars_d85 lf_11_240 (Or.inr rfl) (ka_31 hM5) rfl ?_
        have J6 : ∀ (z7 : Int32) (L' : List (Nat × Value)), z7 = ((if (im_i M5 31 3) = 0 then 1 else 2) : Int32) → im_lk L' 0 = some (.ref 0) → im_lk L' 4 = some (.int x5) → ia (tb_G L xs) (dep + 5) J_H_bars (rwI w Q) (96, L', [.int z7, .int 0, .ref 67], M5) := by
          intro z7 L' e8 l9 l10
          subst e8
          obtain ⟨g96, h⟩ := ed_gd h
          refine iq_iastore hS 97 J_H_bars_d96 ⟨(ka_67 hM5).1, (ka_67 hM5).2, g96.1, ix_lt (kl_67 hM5) g96.2⟩ rfl ?_
          refine iq_aload_n hS 98 J_H_bars_d97 l9 rfl ?_
          refine iq_getR hS 101 J_H_bars_d98 lf_11_77 (Or.inr ⟨_, rfl⟩) (ka_0 hM5) (ra_0_10 hM5) rfl ?_
          refine iq_iconst hS 102 J_H_bars_d101 (v := 5) (by decide +kernel) rfl ?_
          refine iq_aload_n hS 103 J_H_bars_d102 l9 rfl ?_
          refine iq_getR hS 106 J_H_bars_d103 lf_11_44 (Or.inl ⟨_, rfl⟩) (ka_0 hM5) (ra_0_5 hM5) rfl ?_
          refine iq_getI hS 109 J_H_bars_d106 lf_11_244 (Or.inr rfl) (ka_31 hM5) rfl ?_
          have J11 : ∀ (z12 : Int32) (L' : List (Nat × Value)), z12 = ((if (im_i (im_setI M5 67 (Int32.toNatClampNeg 0) ((if (im_i M5 31 3) = 0 then 1 else 2) : Int32)) 31 4) = 0 then 0 else 1) : Int32) → im_lk L' 0 = some (.ref 0) → im_lk L' 4 = some (.int x5) → ia (tb_G L xs) (dep + 5) J_H_bars (rwI w Q) (117, L', [.int z12, .int 5, .ref 67], (im_setI M5 67 (Int32.toNatClampNeg 0) ((if (im_i M5 31 3) = 0 then 1 else 2) : Int32))) := by
            intro z12 L' e13 l14 l15
            subst e13
            obtain ⟨g117, h⟩ := ed_gd h
            refine iq_iastore hS 118 J_H_bars_d117 ⟨(ka_67 hM5).1, (ka_67 hM5).2, g117.1, ix_lt (kl_67 hM5) g117.2⟩ rfl ?_
            refine iq_aload_n hS 119 J_H_bars_d118 l14 rfl ?_
            refine iq_iload hS 121 J_H_bars_d119 l15 rfl ?_
            refine iq_putI hS 124 J_H_bars_d121 lf_11_231 (Or.inl rfl) rfl (ka_0 hM5) rfl ?_
            refine iq_iload hS 126 J_H_bars_d124 l15 rfl ?_
            exact iq_iret J_H_bars_d126 rfl rfl ⟨_, rfl, hM5, ed_some h⟩
          refine iq_if_eq hS 112 J_H_bars_d109 (t := 116) rfl (fun q109 => ?_) rfl (fun q109 => ?_)
          · refine iq_iconst hS 117 J_H_bars_d116 (v := 0) (by decide +kernel) rfl ?_
            exact J11 _ _ (by rw [if_pos q109]) l9 l10
          · refine iq_iconst hS 113 J_H_bars_d112 (v := 1) (by decide +kernel) rfl ?_
            refine iq_goto hS J_H_bars_d113 (t := 117) rfl ?_
            exact J11 _ _ (by rw [if_neg q109]) l9 l10
        refine iq_if_eq hS 91 J_H_bars_d88 (t := 95) rfl (fun q88 => ?_) rfl (fun q88 => ?_)
        · refine iq_iconst hS 96 J_H_bars_d95 (v := 1) (by decide +kernel) rfl ?_
          exact J6 _ _ (by rw [if_pos q88]) (lk_1r l0 (by decide)) lk_1s
        · refine iq_iconst hS 92 J_H_bars_d91 (v := 2) (by decide +kernel) rfl ?_
          refine iq_goto hS J_H_bars_d92 (t := 96) rfl ?_
          exact J6 _ _ (by rw [if_neg q88]) (lk_1r l0 (by decide)) lk_1s
      · replace h := ed_neg q71 h
        refine iq_iconst hS 75 J_H_bars_d74 (v := (-1)) (by decide +kernel) rfl ?_
        exact iq_iret J_H_bars_d75 rfl rfl ⟨_, rfl, hM5, ed_some h⟩
    · replace h := ed_neg q33 h
      refine iq_iconst hS 37 J_H_bars_d36 (v := (-1)) (by decide +kernel) rfl ?_
      exact iq_iret J_H_bars_d37 rfl rfl ⟨_, rfl, hM2, ed_some h⟩
  · replace h := ed_neg q9 h
    exact (ed_none h).elim
noncomputable def f_H_reading (p0 : Int32) (M : im_M) : Option (Int32) := if p0 < 0 then none else if p0 ≤ 6 then gd (inb p0 7) <| some (im_i M 67 (Int32.toNatClampNeg p0)) else none
theorem f_H_reading_ok {L : Nat} {xs : Nat → Int32} {dep : Nat} {w : Bool} {p0 : Int32} {M : im_M} {Q : Int32 → Prop} (hM : lw_S w M) (h : ed (f_H_reading p0 M) Q) : ia (tb_G L xs) dep J_H_reading (rpI M Q) (0, lv_args 0 [.ref 0, .int p0], [], M) := by
  have hS : im_St (tb_G L xs) dep J_H_reading (ia (tb_G L xs) dep J_H_reading (rpI M Q)) := ia_St
  unfold f_H_reading at h
  have l0 : im_lk (lv_args 0 [.ref 0, .int p0]) 0 = some (.ref 0) := rfl
  have l1 : im_lk (lv_args 0 [.ref 0, .int p0]) 1 = some (.int p0) := rfl
  refine iq_iload_n hS 1 J_H_reading_d0 l1 rfl ?_
  refine iq_if_lt hS 4 J_H_reading_d1 (t := 10) rfl (fun q1 => ?_) rfl (fun q1 => ?_)
  · replace h := ed_pos q1 h
    exact (ed_none h).elim
  · replace h := ed_neg q1 h
    refine iq_iload_n hS 5 J_H_reading_d4 l1 rfl ?_
    refine iq_bipush hS 7 J_H_reading_d5 (v := 6) (by decide +kernel) rfl ?_
    refine iq_icmp_le hS 10 J_H_reading_d7 (t := 18) rfl (fun q7 => ?_) rfl (fun q7 => ?_)
    · replace h := ed_pos q7 h
      refine iq_aload_n hS 19 J_H_reading_d18 l0 rfl ?_
      refine iq_getR hS 22 J_H_reading_d19 lf_11_77 (Or.inr ⟨_, rfl⟩) (ka_0 hM) (ra_0_10 hM) rfl ?_
      refine iq_iload_n hS 23 J_H_reading_d22 l1 rfl ?_
      obtain ⟨g23, h⟩ := ed_gd h
      refine iq_iaload hS 24 J_H_reading_d23 ⟨(ka_67 hM).1, (ka_67 hM).2, g23.1, ix_lt (kl_67 hM) g23.2⟩ rfl ?_
      exact iq_iret J_H_reading_d24 rfl rfl ⟨_, rfl, rfl, ed_some h⟩
    · replace h := ed_neg q7 h
      exact (ed_none h).elim
noncomputable def f_M_thrown (M : im_M) : Option (Int32) := some (im_i M 69 0)
theorem f_M_thrown_ok {L : Nat} {xs : Nat → Int32} {dep : Nat} {w : Bool} {M : im_M} {Q : Int32 → Prop} (hM : lw_S w M) (h : ed (f_M_thrown M) Q) : ia (tb_G L xs) dep J_M_thrown (rpI M Q) (0, lv_args 0 [.ref 69], [], M) := by
  have hS : im_St (tb_G L xs) dep J_M_thrown (ia (tb_G L xs) dep J_M_thrown (rpI M Q)) := ia_St
  unfold f_M_thrown at h
  have l0 : im_lk (lv_args 0 [.ref 69]) 0 = some (.ref 69) := rfl
  refine iq_aload_n hS 1 J_M_thrown_d0 l0 rfl ?_
  refine iq_getI hS 4 J_M_thrown_d1 lf_17_58 (Or.inl rfl) (ka_69 hM) rfl ?_
  exact iq_iret J_M_thrown_d4 rfl rfl ⟨_, rfl, rfl, ed_some h⟩
noncomputable def f_M_feed_L46 (v3 : Int32) (v4 : Int64) (x5 : Int32) (M6 : im_M) : Option ((Int32 × im_M) ⊕ (im_M)) := if v3 ≤ x5 then some (.inr M6) else gd (inb (im_i M6 69 2) 4096) <| some (.inl ((x5 + 1), (im_setI (im_setI M6 70 (Int32.toNatClampNeg (im_i M6 69 2)) (Int64.toInt32 ((v4 >>> (Int32.toInt64 ((8 : Int32) * x5) &&& 63)) &&& 255))) 69 2 ((im_i (im_setI M6 70 (Int32.toNatClampNeg (im_i M6 69 2)) (Int64.toInt32 ((v4 >>> (Int32.toInt64 ((8 : Int32) * x5) &&& 63)) &&& 255))) 69 2) + 1))))
noncomputable def f_M_feed (p0 : Int32) (p1 : Int64) (M : im_M) : Option (Int32 × im_M) := if (im_i (im_setI M 69 0 ((if p0 < 1 then 1 else (if p0 ≤ 8 then 0 else 1)) : Int32)) 69 0) ≤ 0 then if ((im_i (im_setI M 69 0 ((if p0 < 1 then 1 else (if p0 ≤ 8 then 0 else 1)) : Int32)) 69 2) + p0) ≤ 4096 then bd1 (lp (uc2 (f_M_feed_L46 p0 p1)) (0, (im_setI M 69 0 ((if p0 < 1 then 1 else (if p0 ≤ 8 then 0 else 1)) : Int32)))) fun (M7 : im_M) => some ((im_i M7 69 2), M7) else some ((-1), (im_setI M 69 0 ((if p0 < 1 then 1 else (if p0 ≤ 8 then 0 else 1)) : Int32))) else some (0, (im_setI M 69 0 ((if p0 < 1 then 1 else (if p0 ≤ 8 then 0 else 1)) : Int32)))
theorem f_M_feed_ok {L : Nat} {xs : Nat → Int32} {dep : Nat} {w : Bool} {p0 : Int32} {p1 : Int64} {M : im_M} {Q : Int32 × im_M → Prop} (hM : lw_S w M) (h : ed (f_M_feed p0 p1 M) Q) : ia (tb_G L xs) dep J_M_feed (rwI w Q) (0, lv_args 0 [.ref 69, .int p0, .long p1], [], M) := by
  have hS : im_St (tb_G L xs) dep J_M_feed (ia (tb_G L xs) dep J_M_feed (rwI w Q)) := ia_St
  unfold f_M_feed at h
  have l0 : im_lk (lv_args 0 [.ref 69, .int p0, .long p1]) 0 = some (.ref 69) := rfl
  have l1 : im_lk (lv_args 0 [.ref 69, .int p0, .long p1]) 1 = some (.int p0) := rfl
  have l2 : im_lk (lv_args 0 [.ref 69, .int p0, .long p1]) 2 = some (.long p1) := rfl
  refine iq_aload_n hS 1 J_M_feed_d0 l0 rfl ?_
  refine iq_iload_n hS 2 J_M_feed_d1 l1 rfl ?_
  refine iq_iconst hS 3 J_M_feed_d2 (v := 1) (by decide +kernel) rfl ?_
  have J1 : ∀ (z2 : Int32) (L' : List (Nat × Value)), z2 = ((if p0 < 1 then 1 else (if p0 ≤ 8 then 0 else 1)) : Int32) → im_lk L' 0 = some (.ref 69) → im_lk L' 1 = some (.int p0) → im_lk L' 2 = some (.long p1) → ia (tb_G L xs) dep J_M_feed (rwI w Q) (17, L', [.int z2, .ref 69], M) := by
    intro z2 L' e3 l4 l5 l6
    subst e3
    refine iq_putI hS 20 J_M_feed_d17 lf_17_58 (Or.inl rfl) rfl (ka_69 hM) rfl ?_
    refine iq_aload_n hS 21 J_M_feed_d20 l4 rfl ?_
    refine iq_getI hS 24 J_M_feed_d21 lf_17_58 (Or.inl rfl) (ka_69 hM) rfl ?_
    refine iq_if_le hS 27 J_M_feed_d24 (t := 29) rfl (fun q24 => ?_) rfl (fun q24 => ?_)
    · replace h := ed_pos q24 h
      refine iq_aload_n hS 30 J_M_feed_d29 l4 rfl ?_
      refine iq_getI hS 33 J_M_feed_d30 lf_17_61 (Or.inl rfl) (ka_69 hM) rfl ?_
      refine iq_iload_n hS 34 J_M_feed_d33 l5 rfl ?_
      refine iq_iadd hS 35 J_M_feed_d34 rfl ?_
      refine iq_sipush hS 38 J_M_feed_d35 (v := 4096) (by decide +kernel) rfl ?_
      refine iq_icmp_le hS 41 J_M_feed_d38 (t := 43) rfl (fun q38 => ?_) rfl (fun q38 => ?_)
      · replace h := ed_pos q38 h
        refine iq_iconst hS 44 J_M_feed_d43 (v := 0) (by decide +kernel) rfl ?_
        refine iq_istore hS 46 J_M_feed_d44 (by decide) rfl ?_
        obtain ⟨Q7, hQ7, h⟩ := bd1_ed h
        have K7 : ∀ (M8 : im_M) (L' : List (Nat × Value)), lw_S w M8 → im_lk L' 0 = some (.ref 69) → Q7 M8 → ia (tb_G L xs) dep J_M_feed (rwI w Q) (89, L', [], M8) := by
          intro M8 L' hM8 l9 h
          replace h := hQ7 _ h
          refine iq_aload_n hS 90 J_M_feed_d89 l9 rfl ?_
          refine iq_getI hS 93 J_M_feed_d90 lf_17_61 (Or.inl rfl) (ka_69 hM8) rfl ?_
          exact iq_iret J_M_feed_d93 rfl rfl ⟨_, rfl, hM8, ed_some h⟩
        obtain ⟨r7, hr7, hq7⟩ := h
        obtain ⟨n7, hn7⟩ := lp_n hr7
        have I7 : ∀ (n : Nat) (x10 : Int32) (M11 : im_M) (L' : List (Nat × Value)), lw_S w M11 → im_lk L' 0 = some (.ref 69) → im_lk L' 1 = some (.int p0) → im_lk L' 2 = some (.long p1) → im_lk L' 4 = some (.int x10) → lpn (uc2 (f_M_feed_L46 p0 p1)) n (x10, M11) = some r7 → ia (tb_G L xs) dep J_M_feed (rwI w Q) (46, L', [], M11) := by
          intro n
          induction n with
          | zero => intro x10 M11 L' hM11 l12 l13 l14 l15 hn; exact (lpn_0 hn).elim
          | succ n ih =>
            intro x10 M11 L' hM11 l12 l13 l14 l15 hn
            have h := lpn_ed2 hn
            unfold f_M_feed_L46 at h
            refine iq_iload hS 48 J_M_feed_d46 l15 rfl ?_
            refine iq_iload_n hS 49 J_M_feed_d48 l13 rfl ?_
            refine iq_icmp_ge hS 52 J_M_feed_d49 (t := 89) rfl (fun q49 => ?_) rfl (fun q49 => ?_)
            · replace h := ed_pos q49 h
              exact K7 _ _ hM11 l12 (lq_r h hq7)
            · replace h := ed_neg q49 h
              refine iq_aload_n hS 53 J_M_feed_d52 l12 rfl ?_
              refine iq_getR hS 56 J_M_feed_d53 lf_17_7 (Or.inr ⟨_, rfl⟩) (ka_69 hM11) (ra_69_1 hM11) rfl ?_
              refine iq_aload_n hS 57 J_M_feed_d56 l12 rfl ?_
              refine iq_getI hS 60 J_M_feed_d57 lf_17_61 (Or.inl rfl) (ka_69 hM11) rfl ?_
              refine iq_lload_n hS 61 J_M_feed_d60 l14 rfl ?_
              refine iq_bipush hS 63 J_M_feed_d61 (v := 8) (by decide +kernel) rfl ?_
              refine iq_iload hS 65 J_M_feed_d63 l15 rfl ?_
              refine iq_imul hS 66 J_M_feed_d65 rfl ?_
              refine iq_lshr hS 67 J_M_feed_d66 rfl ?_
              refine iq_ldc2_w hS 70 J_M_feed_d67 lk_17_64 rfl ?_
              refine iq_land hS 71 J_M_feed_d70 rfl ?_
              refine iq_l2i hS 72 J_M_feed_d71 rfl ?_
              obtain ⟨g72, h⟩ := ed_gd h
              refine iq_iastore hS 73 J_M_feed_d72 ⟨(ka_70 hM11).1, (ka_70 hM11).2, g72.1, ix_lt (kl_70 hM11) g72.2⟩ rfl ?_
              refine iq_aload_n hS 74 J_M_feed_d73 l12 rfl ?_
              refine iq_dup hS 75 J_M_feed_d74 rfl rfl ?_
              refine iq_getI hS 78 J_M_feed_d75 lf_17_61 (Or.inl rfl) (ka_69 hM11) rfl ?_
              refine iq_iconst hS 79 J_M_feed_d78 (v := 1) (by decide +kernel) rfl ?_
              refine iq_iadd hS 80 J_M_feed_d79 rfl ?_
              refine iq_putI hS 83 J_M_feed_d80 lf_17_61 (Or.inl rfl) rfl (ka_69 hM11) rfl ?_
              refine iq_iincv hS 86 J_M_feed_d83 (c := 1) (by decide +kernel) l15 (by decide) rfl ?_
              refine iq_goto hS J_M_feed_d86 (t := 46) rfl ?_
              exact ih _ _ _ hM11 (lk_1r l12 (by decide)) (lk_1i l13 (by decide)) (lk_1l l14 (by decide) (by decide)) lk_1s (lq_l h)
        exact I7 n7 _ _ _ hM (lk_1r l4 (by decide)) (lk_1i l5 (by decide)) (lk_1l l6 (by decide) (by decide)) lk_1s hn7
      · replace h := ed_neg q38 h
        refine iq_iconst hS 42 J_M_feed_d41 (v := (-1)) (by decide +kernel) rfl ?_
        exact iq_iret J_M_feed_d42 rfl rfl ⟨_, rfl, hM, ed_some h⟩
    · replace h := ed_neg q24 h
      refine iq_iconst hS 28 J_M_feed_d27 (v := 0) (by decide +kernel) rfl ?_
      exact iq_iret J_M_feed_d28 rfl rfl ⟨_, rfl, hM, ed_some h⟩
  refine iq_icmp_lt hS 6 J_M_feed_d3 (t := 12) rfl (fun q3 => ?_) rfl (fun q3 => ?_)
  · refine iq_iconst hS 13 J_M_feed_d12 (v := 1) (by decide +kernel) rfl ?_
    refine iq_goto hS J_M_feed_d13 (t := 17) rfl ?_
    exact J1 _ _ (by rw [if_pos q3]) l0 l1 l2
  · refine iq_iload_n hS 7 J_M_feed_d6 l1 rfl ?_
    refine iq_bipush hS 9 J_M_feed_d7 (v := 8) (by decide +kernel) rfl ?_
    refine iq_icmp_le hS 12 J_M_feed_d9 (t := 16) rfl (fun q9 => ?_) rfl (fun q9 => ?_)
    · refine iq_iconst hS 17 J_M_feed_d16 (v := 0) (by decide +kernel) rfl ?_
      exact J1 _ _ (by rw [if_neg q3, if_pos q9]) l0 l1 l2
    · refine iq_iconst hS 13 J_M_feed_d12 (v := 1) (by decide +kernel) rfl ?_
      refine iq_goto hS J_M_feed_d13 (t := 17) rfl ?_
      exact J1 _ _ (by rw [if_neg q3, if_neg q9]) l0 l1 l2
noncomputable def f_M_wipe (M : im_M) : Option (Int32 × im_M) := some ((im_i (im_setI M 69 0 0) 69 2), (im_setI (im_setI M 69 0 0) 69 2 0))
theorem f_M_wipe_ok {L : Nat} {xs : Nat → Int32} {dep : Nat} {w : Bool} {M : im_M} {Q : Int32 × im_M → Prop} (hM : lw_S w M) (h : ed (f_M_wipe M) Q) : ia (tb_G L xs) dep J_M_wipe (rwI w Q) (0, lv_args 0 [.ref 69], [], M) := by
  have hS : im_St (tb_G L xs) dep J_M_wipe (ia (tb_G L xs) dep J_M_wipe (rwI w Q)) := ia_St
  unfold f_M_wipe at h
  have l0 : im_lk (lv_args 0 [.ref 69]) 0 = some (.ref 69) := rfl
  refine iq_aload_n hS 1 J_M_wipe_d0 l0 rfl ?_
  refine iq_iconst hS 2 J_M_wipe_d1 (v := 0) (by decide +kernel) rfl ?_
  refine iq_putI hS 5 J_M_wipe_d2 lf_17_58 (Or.inl rfl) rfl (ka_69 hM) rfl ?_
  refine iq_aload_n hS 6 J_M_wipe_d5 l0 rfl ?_
  refine iq_getI hS 9 J_M_wipe_d6 lf_17_61 (Or.inl rfl) (ka_69 hM) rfl ?_
  refine iq_istore_n hS 10 J_M_wipe_d9 (by decide) rfl ?_
  refine iq_aload_n hS 11 J_M_wipe_d10 (lk_1r l0 (by decide)) rfl ?_
  refine iq_iconst hS 12 J_M_wipe_d11 (v := 0) (by decide +kernel) rfl ?_
  refine iq_putI hS 15 J_M_wipe_d12 lf_17_61 (Or.inl rfl) rfl (ka_69 hM) rfl ?_
  refine iq_iload_n hS 16 J_M_wipe_d15 lk_1s rfl ?_
  exact iq_iret J_M_wipe_d16 rfl rfl ⟨_, rfl, hM, ed_some h⟩
noncomputable def f_MDotRows_isNot (p0 : Int32) (p1 : Int32) (p2 : Int32) (M : im_M) : Option (Int32) := jn0 (fun (_ : Unit) => some 1) fun k1 => if p0 < p1 then k1 () else if p0 ≤ p2 then some 0 else k1 ()
theorem J_MDotRows_isNot_d0 : decode J_MDotRows_isNot.2.1 0 = .ok (.iload_n 0, 1) := by decide +kernel
theorem J_MDotRows_isNot_d1 : decode J_MDotRows_isNot.2.1 1 = .ok (.iload_n 1, 1) := by decide +kernel
theorem J_MDotRows_isNot_d2 : decode J_MDotRows_isNot.2.1 2 = .ok (.if_icmp .lt 8, 3) := by decide +kernel
theorem J_MDotRows_isNot_d5 : decode J_MDotRows_isNot.2.1 5 = .ok (.iload_n 0, 1) := by decide +kernel
theorem J_MDotRows_isNot_d6 : decode J_MDotRows_isNot.2.1 6 = .ok (.iload_n 2, 1) := by decide +kernel
theorem J_MDotRows_isNot_d7 : decode J_MDotRows_isNot.2.1 7 = .ok (.if_icmp .le 7, 3) := by decide +kernel
theorem J_MDotRows_isNot_d10 : decode J_MDotRows_isNot.2.1 10 = .ok (.iconst 1, 1) := by decide +kernel
theorem J_MDotRows_isNot_d11 : decode J_MDotRows_isNot.2.1 11 = .ok (.goto 4, 3) := by decide +kernel
theorem J_MDotRows_isNot_d14 : decode J_MDotRows_isNot.2.1 14 = .ok (.iconst 0, 1) := by decide +kernel
theorem J_MDotRows_isNot_d15 : decode J_MDotRows_isNot.2.1 15 = .ok (.ireturn, 1) := by decide +kernel
theorem f_MDotRows_isNot_ok {L : Nat} {xs : Nat → Int32} {dep : Nat} {w : Bool} {p0 : Int32} {p1 : Int32} {p2 : Int32} {M : im_M} {Q : Int32 → Prop} (hM : lw_S w M) (h : ed (f_MDotRows_isNot p0 p1 p2 M) Q) : ia (tb_G L xs) dep J_MDotRows_isNot (rpI M Q) (0, lv_args 0 [.int p0, .int p1, .int p2], [], M) := by
  have hS : im_St (tb_G L xs) dep J_MDotRows_isNot (ia (tb_G L xs) dep J_MDotRows_isNot (rpI M Q)) := ia_St
  unfold f_MDotRows_isNot at h
  have l0 : im_lk (lv_args 0 [.int p0, .int p1, .int p2]) 0 = some (.int p0) := rfl
  have l1 : im_lk (lv_args 0 [.int p0, .int p1, .int p2]) 1 = some (.int p1) := rfl
  have l2 : im_lk (lv_args 0 [.int p0, .int p1, .int p2]) 2 = some (.int p2) := rfl
  refine iq_iload_n hS 1 J_MDotRows_isNot_d0 l0 rfl ?_
  refine iq_iload_n hS 2 J_MDotRows_isNot_d1 l1 rfl ?_
  obtain ⟨k1, Q1, hQ1, hk1, h⟩ := jn0_ed h
  have J1 : ∀  (L' : List (Nat × Value)), Q1 () → ia (tb_G L xs) dep J_MDotRows_isNot (rpI M Q) (10, L', [], M) := by
    intro  L'  h
    replace h := hQ1  h
    refine iq_iconst hS 11 J_MDotRows_isNot_d10 (v := 1) (by decide +kernel) rfl ?_
    refine iq_goto hS J_MDotRows_isNot_d11 (t := 15) rfl ?_
    exact iq_iret J_MDotRows_isNot_d15 rfl rfl ⟨_, rfl, rfl, ed_some h⟩
  refine iq_icmp_lt hS 5 J_MDotRows_isNot_d2 (t := 10) rfl (fun q2 => ?_) rfl (fun q2 => ?_)
  · replace h := ed_pos q2 h
    exact J1  _  (hk1  h)
  · replace h := ed_neg q2 h
    refine iq_iload_n hS 6 J_MDotRows_isNot_d5 l0 rfl ?_
    refine iq_iload_n hS 7 J_MDotRows_isNot_d6 l2 rfl ?_
    refine iq_icmp_le hS 10 J_MDotRows_isNot_d7 (t := 14) rfl (fun q7 => ?_) rfl (fun q7 => ?_)
    · replace h := ed_pos q7 h
      refine iq_iconst hS 15 J_MDotRows_isNot_d14 (v := 0) (by decide +kernel) rfl ?_
      exact iq_iret J_MDotRows_isNot_d15 rfl rfl ⟨_, rfl, rfl, ed_some h⟩
    · replace h := ed_neg q7 h
      exact J1  _  (hk1  h)
noncomputable def f_MDotRows_font_L92 (v19 : Int32) (x20 : Int32) (M21 : im_M) : Option ((Int32 × im_M) ⊕ (im_M)) := if 8192 ≤ x20 then some (.inr M21) else gd (inb (((8192 : Int32) * v19) + x20) 32768) <| some (.inl ((x20 + 1), (im_setI M21 94 (Int32.toNatClampNeg (((8192 : Int32) * v19) + x20)) 0)))
noncomputable def f_MDotRows_font (p0 : Int32) (p1 : Int32) (p2 : Int32) (p3 : Int32) (M : im_M) : Option (im_M) := bd1 (f_MDotRows_isNot p0 0 3 M) fun (x1 : Int32) => bd1 (jn0 (fun (_ : Unit) => some 1) fun k3 => if ¬ x1 = 0 then k3 () else bd1 (f_MDotRows_isNot p1 1 32 M) fun (x4 : Int32) => if ¬ x4 = 0 then k3 () else bd1 (f_MDotRows_isNot p2 1 32 M) fun (x5 : Int32) => if ¬ x5 = 0 then k3 () else bd1 (f_MDotRows_isNot p3 0 32 M) fun (x6 : Int32) => if x6 = 0 then some 0 else k3 ()) fun (y12 : Int32) => if (im_i (im_setI M 89 0 y12) 89 0) ≤ 0 then gd (inb ((3 : Int32) * p0) 12) <| gd (inb (((3 : Int32) * p0) + 1) 12) <| gd (inb (((3 : Int32) * p0) + 2) 12) <| bd1 (lp (uc2 (f_MDotRows_font_L92 p0)) (0, (im_setI (im_setI (im_setI (im_setI M 89 0 y12) 93 (Int32.toNatClampNeg ((3 : Int32) * p0)) p1) 93 (Int32.toNatClampNeg (((3 : Int32) * p0) + 1)) p2) 93 (Int32.toNatClampNeg (((3 : Int32) * p0) + 2)) p3))) fun (M22 : im_M) => some M22 else some (im_setI M 89 0 y12)
theorem J_MDotRows_font_d0 : decode J_MDotRows_font.2.1 0 = .ok (.aload_n 0, 1) := by decide +kernel
theorem J_MDotRows_font_d1 : decode J_MDotRows_font.2.1 1 = .ok (.iload_n 1, 1) := by decide +kernel
theorem J_MDotRows_font_d2 : decode J_MDotRows_font.2.1 2 = .ok (.iconst 0, 1) := by decide +kernel
theorem J_MDotRows_font_d3 : decode J_MDotRows_font.2.1 3 = .ok (.iconst 3, 1) := by decide +kernel
theorem J_MDotRows_font_d4 : decode J_MDotRows_font.2.1 4 = .ok (.invokestatic 121, 3) := by decide +kernel
theorem J_MDotRows_font_d7 : decode J_MDotRows_font.2.1 7 = .ok (.ifCond .ne 34, 3) := by decide +kernel
theorem J_MDotRows_font_d10 : decode J_MDotRows_font.2.1 10 = .ok (.iload_n 2, 1) := by decide +kernel
theorem J_MDotRows_font_d11 : decode J_MDotRows_font.2.1 11 = .ok (.iconst 1, 1) := by decide +kernel
theorem J_MDotRows_font_d12 : decode J_MDotRows_font.2.1 12 = .ok (.bipush 32, 2) := by decide +kernel
theorem J_MDotRows_font_d14 : decode J_MDotRows_font.2.1 14 = .ok (.invokestatic 121, 3) := by decide +kernel
theorem J_MDotRows_font_d17 : decode J_MDotRows_font.2.1 17 = .ok (.ifCond .ne 24, 3) := by decide +kernel
theorem J_MDotRows_font_d20 : decode J_MDotRows_font.2.1 20 = .ok (.iload_n 3, 1) := by decide +kernel
theorem J_MDotRows_font_d21 : decode J_MDotRows_font.2.1 21 = .ok (.iconst 1, 1) := by decide +kernel
theorem J_MDotRows_font_d22 : decode J_MDotRows_font.2.1 22 = .ok (.bipush 32, 2) := by decide +kernel
theorem J_MDotRows_font_d24 : decode J_MDotRows_font.2.1 24 = .ok (.invokestatic 121, 3) := by decide +kernel
theorem J_MDotRows_font_d27 : decode J_MDotRows_font.2.1 27 = .ok (.ifCond .ne 14, 3) := by decide +kernel
theorem J_MDotRows_font_d30 : decode J_MDotRows_font.2.1 30 = .ok (.iload 4, 2) := by decide +kernel
theorem J_MDotRows_font_d32 : decode J_MDotRows_font.2.1 32 = .ok (.iconst 0, 1) := by decide +kernel
theorem J_MDotRows_font_d33 : decode J_MDotRows_font.2.1 33 = .ok (.bipush 32, 2) := by decide +kernel
theorem J_MDotRows_font_d35 : decode J_MDotRows_font.2.1 35 = .ok (.invokestatic 121, 3) := by decide +kernel
theorem J_MDotRows_font_d38 : decode J_MDotRows_font.2.1 38 = .ok (.ifCond .eq 7, 3) := by decide +kernel
theorem J_MDotRows_font_d41 : decode J_MDotRows_font.2.1 41 = .ok (.iconst 1, 1) := by decide +kernel
theorem J_MDotRows_font_d42 : decode J_MDotRows_font.2.1 42 = .ok (.goto 4, 3) := by decide +kernel
theorem J_MDotRows_font_d45 : decode J_MDotRows_font.2.1 45 = .ok (.iconst 0, 1) := by decide +kernel
theorem J_MDotRows_font_d46 : decode J_MDotRows_font.2.1 46 = .ok (.putfield 37, 3) := by decide +kernel
theorem J_MDotRows_font_d49 : decode J_MDotRows_font.2.1 49 = .ok (.aload_n 0, 1) := by decide +kernel
theorem J_MDotRows_font_d50 : decode J_MDotRows_font.2.1 50 = .ok (.getfield 37, 3) := by decide +kernel
theorem J_MDotRows_font_d53 : decode J_MDotRows_font.2.1 53 = .ok (.ifCond .le 4, 3) := by decide +kernel
theorem J_MDotRows_font_d56 : decode J_MDotRows_font.2.1 56 = .ok (.return_, 1) := by decide +kernel
theorem J_MDotRows_font_d57 : decode J_MDotRows_font.2.1 57 = .ok (.aload_n 0, 1) := by decide +kernel
theorem J_MDotRows_font_d58 : decode J_MDotRows_font.2.1 58 = .ok (.getfield 27, 3) := by decide +kernel
theorem J_MDotRows_font_d61 : decode J_MDotRows_font.2.1 61 = .ok (.iconst 3, 1) := by decide +kernel
theorem J_MDotRows_font_d62 : decode J_MDotRows_font.2.1 62 = .ok (.iload_n 1, 1) := by decide +kernel
theorem J_MDotRows_font_d63 : decode J_MDotRows_font.2.1 63 = .ok (.imul, 1) := by decide +kernel
theorem J_MDotRows_font_d64 : decode J_MDotRows_font.2.1 64 = .ok (.iload_n 2, 1) := by decide +kernel
theorem J_MDotRows_font_d65 : decode J_MDotRows_font.2.1 65 = .ok (.iastore, 1) := by decide +kernel
theorem J_MDotRows_font_d66 : decode J_MDotRows_font.2.1 66 = .ok (.aload_n 0, 1) := by decide +kernel
theorem J_MDotRows_font_d67 : decode J_MDotRows_font.2.1 67 = .ok (.getfield 27, 3) := by decide +kernel
theorem J_MDotRows_font_d70 : decode J_MDotRows_font.2.1 70 = .ok (.iconst 3, 1) := by decide +kernel
theorem J_MDotRows_font_d71 : decode J_MDotRows_font.2.1 71 = .ok (.iload_n 1, 1) := by decide +kernel
theorem J_MDotRows_font_d72 : decode J_MDotRows_font.2.1 72 = .ok (.imul, 1) := by decide +kernel
theorem J_MDotRows_font_d73 : decode J_MDotRows_font.2.1 73 = .ok (.iconst 1, 1) := by decide +kernel
theorem J_MDotRows_font_d74 : decode J_MDotRows_font.2.1 74 = .ok (.iadd, 1) := by decide +kernel
theorem J_MDotRows_font_d75 : decode J_MDotRows_font.2.1 75 = .ok (.iload_n 3, 1) := by decide +kernel
theorem J_MDotRows_font_d76 : decode J_MDotRows_font.2.1 76 = .ok (.iastore, 1) := by decide +kernel
theorem J_MDotRows_font_d77 : decode J_MDotRows_font.2.1 77 = .ok (.aload_n 0, 1) := by decide +kernel
theorem J_MDotRows_font_d78 : decode J_MDotRows_font.2.1 78 = .ok (.getfield 27, 3) := by decide +kernel
theorem J_MDotRows_font_d81 : decode J_MDotRows_font.2.1 81 = .ok (.iconst 3, 1) := by decide +kernel
theorem J_MDotRows_font_d82 : decode J_MDotRows_font.2.1 82 = .ok (.iload_n 1, 1) := by decide +kernel
theorem J_MDotRows_font_d83 : decode J_MDotRows_font.2.1 83 = .ok (.imul, 1) := by decide +kernel
theorem J_MDotRows_font_d84 : decode J_MDotRows_font.2.1 84 = .ok (.iconst 2, 1) := by decide +kernel
theorem J_MDotRows_font_d85 : decode J_MDotRows_font.2.1 85 = .ok (.iadd, 1) := by decide +kernel
theorem J_MDotRows_font_d86 : decode J_MDotRows_font.2.1 86 = .ok (.iload 4, 2) := by decide +kernel
theorem J_MDotRows_font_d88 : decode J_MDotRows_font.2.1 88 = .ok (.iastore, 1) := by decide +kernel
theorem J_MDotRows_font_d89 : decode J_MDotRows_font.2.1 89 = .ok (.iconst 0, 1) := by decide +kernel
theorem J_MDotRows_font_d90 : decode J_MDotRows_font.2.1 90 = .ok (.istore 5, 2) := by decide +kernel
theorem J_MDotRows_font_d92 : decode J_MDotRows_font.2.1 92 = .ok (.iload 5, 2) := by decide +kernel
theorem J_MDotRows_font_d94 : decode J_MDotRows_font.2.1 94 = .ok (.sipush 8192, 3) := by decide +kernel
theorem J_MDotRows_font_d97 : decode J_MDotRows_font.2.1 97 = .ok (.if_icmp .ge 23, 3) := by decide +kernel
theorem J_MDotRows_font_d100 : decode J_MDotRows_font.2.1 100 = .ok (.aload_n 0, 1) := by decide +kernel
theorem J_MDotRows_font_d101 : decode J_MDotRows_font.2.1 101 = .ok (.getfield 30, 3) := by decide +kernel
theorem J_MDotRows_font_d104 : decode J_MDotRows_font.2.1 104 = .ok (.sipush 8192, 3) := by decide +kernel
theorem J_MDotRows_font_d107 : decode J_MDotRows_font.2.1 107 = .ok (.iload_n 1, 1) := by decide +kernel
theorem J_MDotRows_font_d108 : decode J_MDotRows_font.2.1 108 = .ok (.imul, 1) := by decide +kernel
theorem J_MDotRows_font_d109 : decode J_MDotRows_font.2.1 109 = .ok (.iload 5, 2) := by decide +kernel
theorem J_MDotRows_font_d111 : decode J_MDotRows_font.2.1 111 = .ok (.iadd, 1) := by decide +kernel
theorem J_MDotRows_font_d112 : decode J_MDotRows_font.2.1 112 = .ok (.iconst 0, 1) := by decide +kernel
theorem J_MDotRows_font_d113 : decode J_MDotRows_font.2.1 113 = .ok (.iastore, 1) := by decide +kernel
theorem J_MDotRows_font_d114 : decode J_MDotRows_font.2.1 114 = .ok (.iinc 5 1, 3) := by decide +kernel
theorem J_MDotRows_font_d117 : decode J_MDotRows_font.2.1 117 = .ok (.goto (-25), 3) := by decide +kernel
theorem J_MDotRows_font_d120 : decode J_MDotRows_font.2.1 120 = .ok (.return_, 1) := by decide +kernel
theorem f_MDotRows_font_ok {L : Nat} {xs : Nat → Int32} {dep : Nat} {w : Bool} {p0 : Int32} {p1 : Int32} {p2 : Int32} {p3 : Int32} {M : im_M} {Q : im_M → Prop} (hM : lw_S w M) (h : ed (f_MDotRows_font p0 p1 p2 p3 M) Q) : ia (tb_G L xs) (dep + 1) J_MDotRows_font (rwV w Q) (0, lv_args 0 [.ref 89, .int p0, .int p1, .int p2, .int p3], [], M) := by
  have hS : im_St (tb_G L xs) (dep + 1) J_MDotRows_font (ia (tb_G L xs) (dep + 1) J_MDotRows_font (rwV w Q)) := ia_St
  unfold f_MDotRows_font at h
  have l0 : im_lk (lv_args 0 [.ref 89, .int p0, .int p1, .int p2, .int p3]) 0 = some (.ref 89) := rfl
  have l1 : im_lk (lv_args 0 [.ref 89, .int p0, .int p1, .int p2, .int p3]) 1 = some (.int p0) := rfl
  have l2 : im_lk (lv_args 0 [.ref 89, .int p0, .int p1, .int p2, .int p3]) 2 = some (.int p1) := rfl
  have l3 : im_lk (lv_args 0 [.ref 89, .int p0, .int p1, .int p2, .int p3]) 3 = some (.int p2) := rfl
  have l4 : im_lk (lv_args 0 [.ref 89, .int p0, .int p1, .int p2, .int p3]) 4 = some (.int p3) := rfl
  refine iq_aload_n hS 1 J_MDotRows_font_d0 l0 rfl ?_
  refine iq_iload_n hS 2 J_MDotRows_font_d1 l1 rfl ?_
  refine iq_iconst hS 3 J_MDotRows_font_d2 (v := 0) (by decide +kernel) rfl ?_
  refine iq_iconst hS 4 J_MDotRows_font_d3 (v := 3) (by decide +kernel) rfl ?_
  obtain ⟨Q1, hQ1, h⟩ := bd1_ed h
  refine iq_cpI hS 7 J_MDotRows_font_d4 rfl (pr_stat (vs := [_, _, _]) lc_12_121 lT_267 rfl rfl (by decide) rfl (Nat.le_of_ble_eq_true rfl) (Nat.le_of_ble_eq_true rfl)) (f_MDotRows_isNot_ok (dep := dep + 0) hM h) rfl ?_
  intro x1 h
  replace h := hQ1 _ h
  obtain ⟨Q2, hQ2, h⟩ := bd1_ed h
  have J2 : ∀ (y12 : Int32) (L' : List (Nat × Value)), im_lk L' 0 = some (.ref 89) → im_lk L' 1 = some (.int p0) → im_lk L' 2 = some (.int p1) → im_lk L' 3 = some (.int p2) → im_lk L' 4 = some (.int p3) → Q2 y12 → ia (tb_G L xs) (dep + 1) J_MDotRows_font (rwV w Q) (46, L', [.int y12, .ref 89], M) := by
    intro y12 L' l13 l14 l15 l16 l17 h
    replace h := hQ2 _ h
    refine iq_putI hS 49 J_MDotRows_font_d46 lf_12_37 (Or.inl rfl) rfl (ka_89 hM) rfl ?_
    refine iq_aload_n hS 50 J_MDotRows_font_d49 l13 rfl ?_
    refine iq_getI hS 53 J_MDotRows_font_d50 lf_12_37 (Or.inl rfl) (ka_89 hM) rfl ?_
    refine iq_if_le hS 56 J_MDotRows_font_d53 (t := 57) rfl (fun q53 => ?_) rfl (fun q53 => ?_)
    · replace h := ed_pos q53 h
      refine iq_aload_n hS 58 J_MDotRows_font_d57 l13 rfl ?_
      refine iq_getR hS 61 J_MDotRows_font_d58 lf_12_27 (Or.inr ⟨_, rfl⟩) (ka_89 hM) (ra_89_8 hM) rfl ?_
      refine iq_iconst hS 62 J_MDotRows_font_d61 (v := 3) (by decide +kernel) rfl ?_
      refine iq_iload_n hS 63 J_MDotRows_font_d62 l14 rfl ?_
      refine iq_imul hS 64 J_MDotRows_font_d63 rfl ?_
      refine iq_iload_n hS 65 J_MDotRows_font_d64 l15 rfl ?_
      obtain ⟨g65, h⟩ := ed_gd h
      refine iq_iastore hS 66 J_MDotRows_font_d65 ⟨(ka_93 hM).1, (ka_93 hM).2, g65.1, ix_lt (kl_93 hM) g65.2⟩ rfl ?_
      refine iq_aload_n hS 67 J_MDotRows_font_d66 l13 rfl ?_
      refine iq_getR hS 70 J_MDotRows_font_d67 lf_12_27 (Or.inr ⟨_, rfl⟩) (ka_89 hM) (ra_89_8 hM) rfl ?_
      refine iq_iconst hS 71 J_MDotRows_font_d70 (v := 3) (by decide +kernel) rfl ?_
      refine iq_iload_n hS 72 J_MDotRows_font_d71 l14 rfl ?_
      refine iq_imul hS 73 J_MDotRows_font_d72 rfl ?_
      refine iq_iconst hS 74 J_MDotRows_font_d73 (v := 1) (by decide +kernel) rfl ?_
      refine iq_iadd hS 75 J_MDotRows_font_d74 rfl ?_
      refine iq_iload_n hS 76 J_MDotRows_font_d75 l16 rfl ?_
      obtain ⟨g76, h⟩ := ed_gd h
      refine iq_iastore hS 77 J_MDotRows_font_d76 ⟨(ka_93 hM).1, (ka_93 hM).2, g76.1, ix_lt (kl_93 hM) g76.2⟩ rfl ?_
      refine iq_aload_n hS 78 J_MDotRows_font_d77 l13 rfl ?_
      refine iq_getR hS 81 J_MDotRows_font_d78 lf_12_27 (Or.inr ⟨_, rfl⟩) (ka_89 hM) (ra_89_8 hM) rfl ?_
      refine iq_iconst hS 82 J_MDotRows_font_d81 (v := 3) (by decide +kernel) rfl ?_
      refine iq_iload_n hS 83 J_MDotRows_font_d82 l14 rfl ?_
      refine iq_imul hS 84 J_MDotRows_font_d83 rfl ?_
      refine iq_iconst hS 85 J_MDotRows_font_d84 (v := 2) (by decide +kernel) rfl ?_
      refine iq_iadd hS 86 J_MDotRows_font_d85 rfl ?_
      refine iq_iload hS 88 J_MDotRows_font_d86 l17 rfl ?_
      obtain ⟨g88, h⟩ := ed_gd h
      refine iq_iastore hS 89 J_MDotRows_font_d88 ⟨(ka_93 hM).1, (ka_93 hM).2, g88.1, ix_lt (kl_93 hM) g88.2⟩ rfl ?_
      refine iq_iconst hS 90 J_MDotRows_font_d89 (v := 0) (by decide +kernel) rfl ?_
      refine iq_istore hS 92 J_MDotRows_font_d90 (by decide) rfl ?_
      obtain ⟨Q18, hQ18, h⟩ := bd1_ed h
      have K18 : ∀ (M19 : im_M) (L' : List (Nat × Value)), lw_S w M19 → Q18 M19 → ia (tb_G L xs) (dep + 1) J_MDotRows_font (rwV w Q) (120, L', [], M19) := by
        intro M19 L' hM19  h
        replace h := hQ18 _ h
        exact iq_ret J_MDotRows_font_d120 rfl ⟨rfl, hM19, ed_some h⟩
      obtain ⟨r18, hr18, hq18⟩ := h
      obtain ⟨n18, hn18⟩ := lp_n hr18
      have I18 : ∀ (n : Nat) (x20 : Int32) (M21 : im_M) (L' : List (Nat × Value)), lw_S w M21 → im_lk L' 0 = some (.ref 89) → im_lk L' 1 = some (.int p0) → im_lk L' 5 = some (.int x20) → lpn (uc2 (f_MDotRows_font_L92 p0)) n (x20, M21) = some r18 → ia (tb_G L xs) (dep + 1) J_MDotRows_font (rwV w Q) (92, L', [], M21) := by
        intro n
        induction n with
        | zero => intro x20 M21 L' hM21 l22 l23 l24 hn; exact (lpn_0 hn).elim
        | succ n ih =>
          intro x20 M21 L' hM21 l22 l23 l24 hn
          have h := lpn_ed2 hn
          unfold f_MDotRows_font_L92 at h
          refine iq_iload hS 94 J_MDotRows_font_d92 l24 rfl ?_
          refine iq_sipush hS 97 J_MDotRows_font_d94 (v := 8192) (by decide +kernel) rfl ?_
          refine iq_icmp_ge hS 100 J_MDotRows_font_d97 (t := 120) rfl (fun q97 => ?_) rfl (fun q97 => ?_)
          · replace h := ed_pos q97 h
            exact K18 _ _ hM21  (lq_r h hq18)
          · replace h := ed_neg q97 h
            refine iq_aload_n hS 101 J_MDotRows_font_d100 l22 rfl ?_
            refine iq_getR hS 104 J_MDotRows_font_d101 lf_12_30 (Or.inr ⟨_, rfl⟩) (ka_89 hM21) (ra_89_9 hM21) rfl ?_
            refine iq_sipush hS 107 J_MDotRows_font_d104 (v := 8192) (by decide +kernel) rfl ?_
            refine iq_iload_n hS 108 J_MDotRows_font_d107 l23 rfl ?_
            refine iq_imul hS 109 J_MDotRows_font_d108 rfl ?_
            refine iq_iload hS 111 J_MDotRows_font_d109 l24 rfl ?_
            refine iq_iadd hS 112 J_MDotRows_font_d111 rfl ?_
            refine iq_iconst hS 113 J_MDotRows_font_d112 (v := 0) (by decide +kernel) rfl ?_
            obtain ⟨g113, h⟩ := ed_gd h
            refine iq_iastore hS 114 J_MDotRows_font_d113 ⟨(ka_94 hM21).1, (ka_94 hM21).2, g113.1, ix_lt (kl_94 hM21) g113.2⟩ rfl ?_
            refine iq_iincv hS 117 J_MDotRows_font_d114 (c := 1) (by decide +kernel) l24 (by decide) rfl ?_
            refine iq_goto hS J_MDotRows_font_d117 (t := 92) rfl ?_
            exact ih _ _ _ hM21 (lk_1r l22 (by decide)) (lk_1i l23 (by decide)) lk_1s (lq_l h)
      exact I18 n18 _ _ _ hM (lk_1r l13 (by decide)) (lk_1i l14 (by decide)) lk_1s hn18
    · replace h := ed_neg q53 h
      exact iq_ret J_MDotRows_font_d56 rfl ⟨rfl, hM, ed_some h⟩
  obtain ⟨k3, Q3, hQ3, hk3, h⟩ := jn0_ed h
  have J3 : ∀  (L' : List (Nat × Value)), im_lk L' 0 = some (.ref 89) → im_lk L' 1 = some (.int p0) → im_lk L' 2 = some (.int p1) → im_lk L' 3 = some (.int p2) → im_lk L' 4 = some (.int p3) → Q3 () → ia (tb_G L xs) (dep + 1) J_MDotRows_font (rwV w Q) (41, L', [.ref 89], M) := by
    intro  L' l7 l8 l9 l10 l11 h
    replace h := hQ3  h
    refine iq_iconst hS 42 J_MDotRows_font_d41 (v := 1) (by decide +kernel) rfl ?_
    refine iq_goto hS J_MDotRows_font_d42 (t := 46) rfl ?_
    exact J2 _ _ l7 l8 l9 l10 l11 (ed_some h)
  refine iq_if_ne hS 10 J_MDotRows_font_d7 (t := 41) rfl (fun q7 => ?_) rfl (fun q7 => ?_)
  · replace h := ed_pos q7 h
    exact J3  _ l0 l1 l2 l3 l4 (hk3  h)
  · replace h := ed_neg q7 h
    refine iq_iload_n hS 11 J_MDotRows_font_d10 l2 rfl ?_
    refine iq_iconst hS 12 J_MDotRows_font_d11 (v := 1) (by decide +kernel) rfl ?_
    refine iq_bipush hS 14 J_MDotRows_font_d12 (v := 32) (by decide +kernel) rfl ?_
    obtain ⟨Q4, hQ4, h⟩ := bd1_ed h
    refine iq_cpI hS 17 J_MDotRows_font_d14 rfl (pr_stat (vs := [_, _, _]) lc_12_121 lT_267 rfl rfl (by decide) rfl (Nat.le_of_ble_eq_true rfl) (Nat.le_of_ble_eq_true rfl)) (f_MDotRows_isNot_ok (dep := dep + 0) hM h) rfl ?_
    intro x4 h
    replace h := hQ4 _ h
    refine iq_if_ne hS 20 J_MDotRows_font_d17 (t := 41) rfl (fun q17 => ?_) rfl (fun q17 => ?_)
    · replace h := ed_pos q17 h
      exact J3  _ l0 l1 l2 l3 l4 (hk3  h)
    · replace h := ed_neg q17 h
      refine iq_iload_n hS 21 J_MDotRows_font_d20 l3 rfl ?_
      refine iq_iconst hS 22 J_MDotRows_font_d21 (v := 1) (by decide +kernel) rfl ?_
      refine iq_bipush hS 24 J_MDotRows_font_d22 (v := 32) (by decide +kernel) rfl ?_
      obtain ⟨Q5, hQ5, h⟩ := bd1_ed h
      refine iq_cpI hS 27 J_MDotRows_font_d24 rfl (pr_stat (vs := [_, _, _]) lc_12_121 lT_267 rfl rfl (by decide) rfl (Nat.le_of_ble_eq_true rfl) (Nat.le_of_ble_eq_true rfl)) (f_MDotRows_isNot_ok (dep := dep + 0) hM h) rfl ?_
      intro x5 h
      replace h := hQ5 _ h
      refine iq_if_ne hS 30 J_MDotRows_font_d27 (t := 41) rfl (fun q27 => ?_) rfl (fun q27 => ?_)
      · replace h := ed_pos q27 h
        exact J3  _ l0 l1 l2 l3 l4 (hk3  h)
      · replace h := ed_neg q27 h
        refine iq_iload hS 32 J_MDotRows_font_d30 l4 rfl ?_
        refine iq_iconst hS 33 J_MDotRows_font_d32 (v := 0) (by decide +kernel) rfl ?_
        refine iq_bipush hS 35 J_MDotRows_font_d33 (v := 32) (by decide +kernel) rfl ?_
        obtain ⟨Q6, hQ6, h⟩ := bd1_ed h
        refine iq_cpI hS 38 J_MDotRows_font_d35 rfl (pr_stat (vs := [_, _, _]) lc_12_121 lT_267 rfl rfl (by decide) rfl (Nat.le_of_ble_eq_true rfl) (Nat.le_of_ble_eq_true rfl)) (f_MDotRows_isNot_ok (dep := dep + 0) hM h) rfl ?_
        intro x6 h
        replace h := hQ6 _ h
        refine iq_if_eq hS 41 J_MDotRows_font_d38 (t := 45) rfl (fun q38 => ?_) rfl (fun q38 => ?_)
        · replace h := ed_pos q38 h
          refine iq_iconst hS 46 J_MDotRows_font_d45 (v := 0) (by decide +kernel) rfl ?_
          exact J2 _ _ l0 l1 l2 l3 l4 (ed_some h)
        · replace h := ed_neg q38 h
          exact J3  _ l0 l1 l2 l3 l4 (hk3  h)
noncomputable def f_MDotRows_thrown (M : im_M) : Option (Int32) := some (im_i M 89 0)
theorem J_MDotRows_thrown_d0 : decode J_MDotRows_thrown.2.1 0 = .ok (.aload_n 0, 1) := by decide +kernel
theorem J_MDotRows_thrown_d1 : decode J_MDotRows_thrown.2.1 1 = .ok (.getfield 37, 3) := by decide +kernel
theorem J_MDotRows_thrown_d4 : decode J_MDotRows_thrown.2.1 4 = .ok (.ireturn, 1) := by decide +kernel
theorem f_MDotRows_thrown_ok {L : Nat} {xs : Nat → Int32} {dep : Nat} {w : Bool} {M : im_M} {Q : Int32 → Prop} (hM : lw_S w M) (h : ed (f_MDotRows_thrown M) Q) : ia (tb_G L xs) dep J_MDotRows_thrown (rpI M Q) (0, lv_args 0 [.ref 89], [], M) := by
  have hS : im_St (tb_G L xs) dep J_MDotRows_thrown (ia (tb_G L xs) dep J_MDotRows_thrown (rpI M Q)) := ia_St
  unfold f_MDotRows_thrown at h
  have l0 : im_lk (lv_args 0 [.ref 89]) 0 = some (.ref 89) := rfl
  refine iq_aload_n hS 1 J_MDotRows_thrown_d0 l0 rfl ?_
  refine iq_getI hS 4 J_MDotRows_thrown_d1 lf_12_37 (Or.inl rfl) (ka_89 hM) rfl ?_
  exact iq_iret J_MDotRows_thrown_d4 rfl rfl ⟨_, rfl, rfl, ed_some h⟩
noncomputable def f_M_font (p0 : Int32) (p1 : Int32) (p2 : Int32) (p3 : Int32) (M : im_M) : Option (im_M) := bd1 (f_MDotRows_font p0 p1 p2 p3 M) fun (M1 : im_M) => bd1 (f_MDotRows_thrown M1) fun (x2 : Int32) => some (im_setI M1 69 0 x2)
theorem J_M_font_d0 : decode J_M_font.2.1 0 = .ok (.aload_n 0, 1) := by decide +kernel
theorem J_M_font_d1 : decode J_M_font.2.1 1 = .ok (.getfield 23, 3) := by decide +kernel
theorem J_M_font_d4 : decode J_M_font.2.1 4 = .ok (.iload_n 1, 1) := by decide +kernel
theorem J_M_font_d5 : decode J_M_font.2.1 5 = .ok (.iload_n 2, 1) := by decide +kernel
theorem J_M_font_d6 : decode J_M_font.2.1 6 = .ok (.iload_n 3, 1) := by decide +kernel
theorem J_M_font_d7 : decode J_M_font.2.1 7 = .ok (.iload 4, 2) := by decide +kernel
theorem J_M_font_d9 : decode J_M_font.2.1 9 = .ok (.invokevirtual 66, 3) := by decide +kernel
theorem J_M_font_d12 : decode J_M_font.2.1 12 = .ok (.aload_n 0, 1) := by decide +kernel
theorem J_M_font_d13 : decode J_M_font.2.1 13 = .ok (.aload_n 0, 1) := by decide +kernel
theorem J_M_font_d14 : decode J_M_font.2.1 14 = .ok (.getfield 23, 3) := by decide +kernel
theorem J_M_font_d17 : decode J_M_font.2.1 17 = .ok (.invokevirtual 70, 3) := by decide +kernel
theorem J_M_font_d20 : decode J_M_font.2.1 20 = .ok (.putfield 58, 3) := by decide +kernel
theorem J_M_font_d23 : decode J_M_font.2.1 23 = .ok (.return_, 1) := by decide +kernel
theorem f_M_font_ok {L : Nat} {xs : Nat → Int32} {dep : Nat} {w : Bool} {p0 : Int32} {p1 : Int32} {p2 : Int32} {p3 : Int32} {M : im_M} {Q : im_M → Prop} (hM : lw_S w M) (h : ed (f_M_font p0 p1 p2 p3 M) Q) : ia (tb_G L xs) (dep + 2) J_M_font (rwV w Q) (0, lv_args 0 [.ref 69, .int p0, .int p1, .int p2, .int p3], [], M) := by
  have hS : im_St (tb_G L xs) (dep + 2) J_M_font (ia (tb_G L xs) (dep + 2) J_M_font (rwV w Q)) := ia_St
  unfold f_M_font at h
  have l0 : im_lk (lv_args 0 [.ref 69, .int p0, .int p1, .int p2, .int p3]) 0 = some (.ref 69) := rfl
  have l1 : im_lk (lv_args 0 [.ref 69, .int p0, .int p1, .int p2, .int p3]) 1 = some (.int p0) := rfl
  have l2 : im_lk (lv_args 0 [.ref 69, .int p0, .int p1, .int p2, .int p3]) 2 = some (.int p1) := rfl
  have l3 : im_lk (lv_args 0 [.ref 69, .int p0, .int p1, .int p2, .int p3]) 3 = some (.int p2) := rfl
  have l4 : im_lk (lv_args 0 [.ref 69, .int p0, .int p1, .int p2, .int p3]) 4 = some (.int p3) := rfl
  refine iq_aload_n hS 1 J_M_font_d0 l0 rfl ?_
  refine iq_getR hS 4 J_M_font_d1 lf_17_23 (Or.inl ⟨_, rfl⟩) (ka_69 hM) (ra_69_4 hM) rfl ?_
  refine iq_iload_n hS 5 J_M_font_d4 l1 rfl ?_
  refine iq_iload_n hS 6 J_M_font_d5 l2 rfl ?_
  refine iq_iload_n hS 7 J_M_font_d6 l3 rfl ?_
  refine iq_iload hS 9 J_M_font_d7 l4 rfl ?_
  obtain ⟨Q1, hQ1, h⟩ := bd1_ed h
  refine iq_cwV hS 12 J_M_font_d9 rfl (pr_inst (vs := [_, _, _, _]) lc_17_66 lT_266 rfl rfl (by decide) (by decide) rfl (Nat.le_of_ble_eq_true rfl) (Nat.le_of_ble_eq_true rfl) (fun _ => Or.inl (pr_b (ka_89 hM) (by decide) rfl))) (f_MDotRows_font_ok (dep := dep + 0) hM h) rfl ?_
  intro M1 hM1 h
  replace h := hQ1 _ h
  refine iq_aload_n hS 13 J_M_font_d12 l0 rfl ?_
  refine iq_aload_n hS 14 J_M_font_d13 l0 rfl ?_
  refine iq_getR hS 17 J_M_font_d14 lf_17_23 (Or.inl ⟨_, rfl⟩) (ka_69 hM1) (ra_69_4 hM1) rfl ?_
  obtain ⟨Q2, hQ2, h⟩ := bd1_ed h
  refine iq_cpI hS 20 J_M_font_d17 rfl (pr_inst (vs := []) lc_17_70 lT_268 rfl rfl (by decide) (by decide) rfl (Nat.le_of_ble_eq_true rfl) (Nat.le_of_ble_eq_true rfl) (fun _ => Or.inl (pr_b (ka_89 hM1) (by decide) rfl))) (f_MDotRows_thrown_ok (dep := dep + 1) hM1 h) rfl ?_
  intro x2 h
  replace h := hQ2 _ h
  refine iq_putI hS 23 J_M_font_d20 lf_17_58 (Or.inl rfl) rfl (ka_69 hM1) rfl ?_
  exact iq_ret J_M_font_d23 rfl ⟨rfl, hM1, ed_some h⟩
noncomputable def f_MDotRows_cell (p0 : Int32) (p1 : Int32) (p2 : Int32) (p3 : Int32) (M : im_M) : Option (im_M) := bd1 (f_MDotRows_isNot p0 0 3 M) fun (x1 : Int32) => bd1 (jn0 (fun (_ : Unit) => some 1) fun k3 => if ¬ x1 = 0 then k3 () else bd1 (f_MDotRows_isNot p1 0 255 M) fun (x4 : Int32) => if x4 = 0 then gd (inb (((3 : Int32) * p0) + 1) 12) <| bd1 (f_MDotRows_isNot p2 0 ((im_i M 93 (Int32.toNatClampNeg (((3 : Int32) * p0) + 1))) - 1) M) fun (x5 : Int32) => if x5 = 0 then some 0 else some 2 else k3 ()) fun (y11 : Int32) => if ¬ (im_i (im_setI M 89 0 y11) 89 0) = 0 then some (im_setI M 89 0 y11) else gd (inb ((((8192 : Int32) * p0) + ((32 : Int32) * p1)) + p2) 32768) <| some (im_setI (im_setI M 89 0 y11) 94 (Int32.toNatClampNeg ((((8192 : Int32) * p0) + ((32 : Int32) * p1)) + p2)) p3)
theorem J_MDotRows_cell_d0 : decode J_MDotRows_cell.2.1 0 = .ok (.aload_n 0, 1) := by decide +kernel
theorem J_MDotRows_cell_d1 : decode J_MDotRows_cell.2.1 1 = .ok (.iload_n 1, 1) := by decide +kernel
theorem J_MDotRows_cell_d2 : decode J_MDotRows_cell.2.1 2 = .ok (.iconst 0, 1) := by decide +kernel
theorem J_MDotRows_cell_d3 : decode J_MDotRows_cell.2.1 3 = .ok (.iconst 3, 1) := by decide +kernel
theorem J_MDotRows_cell_d4 : decode J_MDotRows_cell.2.1 4 = .ok (.invokestatic 121, 3) := by decide +kernel
theorem J_MDotRows_cell_d7 : decode J_MDotRows_cell.2.1 7 = .ok (.ifCond .ne 14, 3) := by decide +kernel
theorem J_MDotRows_cell_d10 : decode J_MDotRows_cell.2.1 10 = .ok (.iload_n 2, 1) := by decide +kernel
theorem J_MDotRows_cell_d11 : decode J_MDotRows_cell.2.1 11 = .ok (.iconst 0, 1) := by decide +kernel
theorem J_MDotRows_cell_d12 : decode J_MDotRows_cell.2.1 12 = .ok (.sipush 255, 3) := by decide +kernel
theorem J_MDotRows_cell_d15 : decode J_MDotRows_cell.2.1 15 = .ok (.invokestatic 121, 3) := by decide +kernel
theorem J_MDotRows_cell_d18 : decode J_MDotRows_cell.2.1 18 = .ok (.ifCond .eq 7, 3) := by decide +kernel
theorem J_MDotRows_cell_d21 : decode J_MDotRows_cell.2.1 21 = .ok (.iconst 1, 1) := by decide +kernel
theorem J_MDotRows_cell_d22 : decode J_MDotRows_cell.2.1 22 = .ok (.goto 28, 3) := by decide +kernel
theorem J_MDotRows_cell_d25 : decode J_MDotRows_cell.2.1 25 = .ok (.iload_n 3, 1) := by decide +kernel
theorem J_MDotRows_cell_d26 : decode J_MDotRows_cell.2.1 26 = .ok (.iconst 0, 1) := by decide +kernel
theorem J_MDotRows_cell_d27 : decode J_MDotRows_cell.2.1 27 = .ok (.aload_n 0, 1) := by decide +kernel
theorem J_MDotRows_cell_d28 : decode J_MDotRows_cell.2.1 28 = .ok (.getfield 27, 3) := by decide +kernel
theorem J_MDotRows_cell_d31 : decode J_MDotRows_cell.2.1 31 = .ok (.iconst 3, 1) := by decide +kernel
theorem J_MDotRows_cell_d32 : decode J_MDotRows_cell.2.1 32 = .ok (.iload_n 1, 1) := by decide +kernel
theorem J_MDotRows_cell_d33 : decode J_MDotRows_cell.2.1 33 = .ok (.imul, 1) := by decide +kernel
theorem J_MDotRows_cell_d34 : decode J_MDotRows_cell.2.1 34 = .ok (.iconst 1, 1) := by decide +kernel
theorem J_MDotRows_cell_d35 : decode J_MDotRows_cell.2.1 35 = .ok (.iadd, 1) := by decide +kernel
theorem J_MDotRows_cell_d36 : decode J_MDotRows_cell.2.1 36 = .ok (.iaload, 1) := by decide +kernel
theorem J_MDotRows_cell_d37 : decode J_MDotRows_cell.2.1 37 = .ok (.iconst 1, 1) := by decide +kernel
theorem J_MDotRows_cell_d38 : decode J_MDotRows_cell.2.1 38 = .ok (.isub, 1) := by decide +kernel
theorem J_MDotRows_cell_d39 : decode J_MDotRows_cell.2.1 39 = .ok (.invokestatic 121, 3) := by decide +kernel
theorem J_MDotRows_cell_d42 : decode J_MDotRows_cell.2.1 42 = .ok (.ifCond .eq 7, 3) := by decide +kernel
theorem J_MDotRows_cell_d45 : decode J_MDotRows_cell.2.1 45 = .ok (.iconst 2, 1) := by decide +kernel
theorem J_MDotRows_cell_d46 : decode J_MDotRows_cell.2.1 46 = .ok (.goto 4, 3) := by decide +kernel
theorem J_MDotRows_cell_d49 : decode J_MDotRows_cell.2.1 49 = .ok (.iconst 0, 1) := by decide +kernel
theorem J_MDotRows_cell_d50 : decode J_MDotRows_cell.2.1 50 = .ok (.putfield 37, 3) := by decide +kernel
theorem J_MDotRows_cell_d53 : decode J_MDotRows_cell.2.1 53 = .ok (.aload_n 0, 1) := by decide +kernel
theorem J_MDotRows_cell_d54 : decode J_MDotRows_cell.2.1 54 = .ok (.getfield 37, 3) := by decide +kernel
theorem J_MDotRows_cell_d57 : decode J_MDotRows_cell.2.1 57 = .ok (.ifCond .ne 22, 3) := by decide +kernel
theorem J_MDotRows_cell_d60 : decode J_MDotRows_cell.2.1 60 = .ok (.aload_n 0, 1) := by decide +kernel
theorem J_MDotRows_cell_d61 : decode J_MDotRows_cell.2.1 61 = .ok (.getfield 30, 3) := by decide +kernel
theorem J_MDotRows_cell_d64 : decode J_MDotRows_cell.2.1 64 = .ok (.sipush 8192, 3) := by decide +kernel
theorem J_MDotRows_cell_d67 : decode J_MDotRows_cell.2.1 67 = .ok (.iload_n 1, 1) := by decide +kernel
theorem J_MDotRows_cell_d68 : decode J_MDotRows_cell.2.1 68 = .ok (.imul, 1) := by decide +kernel
theorem J_MDotRows_cell_d69 : decode J_MDotRows_cell.2.1 69 = .ok (.bipush 32, 2) := by decide +kernel
theorem J_MDotRows_cell_d71 : decode J_MDotRows_cell.2.1 71 = .ok (.iload_n 2, 1) := by decide +kernel
theorem J_MDotRows_cell_d72 : decode J_MDotRows_cell.2.1 72 = .ok (.imul, 1) := by decide +kernel
theorem J_MDotRows_cell_d73 : decode J_MDotRows_cell.2.1 73 = .ok (.iadd, 1) := by decide +kernel
theorem J_MDotRows_cell_d74 : decode J_MDotRows_cell.2.1 74 = .ok (.iload_n 3, 1) := by decide +kernel
theorem J_MDotRows_cell_d75 : decode J_MDotRows_cell.2.1 75 = .ok (.iadd, 1) := by decide +kernel
theorem J_MDotRows_cell_d76 : decode J_MDotRows_cell.2.1 76 = .ok (.iload 4, 2) := by decide +kernel
theorem J_MDotRows_cell_d78 : decode J_MDotRows_cell.2.1 78 = .ok (.iastore, 1) := by decide +kernel
theorem J_MDotRows_cell_d79 : decode J_MDotRows_cell.2.1 79 = .ok (.return_, 1) := by decide +kernel
theorem f_MDotRows_cell_ok {L : Nat} {xs : Nat → Int32} {dep : Nat} {w : Bool} {p0 : Int32} {p1 : Int32} {p2 : Int32} {p3 : Int32} {M : im_M} {Q : im_M → Prop} (hM : lw_S w M) (h : ed (f_MDotRows_cell p0 p1 p2 p3 M) Q) : ia (tb_G L xs) (dep + 1) J_MDotRows_cell (rwV w Q) (0, lv_args 0 [.ref 89, .int p0, .int p1, .int p2, .int p3], [], M) := by
  have hS : im_St (tb_G L xs) (dep + 1) J_MDotRows_cell (ia (tb_G L xs) (dep + 1) J_MDotRows_cell (rwV w Q)) := ia_St
  unfold f_MDotRows_cell at h
  have l0 : im_lk (lv_args 0 [.ref 89, .int p0, .int p1, .int p2, .int p3]) 0 = some (.ref 89) := rfl
  have l1 : im_lk (lv_args 0 [.ref 89, .int p0, .int p1, .int p2, .int p3]) 1 = some (.int p0) := rfl
  have l2 : im_lk (lv_args 0 [.ref 89, .int p0, .int p1, .int p2, .int p3]) 2 = some (.int p1) := rfl
  have l3 : im_lk (lv_args 0 [.ref 89, .int p0, .int p1, .int p2, .int p3]) 3 = some (.int p2) := rfl
  have l4 : im_lk (lv_args 0 [.ref 89, .int p0, .int p1, .int p2, .int p3]) 4 = some (.int p3) := rfl
  refine iq_aload_n hS 1 J_MDotRows_cell_d0 l0 rfl ?_
  refine iq_iload_n hS 2 J_MDotRows_cell_d1 l1 rfl ?_
  refine iq_iconst hS 3 J_MDotRows_cell_d2 (v := 0) (by decide +kernel) rfl ?_
  refine iq_iconst hS 4 J_MDotRows_cell_d3 (v := 3) (by decide +kernel) rfl ?_
  obtain ⟨Q1, hQ1, h⟩ := bd1_ed h
  refine iq_cpI hS 7 J_MDotRows_cell_d4 rfl (pr_stat (vs := [_, _, _]) lc_12_121 lT_267 rfl rfl (by decide) rfl (Nat.le_of_ble_eq_true rfl) (Nat.le_of_ble_eq_true rfl)) (f_MDotRows_isNot_ok (dep := dep + 0) hM h) rfl ?_
  intro x1 h
  replace h := hQ1 _ h
  obtain ⟨Q2, hQ2, h⟩ := bd1_ed h
  have J2 : ∀ (y11 : Int32) (L' : List (Nat × Value)), im_lk L' 0 = some (.ref 89) → im_lk L' 1 = some (.int p0) → im_lk L' 2 = some (.int p1) → im_lk L' 3 = some (.int p2) → im_lk L' 4 = some (.int p3) → Q2 y11 → ia (tb_G L xs) (dep + 1) J_MDotRows_cell (rwV w Q) (50, L', [.int y11, .ref 89], M) := by
    intro y11 L' l12 l13 l14 l15 l16 h
    replace h := hQ2 _ h
    refine iq_putI hS 53 J_MDotRows_cell_d50 lf_12_37 (Or.inl rfl) rfl (ka_89 hM) rfl ?_
    refine iq_aload_n hS 54 J_MDotRows_cell_d53 l12 rfl ?_
    refine iq_getI hS 57 J_MDotRows_cell_d54 lf_12_37 (Or.inl rfl) (ka_89 hM) rfl ?_
    refine iq_if_ne hS 60 J_MDotRows_cell_d57 (t := 79) rfl (fun q57 => ?_) rfl (fun q57 => ?_)
    · replace h := ed_pos q57 h
      exact iq_ret J_MDotRows_cell_d79 rfl ⟨rfl, hM, ed_some h⟩
    · replace h := ed_neg q57 h
      refine iq_aload_n hS 61 J_MDotRows_cell_d60 l12 rfl ?_
      refine iq_getR hS 64 J_MDotRows_cell_d61 lf_12_30 (Or.inr ⟨_, rfl⟩) (ka_89 hM) (ra_89_9 hM) rfl ?_
      refine iq_sipush hS 67 J_MDotRows_cell_d64 (v := 8192) (by decide +kernel) rfl ?_
      refine iq_iload_n hS 68 J_MDotRows_cell_d67 l13 rfl ?_
      refine iq_imul hS 69 J_MDotRows_cell_d68 rfl ?_
      refine iq_bipush hS 71 J_MDotRows_cell_d69 (v := 32) (by decide +kernel) rfl ?_
      refine iq_iload_n hS 72 J_MDotRows_cell_d71 l14 rfl ?_
      refine iq_imul hS 73 J_MDotRows_cell_d72 rfl ?_
      refine iq_iadd hS 74 J_MDotRows_cell_d73 rfl ?_
      refine iq_iload_n hS 75 J_MDotRows_cell_d74 l15 rfl ?_
      refine iq_iadd hS 76 J_MDotRows_cell_d75 rfl ?_
      refine iq_iload hS 78 J_MDotRows_cell_d76 l16 rfl ?_
      obtain ⟨g78, h⟩ := ed_gd h
      refine iq_iastore hS 79 J_MDotRows_cell_d78 ⟨(ka_94 hM).1, (ka_94 hM).2, g78.1, ix_lt (kl_94 hM) g78.2⟩ rfl ?_
      exact iq_ret J_MDotRows_cell_d79 rfl ⟨rfl, hM, ed_some h⟩
  obtain ⟨k3, Q3, hQ3, hk3, h⟩ := jn0_ed h
  have J3 : ∀  (L' : List (Nat × Value)), im_lk L' 0 = some (.ref 89) → im_lk L' 1 = some (.int p0) → im_lk L' 2 = some (.int p1) → im_lk L' 3 = some (.int p2) → im_lk L' 4 = some (.int p3) → Q3 () → ia (tb_G L xs) (dep + 1) J_MDotRows_cell (rwV w Q) (21, L', [.ref 89], M) := by
    intro  L' l6 l7 l8 l9 l10 h
    replace h := hQ3  h
    refine iq_iconst hS 22 J_MDotRows_cell_d21 (v := 1) (by decide +kernel) rfl ?_
    refine iq_goto hS J_MDotRows_cell_d22 (t := 50) rfl ?_
    exact J2 _ _ l6 l7 l8 l9 l10 (ed_some h)
  refine iq_if_ne hS 10 J_MDotRows_cell_d7 (t := 21) rfl (fun q7 => ?_) rfl (fun q7 => ?_)
  · replace h := ed_pos q7 h
    exact J3  _ l0 l1 l2 l3 l4 (hk3  h)
  · replace h := ed_neg q7 h
    refine iq_iload_n hS 11 J_MDotRows_cell_d10 l2 rfl ?_
    refine iq_iconst hS 12 J_MDotRows_cell_d11 (v := 0) (by decide +kernel) rfl ?_
    refine iq_sipush hS 15 J_MDotRows_cell_d12 (v := 255) (by decide +kernel) rfl ?_
    obtain ⟨Q4, hQ4, h⟩ := bd1_ed h
    refine iq_cpI hS 18 J_MDotRows_cell_d15 rfl (pr_stat (vs := [_, _, _]) lc_12_121 lT_267 rfl rfl (by decide) rfl (Nat.le_of_ble_eq_true rfl) (Nat.le_of_ble_eq_true rfl)) (f_MDotRows_isNot_ok (dep := dep + 0) hM h) rfl ?_
    intro x4 h
    replace h := hQ4 _ h
    refine iq_if_eq hS 21 J_MDotRows_cell_d18 (t := 25) rfl (fun q18 => ?_) rfl (fun q18 => ?_)
    · replace h := ed_pos q18 h
      refine iq_iload_n hS 26 J_MDotRows_cell_d25 l3 rfl ?_
      refine iq_iconst hS 27 J_MDotRows_cell_d26 (v := 0) (by decide +kernel) rfl ?_
      refine iq_aload_n hS 28 J_MDotRows_cell_d27 l0 rfl ?_
      refine iq_getR hS 31 J_MDotRows_cell_d28 lf_12_27 (Or.inr ⟨_, rfl⟩) (ka_89 hM) (ra_89_8 hM) rfl ?_
      refine iq_iconst hS 32 J_MDotRows_cell_d31 (v := 3) (by decide +kernel) rfl ?_
      refine iq_iload_n hS 33 J_MDotRows_cell_d32 l1 rfl ?_
      refine iq_imul hS 34 J_MDotRows_cell_d33 rfl ?_
      refine iq_iconst hS 35 J_MDotRows_cell_d34 (v := 1) (by decide +kernel) rfl ?_
      refine iq_iadd hS 36 J_MDotRows_cell_d35 rfl ?_
      obtain ⟨g36, h⟩ := ed_gd h
      refine iq_iaload hS 37 J_MDotRows_cell_d36 ⟨(ka_93 hM).1, (ka_93 hM).2, g36.1, ix_lt (kl_93 hM) g36.2⟩ rfl ?_
      refine iq_iconst hS 38 J_MDotRows_cell_d37 (v := 1) (by decide +kernel) rfl ?_
      refine iq_isub hS 39 J_MDotRows_cell_d38 rfl ?_
      obtain ⟨Q5, hQ5, h⟩ := bd1_ed h
      refine iq_cpI hS 42 J_MDotRows_cell_d39 rfl (pr_stat (vs := [_, _, _]) lc_12_121 lT_267 rfl rfl (by decide) rfl (Nat.le_of_ble_eq_true rfl) (Nat.le_of_ble_eq_true rfl)) (f_MDotRows_isNot_ok (dep := dep + 0) hM h) rfl ?_
      intro x5 h
      replace h := hQ5 _ h
      refine iq_if_eq hS 45 J_MDotRows_cell_d42 (t := 49) rfl (fun q42 => ?_) rfl (fun q42 => ?_)
      · replace h := ed_pos q42 h
        refine iq_iconst hS 50 J_MDotRows_cell_d49 (v := 0) (by decide +kernel) rfl ?_
        exact J2 _ _ l0 l1 l2 l3 l4 (ed_some h)
      · replace h := ed_neg q42 h
        refine iq_iconst hS 46 J_MDotRows_cell_d45 (v := 2) (by decide +kernel) rfl ?_
        refine iq_goto hS J_MDotRows_cell_d46 (t := 50) rfl ?_
        exact J2 _ _ l0 l1 l2 l3 l4 (ed_some h)
    · replace h := ed_neg q18 h
      exact J3  _ l0 l1 l2 l3 l4 (hk3  h)
noncomputable def f_M_cell (p0 : Int32) (p1 : Int32) (p2 : Int32) (p3 : Int32) (M : im_M) : Option (im_M) := bd1 (f_MDotRows_cell p0 p1 p2 p3 M) fun (M1 : im_M) => bd1 (f_MDotRows_thrown M1) fun (x2 : Int32) => some (im_setI M1 69 0 x2)
theorem J_M_cell_d0 : decode J_M_cell.2.1 0 = .ok (.aload_n 0, 1) := by decide +kernel
theorem J_M_cell_d1 : decode J_M_cell.2.1 1 = .ok (.getfield 23, 3) := by decide +kernel
theorem J_M_cell_d4 : decode J_M_cell.2.1 4 = .ok (.iload_n 1, 1) := by decide +kernel
theorem J_M_cell_d5 : decode J_M_cell.2.1 5 = .ok (.iload_n 2, 1) := by decide +kernel
theorem J_M_cell_d6 : decode J_M_cell.2.1 6 = .ok (.iload_n 3, 1) := by decide +kernel
theorem J_M_cell_d7 : decode J_M_cell.2.1 7 = .ok (.iload 4, 2) := by decide +kernel
theorem J_M_cell_d9 : decode J_M_cell.2.1 9 = .ok (.invokevirtual 73, 3) := by decide +kernel
theorem J_M_cell_d12 : decode J_M_cell.2.1 12 = .ok (.aload_n 0, 1) := by decide +kernel
theorem J_M_cell_d13 : decode J_M_cell.2.1 13 = .ok (.aload_n 0, 1) := by decide +kernel
theorem J_M_cell_d14 : decode J_M_cell.2.1 14 = .ok (.getfield 23, 3) := by decide +kernel
theorem J_M_cell_d17 : decode J_M_cell.2.1 17 = .ok (.invokevirtual 70, 3) := by decide +kernel
theorem J_M_cell_d20 : decode J_M_cell.2.1 20 = .ok (.putfield 58, 3) := by decide +kernel
theorem J_M_cell_d23 : decode J_M_cell.2.1 23 = .ok (.return_, 1) := by decide +kernel
theorem f_M_cell_ok {L : Nat} {xs : Nat → Int32} {dep : Nat} {w : Bool} {p0 : Int32} {p1 : Int32} {p2 : Int32} {p3 : Int32} {M : im_M} {Q : im_M → Prop} (hM : lw_S w M) (h : ed (f_M_cell p0 p1 p2 p3 M) Q) : ia (tb_G L xs) (dep + 2) J_M_cell (rwV w Q) (0, lv_args 0 [.ref 69, .int p0, .int p1, .int p2, .int p3], [], M) := by
  have hS : im_St (tb_G L xs) (dep + 2) J_M_cell (ia (tb_G L xs) (dep + 2) J_M_cell (rwV w Q)) := ia_St
  unfold f_M_cell at h
  have l0 : im_lk (lv_args 0 [.ref 69, .int p0, .int p1, .int p2, .int p3]) 0 = some (.ref 69) := rfl
  have l1 : im_lk (lv_args 0 [.ref 69, .int p0, .int p1, .int p2, .int p3]) 1 = some (.int p0) := rfl
  have l2 : im_lk (lv_args 0 [.ref 69, .int p0, .int p1, .int p2, .int p3]) 2 = some (.int p1) := rfl
  have l3 : im_lk (lv_args 0 [.ref 69, .int p0, .int p1, .int p2, .int p3]) 3 = some (.int p2) := rfl
  have l4 : im_lk (lv_args 0 [.ref 69, .int p0, .int p1, .int p2, .int p3]) 4 = some (.int p3) := rfl
  refine iq_aload_n hS 1 J_M_cell_d0 l0 rfl ?_
  refine iq_getR hS 4 J_M_cell_d1 lf_17_23 (Or.inl ⟨_, rfl⟩) (ka_69 hM) (ra_69_4 hM) rfl ?_
  refine iq_iload_n hS 5 J_M_cell_d4 l1 rfl ?_
  refine iq_iload_n hS 6 J_M_cell_d5 l2 rfl ?_
  refine iq_iload_n hS 7 J_M_cell_d6 l3 rfl ?_
  refine iq_iload hS 9 J_M_cell_d7 l4 rfl ?_
  obtain ⟨Q1, hQ1, h⟩ := bd1_ed h
  refine iq_cwV hS 12 J_M_cell_d9 rfl (pr_inst (vs := [_, _, _, _]) lc_17_73 lT_270 rfl rfl (by decide) (by decide) rfl (Nat.le_of_ble_eq_true rfl) (Nat.le_of_ble_eq_true rfl) (fun _ => Or.inl (pr_b (ka_89 hM) (by decide) rfl))) (f_MDotRows_cell_ok (dep := dep + 0) hM h) rfl ?_
  intro M1 hM1 h
  replace h := hQ1 _ h
  refine iq_aload_n hS 13 J_M_cell_d12 l0 rfl ?_
  refine iq_aload_n hS 14 J_M_cell_d13 l0 rfl ?_
  refine iq_getR hS 17 J_M_cell_d14 lf_17_23 (Or.inl ⟨_, rfl⟩) (ka_69 hM1) (ra_69_4 hM1) rfl ?_
  obtain ⟨Q2, hQ2, h⟩ := bd1_ed h
  refine iq_cpI hS 20 J_M_cell_d17 rfl (pr_inst (vs := []) lc_17_70 lT_268 rfl rfl (by decide) (by decide) rfl (Nat.le_of_ble_eq_true rfl) (Nat.le_of_ble_eq_true rfl) (fun _ => Or.inl (pr_b (ka_89 hM1) (by decide) rfl))) (f_MDotRows_thrown_ok (dep := dep + 1) hM1 h) rfl ?_
  intro x2 h
  replace h := hQ2 _ h
  refine iq_putI hS 23 J_M_cell_d20 lf_17_58 (Or.inl rfl) rfl (ka_69 hM1) rfl ?_
  exact iq_ret J_M_cell_d23 rfl ⟨rfl, hM1, ed_some h⟩
noncomputable def f_MScriptRows_wipe (M : im_M) : Option (Int32 × im_M) := some ((im_i (im_setI M 71 0 0) 71 2), (im_setI (im_setI M 71 0 0) 71 2 0))
theorem J_MScriptRows_wipe_d0 : decode J_MScriptRows_wipe.2.1 0 = .ok (.aload_n 0, 1) := by decide +kernel
theorem J_MScriptRows_wipe_d1 : decode J_MScriptRows_wipe.2.1 1 = .ok (.iconst 0, 1) := by decide +kernel
theorem J_MScriptRows_wipe_d2 : decode J_MScriptRows_wipe.2.1 2 = .ok (.putfield 65, 3) := by decide +kernel
theorem J_MScriptRows_wipe_d5 : decode J_MScriptRows_wipe.2.1 5 = .ok (.aload_n 0, 1) := by decide +kernel
theorem J_MScriptRows_wipe_d6 : decode J_MScriptRows_wipe.2.1 6 = .ok (.getfield 68, 3) := by decide +kernel
theorem J_MScriptRows_wipe_d9 : decode J_MScriptRows_wipe.2.1 9 = .ok (.istore_n 1, 1) := by decide +kernel
theorem J_MScriptRows_wipe_d10 : decode J_MScriptRows_wipe.2.1 10 = .ok (.aload_n 0, 1) := by decide +kernel
theorem J_MScriptRows_wipe_d11 : decode J_MScriptRows_wipe.2.1 11 = .ok (.iconst 0, 1) := by decide +kernel
theorem J_MScriptRows_wipe_d12 : decode J_MScriptRows_wipe.2.1 12 = .ok (.putfield 68, 3) := by decide +kernel
theorem J_MScriptRows_wipe_d15 : decode J_MScriptRows_wipe.2.1 15 = .ok (.iload_n 1, 1) := by decide +kernel
theorem J_MScriptRows_wipe_d16 : decode J_MScriptRows_wipe.2.1 16 = .ok (.ireturn, 1) := by decide +kernel
theorem f_MScriptRows_wipe_ok {L : Nat} {xs : Nat → Int32} {dep : Nat} {w : Bool} {M : im_M} {Q : Int32 × im_M → Prop} (hM : lw_S w M) (h : ed (f_MScriptRows_wipe M) Q) : ia (tb_G L xs) dep J_MScriptRows_wipe (rwI w Q) (0, lv_args 0 [.ref 71], [], M) := by
  have hS : im_St (tb_G L xs) dep J_MScriptRows_wipe (ia (tb_G L xs) dep J_MScriptRows_wipe (rwI w Q)) := ia_St
  unfold f_MScriptRows_wipe at h
  have l0 : im_lk (lv_args 0 [.ref 71]) 0 = some (.ref 71) := rfl
  refine iq_aload_n hS 1 J_MScriptRows_wipe_d0 l0 rfl ?_
  refine iq_iconst hS 2 J_MScriptRows_wipe_d1 (v := 0) (by decide +kernel) rfl ?_
  refine iq_putI hS 5 J_MScriptRows_wipe_d2 lf_15_65 (Or.inl rfl) rfl (ka_71 hM) rfl ?_
  refine iq_aload_n hS 6 J_MScriptRows_wipe_d5 l0 rfl ?_
  refine iq_getI hS 9 J_MScriptRows_wipe_d6 lf_15_68 (Or.inl rfl) (ka_71 hM) rfl ?_
  refine iq_istore_n hS 10 J_MScriptRows_wipe_d9 (by decide) rfl ?_
  refine iq_aload_n hS 11 J_MScriptRows_wipe_d10 (lk_1r l0 (by decide)) rfl ?_
  refine iq_iconst hS 12 J_MScriptRows_wipe_d11 (v := 0) (by decide +kernel) rfl ?_
  refine iq_putI hS 15 J_MScriptRows_wipe_d12 lf_15_68 (Or.inl rfl) rfl (ka_71 hM) rfl ?_
  refine iq_iload_n hS 16 J_MScriptRows_wipe_d15 lk_1s rfl ?_
  exact iq_iret J_MScriptRows_wipe_d16 rfl rfl ⟨_, rfl, hM, ed_some h⟩
noncomputable def f_MScriptRows_write_L46 (v3 : Int32) (v4 : Int64) (x5 : Int32) (M6 : im_M) : Option ((Int32 × im_M) ⊕ (im_M)) := if v3 ≤ x5 then some (.inr M6) else gd (inb (im_i M6 71 2) 4096) <| some (.inl ((x5 + 1), (im_setI (im_setI M6 72 (Int32.toNatClampNeg (im_i M6 71 2)) (Int64.toInt32 ((v4 >>> (Int32.toInt64 ((8 : Int32) * x5) &&& 63)) &&& 255))) 71 2 ((im_i (im_setI M6 72 (Int32.toNatClampNeg (im_i M6 71 2)) (Int64.toInt32 ((v4 >>> (Int32.toInt64 ((8 : Int32) * x5) &&& 63)) &&& 255))) 71 2) + 1))))
noncomputable def f_MScriptRows_write (p0 : Int32) (p1 : Int64) (M : im_M) : Option (Int32 × im_M) := if (im_i (im_setI M 71 0 ((if p0 < 1 then 1 else (if p0 ≤ 8 then 0 else 1)) : Int32)) 71 0) ≤ 0 then if ((im_i (im_setI M 71 0 ((if p0 < 1 then 1 else (if p0 ≤ 8 then 0 else 1)) : Int32)) 71 2) + p0) ≤ 4096 then bd1 (lp (uc2 (f_MScriptRows_write_L46 p0 p1)) (0, (im_setI M 71 0 ((if p0 < 1 then 1 else (if p0 ≤ 8 then 0 else 1)) : Int32)))) fun (M7 : im_M) => some ((im_i M7 71 2), M7) else some ((-1), (im_setI M 71 0 ((if p0 < 1 then 1 else (if p0 ≤ 8 then 0 else 1)) : Int32))) else some (0, (im_setI M 71 0 ((if p0 < 1 then 1 else (if p0 ≤ 8 then 0 else 1)) : Int32)))
theorem J_MScriptRows_write_d0 : decode J_MScriptRows_write.2.1 0 = .ok (.aload_n 0, 1) := by decide +kernel
theorem J_MScriptRows_write_d1 : decode J_MScriptRows_write.2.1 1 = .ok (.iload_n 1, 1) := by decide +kernel
theorem J_MScriptRows_write_d2 : decode J_MScriptRows_write.2.1 2 = .ok (.iconst 1, 1) := by decide +kernel
theorem J_MScriptRows_write_d3 : decode J_MScriptRows_write.2.1 3 = .ok (.if_icmp .lt 9, 3) := by decide +kernel
theorem J_MScriptRows_write_d6 : decode J_MScriptRows_write.2.1 6 = .ok (.iload_n 1, 1) := by decide +kernel
theorem J_MScriptRows_write_d7 : decode J_MScriptRows_write.2.1 7 = .ok (.bipush 8, 2) := by decide +kernel
theorem J_MScriptRows_write_d9 : decode J_MScriptRows_write.2.1 9 = .ok (.if_icmp .le 7, 3) := by decide +kernel
theorem J_MScriptRows_write_d12 : decode J_MScriptRows_write.2.1 12 = .ok (.iconst 1, 1) := by decide +kernel
theorem J_MScriptRows_write_d13 : decode J_MScriptRows_write.2.1 13 = .ok (.goto 4, 3) := by decide +kernel
theorem J_MScriptRows_write_d16 : decode J_MScriptRows_write.2.1 16 = .ok (.iconst 0, 1) := by decide +kernel
theorem J_MScriptRows_write_d17 : decode J_MScriptRows_write.2.1 17 = .ok (.putfield 65, 3) := by decide +kernel
theorem J_MScriptRows_write_d20 : decode J_MScriptRows_write.2.1 20 = .ok (.aload_n 0, 1) := by decide +kernel
theorem J_MScriptRows_write_d21 : decode J_MScriptRows_write.2.1 21 = .ok (.getfield 65, 3) := by decide +kernel
theorem J_MScriptRows_write_d24 : decode J_MScriptRows_write.2.1 24 = .ok (.ifCond .le 5, 3) := by decide +kernel
theorem J_MScriptRows_write_d27 : decode J_MScriptRows_write.2.1 27 = .ok (.iconst 0, 1) := by decide +kernel
theorem J_MScriptRows_write_d28 : decode J_MScriptRows_write.2.1 28 = .ok (.ireturn, 1) := by decide +kernel
theorem J_MScriptRows_write_d29 : decode J_MScriptRows_write.2.1 29 = .ok (.aload_n 0, 1) := by decide +kernel
theorem J_MScriptRows_write_d30 : decode J_MScriptRows_write.2.1 30 = .ok (.getfield 68, 3) := by decide +kernel
theorem J_MScriptRows_write_d33 : decode J_MScriptRows_write.2.1 33 = .ok (.iload_n 1, 1) := by decide +kernel
theorem J_MScriptRows_write_d34 : decode J_MScriptRows_write.2.1 34 = .ok (.iadd, 1) := by decide +kernel
theorem J_MScriptRows_write_d35 : decode J_MScriptRows_write.2.1 35 = .ok (.sipush 4096, 3) := by decide +kernel
theorem J_MScriptRows_write_d38 : decode J_MScriptRows_write.2.1 38 = .ok (.if_icmp .le 5, 3) := by decide +kernel
theorem J_MScriptRows_write_d41 : decode J_MScriptRows_write.2.1 41 = .ok (.iconst (-1), 1) := by decide +kernel
theorem J_MScriptRows_write_d42 : decode J_MScriptRows_write.2.1 42 = .ok (.ireturn, 1) := by decide +kernel
theorem J_MScriptRows_write_d43 : decode J_MScriptRows_write.2.1 43 = .ok (.iconst 0, 1) := by decide +kernel
theorem J_MScriptRows_write_d44 : decode J_MScriptRows_write.2.1 44 = .ok (.istore 4, 2) := by decide +kernel
theorem J_MScriptRows_write_d46 : decode J_MScriptRows_write.2.1 46 = .ok (.iload 4, 2) := by decide +kernel
theorem J_MScriptRows_write_d48 : decode J_MScriptRows_write.2.1 48 = .ok (.iload_n 1, 1) := by decide +kernel
theorem J_MScriptRows_write_d49 : decode J_MScriptRows_write.2.1 49 = .ok (.if_icmp .ge 40, 3) := by decide +kernel
theorem J_MScriptRows_write_d52 : decode J_MScriptRows_write.2.1 52 = .ok (.aload_n 0, 1) := by decide +kernel
theorem J_MScriptRows_write_d53 : decode J_MScriptRows_write.2.1 53 = .ok (.getfield 7, 3) := by decide +kernel
theorem J_MScriptRows_write_d56 : decode J_MScriptRows_write.2.1 56 = .ok (.aload_n 0, 1) := by decide +kernel
theorem J_MScriptRows_write_d57 : decode J_MScriptRows_write.2.1 57 = .ok (.getfield 68, 3) := by decide +kernel
theorem J_MScriptRows_write_d60 : decode J_MScriptRows_write.2.1 60 = .ok (.lload_n 2, 1) := by decide +kernel
theorem J_MScriptRows_write_d61 : decode J_MScriptRows_write.2.1 61 = .ok (.bipush 8, 2) := by decide +kernel
theorem J_MScriptRows_write_d63 : decode J_MScriptRows_write.2.1 63 = .ok (.iload 4, 2) := by decide +kernel
theorem J_MScriptRows_write_d65 : decode J_MScriptRows_write.2.1 65 = .ok (.imul, 1) := by decide +kernel
theorem J_MScriptRows_write_d66 : decode J_MScriptRows_write.2.1 66 = .ok (.lshr, 1) := by decide +kernel
theorem J_MScriptRows_write_d67 : decode J_MScriptRows_write.2.1 67 = .ok (.ldc2_w 71, 3) := by decide +kernel
theorem J_MScriptRows_write_d70 : decode J_MScriptRows_write.2.1 70 = .ok (.land, 1) := by decide +kernel
theorem J_MScriptRows_write_d71 : decode J_MScriptRows_write.2.1 71 = .ok (.l2i, 1) := by decide +kernel
theorem J_MScriptRows_write_d72 : decode J_MScriptRows_write.2.1 72 = .ok (.iastore, 1) := by decide +kernel
theorem J_MScriptRows_write_d73 : decode J_MScriptRows_write.2.1 73 = .ok (.aload_n 0, 1) := by decide +kernel
theorem J_MScriptRows_write_d74 : decode J_MScriptRows_write.2.1 74 = .ok (.dup, 1) := by decide +kernel
theorem J_MScriptRows_write_d75 : decode J_MScriptRows_write.2.1 75 = .ok (.getfield 68, 3) := by decide +kernel
theorem J_MScriptRows_write_d78 : decode J_MScriptRows_write.2.1 78 = .ok (.iconst 1, 1) := by decide +kernel
theorem J_MScriptRows_write_d79 : decode J_MScriptRows_write.2.1 79 = .ok (.iadd, 1) := by decide +kernel
theorem J_MScriptRows_write_d80 : decode J_MScriptRows_write.2.1 80 = .ok (.putfield 68, 3) := by decide +kernel
theorem J_MScriptRows_write_d83 : decode J_MScriptRows_write.2.1 83 = .ok (.iinc 4 1, 3) := by decide +kernel
theorem J_MScriptRows_write_d86 : decode J_MScriptRows_write.2.1 86 = .ok (.goto (-40), 3) := by decide +kernel
theorem J_MScriptRows_write_d89 : decode J_MScriptRows_write.2.1 89 = .ok (.aload_n 0, 1) := by decide +kernel
theorem J_MScriptRows_write_d90 : decode J_MScriptRows_write.2.1 90 = .ok (.getfield 68, 3) := by decide +kernel
theorem J_MScriptRows_write_d93 : decode J_MScriptRows_write.2.1 93 = .ok (.ireturn, 1) := by decide +kernel
theorem f_MScriptRows_write_ok {L : Nat} {xs : Nat → Int32} {dep : Nat} {w : Bool} {p0 : Int32} {p1 : Int64} {M : im_M} {Q : Int32 × im_M → Prop} (hM : lw_S w M) (h : ed (f_MScriptRows_write p0 p1 M) Q) : ia (tb_G L xs) dep J_MScriptRows_write (rwI w Q) (0, lv_args 0 [.ref 71, .int p0, .long p1], [], M) := by
  have hS : im_St (tb_G L xs) dep J_MScriptRows_write (ia (tb_G L xs) dep J_MScriptRows_write (rwI w Q)) := ia_St
  unfold f_MScriptRows_write at h
  have l0 : im_lk (lv_args 0 [.ref 71, .int p0, .long p1]) 0 = some (.ref 71) := rfl
  have l1 : im_lk (lv_args 0 [.ref 71, .int p0, .long p1]) 1 = some (.int p0) := rfl
  have l2 : im_lk (lv_args 0 [.ref 71, .int p0, .long p1]) 2 = some (.long p1) := rfl
  refine iq_aload_n hS 1 J_MScriptRows_write_d0 l0 rfl ?_
  refine iq_iload_n hS 2 J_MScriptRows_write_d1 l1 rfl ?_
  refine iq_iconst hS 3 J_MScriptRows_write_d2 (v := 1) (by decide +kernel) rfl ?_
  have J1 : ∀ (z2 : Int32) (L' : List (Nat × Value)), z2 = ((if p0 < 1 then 1 else (if p0 ≤ 8 then 0 else 1)) : Int32) → im_lk L' 0 = some (.ref 71) → im_lk L' 1 = some (.int p0) → im_lk L' 2 = some (.long p1) → ia (tb_G L xs) dep J_MScriptRows_write (rwI w Q) (17, L', [.int z2, .ref 71], M) := by
    intro z2 L' e3 l4 l5 l6
    subst e3
    refine iq_putI hS 20 J_MScriptRows_write_d17 lf_15_65 (Or.inl rfl) rfl (ka_71 hM) rfl ?_
    refine iq_aload_n hS 21 J_MScriptRows_write_d20 l4 rfl ?_
    refine iq_getI hS 24 J_MScriptRows_write_d21 lf_15_65 (Or.inl rfl) (ka_71 hM) rfl ?_
    refine iq_if_le hS 27 J_MScriptRows_write_d24 (t := 29) rfl (fun q24 => ?_) rfl (fun q24 => ?_)
    · replace h := ed_pos q24 h
      refine iq_aload_n hS 30 J_MScriptRows_write_d29 l4 rfl ?_
      refine iq_getI hS 33 J_MScriptRows_write_d30 lf_15_68 (Or.inl rfl) (ka_71 hM) rfl ?_
      refine iq_iload_n hS 34 J_MScriptRows_write_d33 l5 rfl ?_
      refine iq_iadd hS 35 J_MScriptRows_write_d34 rfl ?_
      refine iq_sipush hS 38 J_MScriptRows_write_d35 (v := 4096) (by decide +kernel) rfl ?_
      refine iq_icmp_le hS 41 J_MScriptRows_write_d38 (t := 43) rfl (fun q38 => ?_) rfl (fun q38 => ?_)
      · replace h := ed_pos q38 h
        refine iq_iconst hS 44 J_MScriptRows_write_d43 (v := 0) (by decide +kernel) rfl ?_
        refine iq_istore hS 46 J_MScriptRows_write_d44 (by decide) rfl ?_
        obtain ⟨Q7, hQ7, h⟩ := bd1_ed h
        have K7 : ∀ (M8 : im_M) (L' : List (Nat × Value)), lw_S w M8 → im_lk L' 0 = some (.ref 71) → Q7 M8 → ia (tb_G L xs) dep J_MScriptRows_write (rwI w Q) (89, L', [], M8) := by
          intro M8 L' hM8 l9 h
          replace h := hQ7 _ h
          refine iq_aload_n hS 90 J_MScriptRows_write_d89 l9 rfl ?_
          refine iq_getI hS 93 J_MScriptRows_write_d90 lf_15_68 (Or.inl rfl) (ka_71 hM8) rfl ?_
          exact iq_iret J_MScriptRows_write_d93 rfl rfl ⟨_, rfl, hM8, ed_some h⟩
        obtain ⟨r7, hr7, hq7⟩ := h
        obtain ⟨n7, hn7⟩ := lp_n hr7
        have I7 : ∀ (n : Nat) (x10 : Int32) (M11 : im_M) (L' : List (Nat × Value)), lw_S w M11 → im_lk L' 0 = some (.ref 71) → im_lk L' 1 = some (.int p0) → im_lk L' 2 = some (.long p1) → im_lk L' 4 = some (.int x10) → lpn (uc2 (f_MScriptRows_write_L46 p0 p1)) n (x10, M11) = some r7 → ia (tb_G L xs) dep J_MScriptRows_write (rwI w Q) (46, L', [], M11) := by
          intro n
          induction n with
          | zero => intro x10 M11 L' hM11 l12 l13 l14 l15 hn; exact (lpn_0 hn).elim
          | succ n ih =>
            intro x10 M11 L' hM11 l12 l13 l14 l15 hn
            have h := lpn_ed2 hn
            unfold f_MScriptRows_write_L46 at h
            refine iq_iload hS 48 J_MScriptRows_write_d46 l15 rfl ?_
            refine iq_iload_n hS 49 J_MScriptRows_write_d48 l13 rfl ?_
            refine iq_icmp_ge hS 52 J_MScriptRows_write_d49 (t := 89) rfl (fun q49 => ?_) rfl (fun q49 => ?_)
            · replace h := ed_pos q49 h
              exact K7 _ _ hM11 l12 (lq_r h hq7)
            · replace h := ed_neg q49 h
              refine iq_aload_n hS 53 J_MScriptRows_write_d52 l12 rfl ?_
              refine iq_getR hS 56 J_MScriptRows_write_d53 lf_15_7 (Or.inr ⟨_, rfl⟩) (ka_71 hM11) (ra_71_1 hM11) rfl ?_
              refine iq_aload_n hS 57 J_MScriptRows_write_d56 l12 rfl ?_
              refine iq_getI hS 60 J_MScriptRows_write_d57 lf_15_68 (Or.inl rfl) (ka_71 hM11) rfl ?_
              refine iq_lload_n hS 61 J_MScriptRows_write_d60 l14 rfl ?_
              refine iq_bipush hS 63 J_MScriptRows_write_d61 (v := 8) (by decide +kernel) rfl ?_
              refine iq_iload hS 65 J_MScriptRows_write_d63 l15 rfl ?_
              refine iq_imul hS 66 J_MScriptRows_write_d65 rfl ?_
              refine iq_lshr hS 67 J_MScriptRows_write_d66 rfl ?_
              refine iq_ldc2_w hS 70 J_MScriptRows_write_d67 lk_15_71 rfl ?_
              refine iq_land hS 71 J_MScriptRows_write_d70 rfl ?_
              refine iq_l2i hS 72 J_MScriptRows_write_d71 rfl ?_
              obtain ⟨g72, h⟩ := ed_gd h
              refine iq_iastore hS 73 J_MScriptRows_write_d72 ⟨(ka_72 hM11).1, (ka_72 hM11).2, g72.1, ix_lt (kl_72 hM11) g72.2⟩ rfl ?_
              refine iq_aload_n hS 74 J_MScriptRows_write_d73 l12 rfl ?_
              refine iq_dup hS 75 J_MScriptRows_write_d74 rfl rfl ?_
              refine iq_getI hS 78 J_MScriptRows_write_d75 lf_15_68 (Or.inl rfl) (ka_71 hM11) rfl ?_
              refine iq_iconst hS 79 J_MScriptRows_write_d78 (v := 1) (by decide +kernel) rfl ?_
              refine iq_iadd hS 80 J_MScriptRows_write_d79 rfl ?_
              refine iq_putI hS 83 J_MScriptRows_write_d80 lf_15_68 (Or.inl rfl) rfl (ka_71 hM11) rfl ?_
              refine iq_iincv hS 86 J_MScriptRows_write_d83 (c := 1) (by decide +kernel) l15 (by decide) rfl ?_
              refine iq_goto hS J_MScriptRows_write_d86 (t := 46) rfl ?_
              exact ih _ _ _ hM11 (lk_1r l12 (by decide)) (lk_1i l13 (by decide)) (lk_1l l14 (by decide) (by decide)) lk_1s (lq_l h)
        exact I7 n7 _ _ _ hM (lk_1r l4 (by decide)) (lk_1i l5 (by decide)) (lk_1l l6 (by decide) (by decide)) lk_1s hn7
      · replace h := ed_neg q38 h
        refine iq_iconst hS 42 J_MScriptRows_write_d41 (v := (-1)) (by decide +kernel) rfl ?_
        exact iq_iret J_MScriptRows_write_d42 rfl rfl ⟨_, rfl, hM, ed_some h⟩
    · replace h := ed_neg q24 h
      refine iq_iconst hS 28 J_MScriptRows_write_d27 (v := 0) (by decide +kernel) rfl ?_
      exact iq_iret J_MScriptRows_write_d28 rfl rfl ⟨_, rfl, hM, ed_some h⟩
  refine iq_icmp_lt hS 6 J_MScriptRows_write_d3 (t := 12) rfl (fun q3 => ?_) rfl (fun q3 => ?_)
  · refine iq_iconst hS 13 J_MScriptRows_write_d12 (v := 1) (by decide +kernel) rfl ?_
    refine iq_goto hS J_MScriptRows_write_d13 (t := 17) rfl ?_
    exact J1 _ _ (by rw [if_pos q3]) l0 l1 l2
  · refine iq_iload_n hS 7 J_MScriptRows_write_d6 l1 rfl ?_
    refine iq_bipush hS 9 J_MScriptRows_write_d7 (v := 8) (by decide +kernel) rfl ?_
    refine iq_icmp_le hS 12 J_MScriptRows_write_d9 (t := 16) rfl (fun q9 => ?_) rfl (fun q9 => ?_)
    · refine iq_iconst hS 17 J_MScriptRows_write_d16 (v := 0) (by decide +kernel) rfl ?_
      exact J1 _ _ (by rw [if_neg q3, if_pos q9]) l0 l1 l2
    · refine iq_iconst hS 13 J_MScriptRows_write_d12 (v := 1) (by decide +kernel) rfl ?_
      refine iq_goto hS J_MScriptRows_write_d13 (t := 17) rfl ?_
      exact J1 _ _ (by rw [if_neg q3, if_neg q9]) l0 l1 l2
noncomputable def f_MScriptRows_peek (M : im_M) : Option (Int32) := if ¬ (im_i M 71 8) = 0 then gd (inb ((im_i M 71 8) - 1) 5800) <| some (im_i M 77 (Int32.toNatClampNeg ((im_i M 71 8) - 1))) else some (-1)
theorem J_MScriptRows_peek_d0 : decode J_MScriptRows_peek.2.1 0 = .ok (.aload_n 0, 1) := by decide +kernel
theorem J_MScriptRows_peek_d1 : decode J_MScriptRows_peek.2.1 1 = .ok (.getfield 73, 3) := by decide +kernel
theorem J_MScriptRows_peek_d4 : decode J_MScriptRows_peek.2.1 4 = .ok (.ifCond .ne 7, 3) := by decide +kernel
theorem J_MScriptRows_peek_d7 : decode J_MScriptRows_peek.2.1 7 = .ok (.iconst (-1), 1) := by decide +kernel
theorem J_MScriptRows_peek_d8 : decode J_MScriptRows_peek.2.1 8 = .ok (.goto 14, 3) := by decide +kernel
theorem J_MScriptRows_peek_d11 : decode J_MScriptRows_peek.2.1 11 = .ok (.aload_n 0, 1) := by decide +kernel
theorem J_MScriptRows_peek_d12 : decode J_MScriptRows_peek.2.1 12 = .ok (.getfield 25, 3) := by decide +kernel
theorem J_MScriptRows_peek_d15 : decode J_MScriptRows_peek.2.1 15 = .ok (.aload_n 0, 1) := by decide +kernel
theorem J_MScriptRows_peek_d16 : decode J_MScriptRows_peek.2.1 16 = .ok (.getfield 73, 3) := by decide +kernel
theorem J_MScriptRows_peek_d19 : decode J_MScriptRows_peek.2.1 19 = .ok (.iconst 1, 1) := by decide +kernel
theorem J_MScriptRows_peek_d20 : decode J_MScriptRows_peek.2.1 20 = .ok (.isub, 1) := by decide +kernel
theorem J_MScriptRows_peek_d21 : decode J_MScriptRows_peek.2.1 21 = .ok (.iaload, 1) := by decide +kernel
theorem J_MScriptRows_peek_d22 : decode J_MScriptRows_peek.2.1 22 = .ok (.ireturn, 1) := by decide +kernel
theorem f_MScriptRows_peek_ok {L : Nat} {xs : Nat → Int32} {dep : Nat} {w : Bool} {M : im_M} {Q : Int32 → Prop} (hM : lw_S w M) (h : ed (f_MScriptRows_peek M) Q) : ia (tb_G L xs) dep J_MScriptRows_peek (rpI M Q) (0, lv_args 0 [.ref 71], [], M) := by
  have hS : im_St (tb_G L xs) dep J_MScriptRows_peek (ia (tb_G L xs) dep J_MScriptRows_peek (rpI M Q)) := ia_St
  unfold f_MScriptRows_peek at h
  have l0 : im_lk (lv_args 0 [.ref 71]) 0 = some (.ref 71) := rfl
  refine iq_aload_n hS 1 J_MScriptRows_peek_d0 l0 rfl ?_
  refine iq_getI hS 4 J_MScriptRows_peek_d1 lf_15_73 (Or.inl rfl) (ka_71 hM) rfl ?_
  refine iq_if_ne hS 7 J_MScriptRows_peek_d4 (t := 11) rfl (fun q4 => ?_) rfl (fun q4 => ?_)
  · replace h := ed_pos q4 h
    refine iq_aload_n hS 12 J_MScriptRows_peek_d11 l0 rfl ?_
    refine iq_getR hS 15 J_MScriptRows_peek_d12 lf_15_25 (Or.inr ⟨_, rfl⟩) (ka_71 hM) (ra_71_7 hM) rfl ?_
    refine iq_aload_n hS 16 J_MScriptRows_peek_d15 l0 rfl ?_
    refine iq_getI hS 19 J_MScriptRows_peek_d16 lf_15_73 (Or.inl rfl) (ka_71 hM) rfl ?_
    refine iq_iconst hS 20 J_MScriptRows_peek_d19 (v := 1) (by decide +kernel) rfl ?_
    refine iq_isub hS 21 J_MScriptRows_peek_d20 rfl ?_
    obtain ⟨g21, h⟩ := ed_gd h
    refine iq_iaload hS 22 J_MScriptRows_peek_d21 ⟨(ka_77 hM).1, (ka_77 hM).2, g21.1, ix_lt (kl_77 hM) g21.2⟩ rfl ?_
    exact iq_iret J_MScriptRows_peek_d22 rfl rfl ⟨_, rfl, rfl, ed_some h⟩
  · replace h := ed_neg q4 h
    refine iq_iconst hS 8 J_MScriptRows_peek_d7 (v := (-1)) (by decide +kernel) rfl ?_
    refine iq_goto hS J_MScriptRows_peek_d8 (t := 22) rfl ?_
    exact iq_iret J_MScriptRows_peek_d22 rfl rfl ⟨_, rfl, rfl, ed_some h⟩
noncomputable def f_MScriptRows_next (M : im_M) : Option (Int32 × im_M) := bd1 (f_MScriptRows_peek M) fun (x1 : Int32) => some (x1, (im_setI M 71 8 ((if ¬ (im_i M 71 8) = 0 then ((im_i M 71 8) - 1) else 0) : Int32)))
theorem J_MScriptRows_next_d0 : decode J_MScriptRows_next.2.1 0 = .ok (.aload_n 0, 1) := by decide +kernel
theorem J_MScriptRows_next_d1 : decode J_MScriptRows_next.2.1 1 = .ok (.invokevirtual 76, 3) := by decide +kernel
theorem J_MScriptRows_next_d4 : decode J_MScriptRows_next.2.1 4 = .ok (.istore_n 1, 1) := by decide +kernel
theorem J_MScriptRows_next_d5 : decode J_MScriptRows_next.2.1 5 = .ok (.aload_n 0, 1) := by decide +kernel
theorem J_MScriptRows_next_d6 : decode J_MScriptRows_next.2.1 6 = .ok (.aload_n 0, 1) := by decide +kernel
theorem J_MScriptRows_next_d7 : decode J_MScriptRows_next.2.1 7 = .ok (.getfield 73, 3) := by decide +kernel
theorem J_MScriptRows_next_d10 : decode J_MScriptRows_next.2.1 10 = .ok (.ifCond .ne 7, 3) := by decide +kernel
theorem J_MScriptRows_next_d13 : decode J_MScriptRows_next.2.1 13 = .ok (.iconst 0, 1) := by decide +kernel
theorem J_MScriptRows_next_d14 : decode J_MScriptRows_next.2.1 14 = .ok (.goto 9, 3) := by decide +kernel
theorem J_MScriptRows_next_d17 : decode J_MScriptRows_next.2.1 17 = .ok (.aload_n 0, 1) := by decide +kernel
theorem J_MScriptRows_next_d18 : decode J_MScriptRows_next.2.1 18 = .ok (.getfield 73, 3) := by decide +kernel
theorem J_MScriptRows_next_d21 : decode J_MScriptRows_next.2.1 21 = .ok (.iconst 1, 1) := by decide +kernel
theorem J_MScriptRows_next_d22 : decode J_MScriptRows_next.2.1 22 = .ok (.isub, 1) := by decide +kernel
theorem J_MScriptRows_next_d23 : decode J_MScriptRows_next.2.1 23 = .ok (.putfield 73, 3) := by decide +kernel
theorem J_MScriptRows_next_d26 : decode J_MScriptRows_next.2.1 26 = .ok (.iload_n 1, 1) := by decide +kernel
theorem J_MScriptRows_next_d27 : decode J_MScriptRows_next.2.1 27 = .ok (.ireturn, 1) := by decide +kernel
theorem f_MScriptRows_next_ok {L : Nat} {xs : Nat → Int32} {dep : Nat} {w : Bool} {M : im_M} {Q : Int32 × im_M → Prop} (hM : lw_S w M) (h : ed (f_MScriptRows_next M) Q) : ia (tb_G L xs) (dep + 1) J_MScriptRows_next (rwI w Q) (0, lv_args 0 [.ref 71], [], M) := by
  have hS : im_St (tb_G L xs) (dep + 1) J_MScriptRows_next (ia (tb_G L xs) (dep + 1) J_MScriptRows_next (rwI w Q)) := ia_St
  unfold f_MScriptRows_next at h
  have l0 : im_lk (lv_args 0 [.ref 71]) 0 = some (.ref 71) := rfl
  refine iq_aload_n hS 1 J_MScriptRows_next_d0 l0 rfl ?_
  obtain ⟨Q1, hQ1, h⟩ := bd1_ed h
  refine iq_cpI hS 4 J_MScriptRows_next_d1 rfl (pr_inst (vs := []) lc_15_76 lT_276 rfl rfl (by decide) (by decide) rfl (Nat.le_of_ble_eq_true rfl) (Nat.le_of_ble_eq_true rfl) (fun _ => Or.inl (pr_b (ka_71 hM) (by decide) rfl))) (f_MScriptRows_peek_ok (dep := dep + 0) hM h) rfl ?_
  intro x1 h
  replace h := hQ1 _ h
  refine iq_istore_n hS 5 J_MScriptRows_next_d4 (by decide) rfl ?_
  refine iq_aload_n hS 6 J_MScriptRows_next_d5 (lk_1r l0 (by decide)) rfl ?_
  refine iq_aload_n hS 7 J_MScriptRows_next_d6 (lk_1r l0 (by decide)) rfl ?_
  refine iq_getI hS 10 J_MScriptRows_next_d7 lf_15_73 (Or.inl rfl) (ka_71 hM) rfl ?_
  have J2 : ∀ (z3 : Int32) (L' : List (Nat × Value)), z3 = ((if ¬ (im_i M 71 8) = 0 then ((im_i M 71 8) - 1) else 0) : Int32) → im_lk L' 1 = some (.int x1) → ia (tb_G L xs) (dep + 1) J_MScriptRows_next (rwI w Q) (23, L', [.int z3, .ref 71], M) := by
    intro z3 L' e4 l5
    subst e4
    refine iq_putI hS 26 J_MScriptRows_next_d23 lf_15_73 (Or.inl rfl) rfl (ka_71 hM) rfl ?_
    refine iq_iload_n hS 27 J_MScriptRows_next_d26 l5 rfl ?_
    exact iq_iret J_MScriptRows_next_d27 rfl rfl ⟨_, rfl, hM, ed_some h⟩
  refine iq_if_ne hS 13 J_MScriptRows_next_d10 (t := 17) rfl (fun q10 => ?_) rfl (fun q10 => ?_)
  · refine iq_aload_n hS 18 J_MScriptRows_next_d17 (lk_1r l0 (by decide)) rfl ?_
    refine iq_getI hS 21 J_MScriptRows_next_d18 lf_15_73 (Or.inl rfl) (ka_71 hM) rfl ?_
    refine iq_iconst hS 22 J_MScriptRows_next_d21 (v := 1) (by decide +kernel) rfl ?_
    refine iq_isub hS 23 J_MScriptRows_next_d22 rfl ?_
    exact J2 _ _ (by rw [if_pos q10]) lk_1s
  · refine iq_iconst hS 14 J_MScriptRows_next_d13 (v := 0) (by decide +kernel) rfl ?_
    refine iq_goto hS J_MScriptRows_next_d14 (t := 23) rfl ?_
    exact J2 _ _ (by rw [if_neg q10]) lk_1s
noncomputable def f_MScriptRows_numbers (p0 : Int32) (M : im_M) : Option (Int32) := if p0 = 35 ∨ p0 = 67 ∨ p0 = 75 ∨ p0 = 80 ∨ p0 = 83 ∨ p0 = 85 ∨ p0 = 86 then some 1 else if p0 = 59 ∨ p0 = 69 ∨ p0 = 82 ∨ p0 = 88 then some 0 else if p0 = 66 ∨ p0 = 68 ∨ p0 = 81 ∨ p0 = 84 ∨ p0 = 87 then some 4 else if p0 = 70 ∨ p0 = 71 ∨ p0 = 73 ∨ p0 = 78 then some 3 else if p0 = 72 ∨ p0 = 76 ∨ p0 = 79 then some 2 else some (-1)
theorem J_MScriptRows_numbers_d0 : decode J_MScriptRows_numbers.2.1 0 = .ok (.iload_n 0, 1) := by decide +kernel
theorem J_MScriptRows_numbers_d1 : decode J_MScriptRows_numbers.2.1 1 = .ok (.tableswitch 241 35 88 #[233, 241, 241, 241, 241, 241, 241, 241, 241, 241, 241, 241, 241, 241, 241, 241, 241, 241, 241, 241, 241, 241, 241, 241, 231, 241, 241, 241, 241, 241, 241, 239, 233, 239, 231, 237, 237, 235, 237, 241, 233, 235, 241, 237, 235, 233, 239, 231, 233, 239, 233, 233, 239, 231], 231) := by decide +kernel
theorem J_MScriptRows_numbers_d232 : decode J_MScriptRows_numbers.2.1 232 = .ok (.iconst 0, 1) := by decide +kernel
theorem J_MScriptRows_numbers_d233 : decode J_MScriptRows_numbers.2.1 233 = .ok (.ireturn, 1) := by decide +kernel
theorem J_MScriptRows_numbers_d234 : decode J_MScriptRows_numbers.2.1 234 = .ok (.iconst 1, 1) := by decide +kernel
theorem J_MScriptRows_numbers_d235 : decode J_MScriptRows_numbers.2.1 235 = .ok (.ireturn, 1) := by decide +kernel
theorem J_MScriptRows_numbers_d236 : decode J_MScriptRows_numbers.2.1 236 = .ok (.iconst 2, 1) := by decide +kernel
theorem J_MScriptRows_numbers_d237 : decode J_MScriptRows_numbers.2.1 237 = .ok (.ireturn, 1) := by decide +kernel
theorem J_MScriptRows_numbers_d238 : decode J_MScriptRows_numbers.2.1 238 = .ok (.iconst 3, 1) := by decide +kernel
theorem J_MScriptRows_numbers_d239 : decode J_MScriptRows_numbers.2.1 239 = .ok (.ireturn, 1) := by decide +kernel
theorem J_MScriptRows_numbers_d240 : decode J_MScriptRows_numbers.2.1 240 = .ok (.iconst 4, 1) := by decide +kernel
theorem J_MScriptRows_numbers_d241 : decode J_MScriptRows_numbers.2.1 241 = .ok (.ireturn, 1) := by decide +kernel
theorem J_MScriptRows_numbers_d242 : decode J_MScriptRows_numbers.2.1 242 = .ok (.iconst (-1), 1) := by decide +kernel
theorem J_MScriptRows_numbers_d243 : decode J_MScriptRows_numbers.2.1 243 = .ok (.ireturn, 1) := by decide +kernel
theorem f_MScriptRows_numbers_ok {L : Nat} {xs : Nat → Int32} {dep : Nat} {w : Bool} {p0 : Int32} {M : im_M} {Q : Int32 → Prop} (hM : lw_S w M) (h : ed (f_MScriptRows_numbers p0 M) Q) : ia (tb_G L xs) dep J_MScriptRows_numbers (rpI M Q) (0, lv_args 0 [.int p0], [], M) := by
  have hS : im_St (tb_G L xs) dep J_MScriptRows_numbers (ia (tb_G L xs) dep J_MScriptRows_numbers (rpI M Q)) := ia_St
  unfold f_MScriptRows_numbers at h
  have l0 : im_lk (lv_args 0 [.int p0]) 0 = some (.int p0) := rfl
  refine iq_iload_n hS 1 J_MScriptRows_numbers_d0 l0 rfl ?_
  by_cases q1_35 : p0 = 35 ∨ p0 = 67 ∨ p0 = 75 ∨ p0 = 80 ∨ p0 = 83 ∨ p0 = 85 ∨ p0 = 86
  · replace h := ed_pos q1_35 h
    refine iq_tsw hS J_MScriptRows_numbers_d1 (t := 234) (by rcases q1_35 with z | z | z | z | z | z | z <;> exact sw_v z (by decide +kernel)) ?_
    refine iq_iconst hS 235 J_MScriptRows_numbers_d234 (v := 1) (by decide +kernel) rfl ?_
    exact iq_iret J_MScriptRows_numbers_d235 rfl rfl ⟨_, rfl, rfl, ed_some h⟩
  replace h := ed_neg q1_35 h
  by_cases q1_59 : p0 = 59 ∨ p0 = 69 ∨ p0 = 82 ∨ p0 = 88
  · replace h := ed_pos q1_59 h
    refine iq_tsw hS J_MScriptRows_numbers_d1 (t := 232) (by rcases q1_59 with z | z | z | z <;> exact sw_v z (by decide +kernel)) ?_
    refine iq_iconst hS 233 J_MScriptRows_numbers_d232 (v := 0) (by decide +kernel) rfl ?_
    exact iq_iret J_MScriptRows_numbers_d233 rfl rfl ⟨_, rfl, rfl, ed_some h⟩
  replace h := ed_neg q1_59 h
  by_cases q1_66 : p0 = 66 ∨ p0 = 68 ∨ p0 = 81 ∨ p0 = 84 ∨ p0 = 87
  · replace h := ed_pos q1_66 h
    refine iq_tsw hS J_MScriptRows_numbers_d1 (t := 240) (by rcases q1_66 with z | z | z | z | z <;> exact sw_v z (by decide +kernel)) ?_
    refine iq_iconst hS 241 J_MScriptRows_numbers_d240 (v := 4) (by decide +kernel) rfl ?_
    exact iq_iret J_MScriptRows_numbers_d241 rfl rfl ⟨_, rfl, rfl, ed_some h⟩
  replace h := ed_neg q1_66 h
  by_cases q1_70 : p0 = 70 ∨ p0 = 71 ∨ p0 = 73 ∨ p0 = 78
  · replace h := ed_pos q1_70 h
    refine iq_tsw hS J_MScriptRows_numbers_d1 (t := 238) (by rcases q1_70 with z | z | z | z <;> exact sw_v z (by decide +kernel)) ?_
    refine iq_iconst hS 239 J_MScriptRows_numbers_d238 (v := 3) (by decide +kernel) rfl ?_
    exact iq_iret J_MScriptRows_numbers_d239 rfl rfl ⟨_, rfl, rfl, ed_some h⟩
  replace h := ed_neg q1_70 h
  by_cases q1_72 : p0 = 72 ∨ p0 = 76 ∨ p0 = 79
  · replace h := ed_pos q1_72 h
    refine iq_tsw hS J_MScriptRows_numbers_d1 (t := 236) (by rcases q1_72 with z | z | z <;> exact sw_v z (by decide +kernel)) ?_
    refine iq_iconst hS 237 J_MScriptRows_numbers_d236 (v := 2) (by decide +kernel) rfl ?_
    exact iq_iret J_MScriptRows_numbers_d237 rfl rfl ⟨_, rfl, rfl, ed_some h⟩
  replace h := ed_neg q1_72 h
  refine iq_tsw hS J_MScriptRows_numbers_d1 (t := 242) (sw_d [35, 67, 75, 80, 83, 85, 86, 59, 69, 82, 88, 66, 68, 81, 84, 87, 70, 71, 73, 78, 72, 76, 79] (by decide) (by decide) (by decide +kernel) (sw_nc (fun z => q1_35 (Or.inl z)) (sw_nc (fun z => q1_35 (Or.inr (Or.inl z))) (sw_nc (fun z => q1_35 (Or.inr (Or.inr (Or.inl z)))) (sw_nc (fun z => q1_35 (Or.inr (Or.inr (Or.inr (Or.inl z))))) (sw_nc (fun z => q1_35 (Or.inr (Or.inr (Or.inr (Or.inr (Or.inl z)))))) (sw_nc (fun z => q1_35 (Or.inr (Or.inr (Or.inr (Or.inr (Or.inr (Or.inl z))))))) (sw_nc (fun z => q1_35 (Or.inr (Or.inr (Or.inr (Or.inr (Or.inr (Or.inr z))))))) (sw_nc (fun z => q1_59 (Or.inl z)) (sw_nc (fun z => q1_59 (Or.inr (Or.inl z))) (sw_nc (fun z => q1_59 (Or.inr (Or.inr (Or.inl z)))) (sw_nc (fun z => q1_59 (Or.inr (Or.inr (Or.inr z)))) (sw_nc (fun z => q1_66 (Or.inl z)) (sw_nc (fun z => q1_66 (Or.inr (Or.inl z))) (sw_nc (fun z => q1_66 (Or.inr (Or.inr (Or.inl z)))) (sw_nc (fun z => q1_66 (Or.inr (Or.inr (Or.inr (Or.inl z))))) (sw_nc (fun z => q1_66 (Or.inr (Or.inr (Or.inr (Or.inr z))))) (sw_nc (fun z => q1_70 (Or.inl z)) (sw_nc (fun z => q1_70 (Or.inr (Or.inl z))) (sw_nc (fun z => q1_70 (Or.inr (Or.inr (Or.inl z)))) (sw_nc (fun z => q1_70 (Or.inr (Or.inr (Or.inr z)))) (sw_nc (fun z => q1_72 (Or.inl z)) (sw_nc (fun z => q1_72 (Or.inr (Or.inl z))) (sw_nc (fun z => q1_72 (Or.inr (Or.inr z))) sw_nn)))))))))))))))))))))))) ?_
  refine iq_iconst hS 243 J_MScriptRows_numbers_d242 (v := (-1)) (by decide +kernel) rfl ?_
  exact iq_iret J_MScriptRows_numbers_d243 rfl rfl ⟨_, rfl, rfl, ed_some h⟩
noncomputable def f_MScriptRows_mayStand (p0 : Int32) (M : im_M) : Option (Int32) := if ¬ (im_i M 71 18) = 0 then if p0 = 83 then some 0 else if p0 = 76 then some 0 else jn0 (fun (_ : Unit) => jn0 (fun (_ : Unit) => some 1) fun k4 => if ¬ p0 = 59 then k4 () else gd (inb 0 16) <| if (im_i M 81 (Int32.toNatClampNeg 0)) = (-1) then some 0 else k4 ()) fun k1 => if ¬ p0 = 69 then k1 () else if (im_i M 71 9) ≤ 0 then k1 () else some 0 else jn0 (fun (_ : Unit) => some 1) fun k5 => if p0 = 83 then k5 () else if p0 = 75 then k5 () else if ¬ p0 = 76 then some 0 else k5 ()
theorem J_MScriptRows_mayStand_d0 : decode J_MScriptRows_mayStand.2.1 0 = .ok (.aload_n 0, 1) := by decide +kernel
theorem J_MScriptRows_mayStand_d1 : decode J_MScriptRows_mayStand.2.1 1 = .ok (.getfield 180, 3) := by decide +kernel
theorem J_MScriptRows_mayStand_d4 : decode J_MScriptRows_mayStand.2.1 4 = .ok (.ifCond .ne 27, 3) := by decide +kernel
theorem J_MScriptRows_mayStand_d7 : decode J_MScriptRows_mayStand.2.1 7 = .ok (.iload_n 1, 1) := by decide +kernel
theorem J_MScriptRows_mayStand_d8 : decode J_MScriptRows_mayStand.2.1 8 = .ok (.bipush 83, 2) := by decide +kernel
theorem J_MScriptRows_mayStand_d10 : decode J_MScriptRows_mayStand.2.1 10 = .ok (.if_icmp .eq 15, 3) := by decide +kernel
theorem J_MScriptRows_mayStand_d13 : decode J_MScriptRows_mayStand.2.1 13 = .ok (.iload_n 1, 1) := by decide +kernel
theorem J_MScriptRows_mayStand_d14 : decode J_MScriptRows_mayStand.2.1 14 = .ok (.bipush 75, 2) := by decide +kernel
theorem J_MScriptRows_mayStand_d16 : decode J_MScriptRows_mayStand.2.1 16 = .ok (.if_icmp .eq 9, 3) := by decide +kernel
theorem J_MScriptRows_mayStand_d19 : decode J_MScriptRows_mayStand.2.1 19 = .ok (.iload_n 1, 1) := by decide +kernel
theorem J_MScriptRows_mayStand_d20 : decode J_MScriptRows_mayStand.2.1 20 = .ok (.bipush 76, 2) := by decide +kernel
theorem J_MScriptRows_mayStand_d22 : decode J_MScriptRows_mayStand.2.1 22 = .ok (.if_icmp .ne 7, 3) := by decide +kernel
theorem J_MScriptRows_mayStand_d25 : decode J_MScriptRows_mayStand.2.1 25 = .ok (.iconst 1, 1) := by decide +kernel
theorem J_MScriptRows_mayStand_d26 : decode J_MScriptRows_mayStand.2.1 26 = .ok (.goto 4, 3) := by decide +kernel
theorem J_MScriptRows_mayStand_d29 : decode J_MScriptRows_mayStand.2.1 29 = .ok (.iconst 0, 1) := by decide +kernel
theorem J_MScriptRows_mayStand_d30 : decode J_MScriptRows_mayStand.2.1 30 = .ok (.ireturn, 1) := by decide +kernel
theorem J_MScriptRows_mayStand_d31 : decode J_MScriptRows_mayStand.2.1 31 = .ok (.iload_n 1, 1) := by decide +kernel
theorem J_MScriptRows_mayStand_d32 : decode J_MScriptRows_mayStand.2.1 32 = .ok (.bipush 83, 2) := by decide +kernel
theorem J_MScriptRows_mayStand_d34 : decode J_MScriptRows_mayStand.2.1 34 = .ok (.if_icmp .eq 22, 3) := by decide +kernel
theorem J_MScriptRows_mayStand_d37 : decode J_MScriptRows_mayStand.2.1 37 = .ok (.iload_n 1, 1) := by decide +kernel
theorem J_MScriptRows_mayStand_d38 : decode J_MScriptRows_mayStand.2.1 38 = .ok (.bipush 76, 2) := by decide +kernel
theorem J_MScriptRows_mayStand_d40 : decode J_MScriptRows_mayStand.2.1 40 = .ok (.if_icmp .eq 16, 3) := by decide +kernel
theorem J_MScriptRows_mayStand_d43 : decode J_MScriptRows_mayStand.2.1 43 = .ok (.iload_n 1, 1) := by decide +kernel
theorem J_MScriptRows_mayStand_d44 : decode J_MScriptRows_mayStand.2.1 44 = .ok (.bipush 69, 2) := by decide +kernel
theorem J_MScriptRows_mayStand_d46 : decode J_MScriptRows_mayStand.2.1 46 = .ok (.if_icmp .ne 12, 3) := by decide +kernel
theorem J_MScriptRows_mayStand_d49 : decode J_MScriptRows_mayStand.2.1 49 = .ok (.aload_n 0, 1) := by decide +kernel
theorem J_MScriptRows_mayStand_d50 : decode J_MScriptRows_mayStand.2.1 50 = .ok (.getfield 183, 3) := by decide +kernel
theorem J_MScriptRows_mayStand_d53 : decode J_MScriptRows_mayStand.2.1 53 = .ok (.ifCond .le 5, 3) := by decide +kernel
theorem J_MScriptRows_mayStand_d56 : decode J_MScriptRows_mayStand.2.1 56 = .ok (.iconst 0, 1) := by decide +kernel
theorem J_MScriptRows_mayStand_d57 : decode J_MScriptRows_mayStand.2.1 57 = .ok (.ireturn, 1) := by decide +kernel
theorem J_MScriptRows_mayStand_d58 : decode J_MScriptRows_mayStand.2.1 58 = .ok (.iload_n 1, 1) := by decide +kernel
theorem J_MScriptRows_mayStand_d59 : decode J_MScriptRows_mayStand.2.1 59 = .ok (.bipush 59, 2) := by decide +kernel
theorem J_MScriptRows_mayStand_d61 : decode J_MScriptRows_mayStand.2.1 61 = .ok (.if_icmp .ne 13, 3) := by decide +kernel
theorem J_MScriptRows_mayStand_d64 : decode J_MScriptRows_mayStand.2.1 64 = .ok (.aload_n 0, 1) := by decide +kernel
theorem J_MScriptRows_mayStand_d65 : decode J_MScriptRows_mayStand.2.1 65 = .ok (.getfield 41, 3) := by decide +kernel
theorem J_MScriptRows_mayStand_d68 : decode J_MScriptRows_mayStand.2.1 68 = .ok (.iconst 0, 1) := by decide +kernel
theorem J_MScriptRows_mayStand_d69 : decode J_MScriptRows_mayStand.2.1 69 = .ok (.iaload, 1) := by decide +kernel
theorem J_MScriptRows_mayStand_d70 : decode J_MScriptRows_mayStand.2.1 70 = .ok (.iconst (-1), 1) := by decide +kernel
theorem J_MScriptRows_mayStand_d71 : decode J_MScriptRows_mayStand.2.1 71 = .ok (.if_icmp .eq 7, 3) := by decide +kernel
theorem J_MScriptRows_mayStand_d74 : decode J_MScriptRows_mayStand.2.1 74 = .ok (.iconst 1, 1) := by decide +kernel
theorem J_MScriptRows_mayStand_d75 : decode J_MScriptRows_mayStand.2.1 75 = .ok (.goto 4, 3) := by decide +kernel
theorem J_MScriptRows_mayStand_d78 : decode J_MScriptRows_mayStand.2.1 78 = .ok (.iconst 0, 1) := by decide +kernel
theorem J_MScriptRows_mayStand_d79 : decode J_MScriptRows_mayStand.2.1 79 = .ok (.ireturn, 1) := by decide +kernel
theorem f_MScriptRows_mayStand_ok {L : Nat} {xs : Nat → Int32} {dep : Nat} {w : Bool} {p0 : Int32} {M : im_M} {Q : Int32 → Prop} (hM : lw_S w M) (h : ed (f_MScriptRows_mayStand p0 M) Q) : ia (tb_G L xs) dep J_MScriptRows_mayStand (rpI M Q) (0, lv_args 0 [.ref 71, .int p0], [], M) := by
  have hS : im_St (tb_G L xs) dep J_MScriptRows_mayStand (ia (tb_G L xs) dep J_MScriptRows_mayStand (rpI M Q)) := ia_St
  unfold f_MScriptRows_mayStand at h
  have l0 : im_lk (lv_args 0 [.ref 71, .int p0]) 0 = some (.ref 71) := rfl
  have l1 : im_lk (lv_args 0 [.ref 71, .int p0]) 1 = some (.int p0) := rfl
  refine iq_aload_n hS 1 J_MScriptRows_mayStand_d0 l0 rfl ?_
  refine iq_getI hS 4 J_MScriptRows_mayStand_d1 lf_15_180 (Or.inr rfl) (ka_71 hM) rfl ?_
  refine iq_if_ne hS 7 J_MScriptRows_mayStand_d4 (t := 31) rfl (fun q4 => ?_) rfl (fun q4 => ?_)
  · replace h := ed_pos q4 h
    refine iq_iload_n hS 32 J_MScriptRows_mayStand_d31 l1 rfl ?_
    refine iq_bipush hS 34 J_MScriptRows_mayStand_d32 (v := 83) (by decide +kernel) rfl ?_
    refine iq_icmp_eq hS 37 J_MScriptRows_mayStand_d34 (t := 56) rfl (fun q34 => ?_) rfl (fun q34 => ?_)
    · replace h := ed_pos q34 h
      refine iq_iconst hS 57 J_MScriptRows_mayStand_d56 (v := 0) (by decide +kernel) rfl ?_
      exact iq_iret J_MScriptRows_mayStand_d57 rfl rfl ⟨_, rfl, rfl, ed_some h⟩
    · replace h := ed_neg q34 h
      refine iq_iload_n hS 38 J_MScriptRows_mayStand_d37 l1 rfl ?_
      refine iq_bipush hS 40 J_MScriptRows_mayStand_d38 (v := 76) (by decide +kernel) rfl ?_
      refine iq_icmp_eq hS 43 J_MScriptRows_mayStand_d40 (t := 56) rfl (fun q40 => ?_) rfl (fun q40 => ?_)
      · replace h := ed_pos q40 h
        refine iq_iconst hS 57 J_MScriptRows_mayStand_d56 (v := 0) (by decide +kernel) rfl ?_
        exact iq_iret J_MScriptRows_mayStand_d57 rfl rfl ⟨_, rfl, rfl, ed_some h⟩
      · replace h := ed_neg q40 h
        refine iq_iload_n hS 44 J_MScriptRows_mayStand_d43 l1 rfl ?_
        refine iq_bipush hS 46 J_MScriptRows_mayStand_d44 (v := 69) (by decide +kernel) rfl ?_
        obtain ⟨k1, Q1, hQ1, hk1, h⟩ := jn0_ed h
        have J1 : ∀  (L' : List (Nat × Value)), im_lk L' 0 = some (.ref 71) → im_lk L' 1 = some (.int p0) → Q1 () → ia (tb_G L xs) dep J_MScriptRows_mayStand (rpI M Q) (58, L', [], M) := by
          intro  L' l2 l3 h
          replace h := hQ1  h
          refine iq_iload_n hS 59 J_MScriptRows_mayStand_d58 l3 rfl ?_
          refine iq_bipush hS 61 J_MScriptRows_mayStand_d59 (v := 59) (by decide +kernel) rfl ?_
          obtain ⟨k4, Q4, hQ4, hk4, h⟩ := jn0_ed h
          have J4 : ∀  (L' : List (Nat × Value)), Q4 () → ia (tb_G L xs) dep J_MScriptRows_mayStand (rpI M Q) (74, L', [], M) := by
            intro  L'  h
            replace h := hQ4  h
            refine iq_iconst hS 75 J_MScriptRows_mayStand_d74 (v := 1) (by decide +kernel) rfl ?_
            refine iq_goto hS J_MScriptRows_mayStand_d75 (t := 79) rfl ?_
            exact iq_iret J_MScriptRows_mayStand_d79 rfl rfl ⟨_, rfl, rfl, ed_some h⟩
          refine iq_icmp_ne hS 64 J_MScriptRows_mayStand_d61 (t := 74) rfl (fun q61 => ?_) rfl (fun q61 => ?_)
          · replace h := ed_pos q61 h
            exact J4  _  (hk4  h)
          · replace h := ed_neg q61 h
            refine iq_aload_n hS 65 J_MScriptRows_mayStand_d64 l2 rfl ?_
            refine iq_getR hS 68 J_MScriptRows_mayStand_d65 lf_15_41 (Or.inr ⟨_, rfl⟩) (ka_71 hM) (ra_71_27 hM) rfl ?_
            refine iq_iconst hS 69 J_MScriptRows_mayStand_d68 (v := 0) (by decide +kernel) rfl ?_
            obtain ⟨g69, h⟩ := ed_gd h
            refine iq_iaload hS 70 J_MScriptRows_mayStand_d69 ⟨(ka_81 hM).1, (ka_81 hM).2, g69.1, ix_lt (kl_81 hM) g69.2⟩ rfl ?_
            refine iq_iconst hS 71 J_MScriptRows_mayStand_d70 (v := (-1)) (by decide +kernel) rfl ?_
            refine iq_icmp_eq hS 74 J_MScriptRows_mayStand_d71 (t := 78) rfl (fun q71 => ?_) rfl (fun q71 => ?_)
            · replace h := ed_pos q71 h
              refine iq_iconst hS 79 J_MScriptRows_mayStand_d78 (v := 0) (by decide +kernel) rfl ?_
              exact iq_iret J_MScriptRows_mayStand_d79 rfl rfl ⟨_, rfl, rfl, ed_some h⟩
            · replace h := ed_neg q71 h
              exact J4  _  (hk4  h)
        refine iq_icmp_ne hS 49 J_MScriptRows_mayStand_d46 (t := 58) rfl (fun q46 => ?_) rfl (fun q46 => ?_)
        · replace h := ed_pos q46 h
          exact J1  _ l0 l1 (hk1  h)
        · replace h := ed_neg q46 h
          refine iq_aload_n hS 50 J_MScriptRows_mayStand_d49 l0 rfl ?_
          refine iq_getI hS 53 J_MScriptRows_mayStand_d50 lf_15_183 (Or.inl rfl) (ka_71 hM) rfl ?_
          refine iq_if_le hS 56 J_MScriptRows_mayStand_d53 (t := 58) rfl (fun q53 => ?_) rfl (fun q53 => ?_)
          · replace h := ed_pos q53 h
            exact J1  _ l0 l1 (hk1  h)
          · replace h := ed_neg q53 h
            refine iq_iconst hS 57 J_MScriptRows_mayStand_d56 (v := 0) (by decide +kernel) rfl ?_
            exact iq_iret J_MScriptRows_mayStand_d57 rfl rfl ⟨_, rfl, rfl, ed_some h⟩
  · replace h := ed_neg q4 h
    refine iq_iload_n hS 8 J_MScriptRows_mayStand_d7 l1 rfl ?_
    refine iq_bipush hS 10 J_MScriptRows_mayStand_d8 (v := 83) (by decide +kernel) rfl ?_
    obtain ⟨k5, Q5, hQ5, hk5, h⟩ := jn0_ed h
    have J5 : ∀  (L' : List (Nat × Value)), Q5 () → ia (tb_G L xs) dep J_MScriptRows_mayStand (rpI M Q) (25, L', [], M) := by
      intro  L'  h
      replace h := hQ5  h
      refine iq_iconst hS 26 J_MScriptRows_mayStand_d25 (v := 1) (by decide +kernel) rfl ?_
      refine iq_goto hS J_MScriptRows_mayStand_d26 (t := 30) rfl ?_
      exact iq_iret J_MScriptRows_mayStand_d30 rfl rfl ⟨_, rfl, rfl, ed_some h⟩
    refine iq_icmp_eq hS 13 J_MScriptRows_mayStand_d10 (t := 25) rfl (fun q10 => ?_) rfl (fun q10 => ?_)
    · replace h := ed_pos q10 h
      exact J5  _  (hk5  h)
    · replace h := ed_neg q10 h
      refine iq_iload_n hS 14 J_MScriptRows_mayStand_d13 l1 rfl ?_
      refine iq_bipush hS 16 J_MScriptRows_mayStand_d14 (v := 75) (by decide +kernel) rfl ?_
      refine iq_icmp_eq hS 19 J_MScriptRows_mayStand_d16 (t := 25) rfl (fun q16 => ?_) rfl (fun q16 => ?_)
      · replace h := ed_pos q16 h
        exact J5  _  (hk5  h)
      · replace h := ed_neg q16 h
        refine iq_iload_n hS 20 J_MScriptRows_mayStand_d19 l1 rfl ?_
        refine iq_bipush hS 22 J_MScriptRows_mayStand_d20 (v := 76) (by decide +kernel) rfl ?_
        refine iq_icmp_ne hS 25 J_MScriptRows_mayStand_d22 (t := 29) rfl (fun q22 => ?_) rfl (fun q22 => ?_)
        · replace h := ed_pos q22 h
          refine iq_iconst hS 30 J_MScriptRows_mayStand_d29 (v := 0) (by decide +kernel) rfl ?_
          exact iq_iret J_MScriptRows_mayStand_d30 rfl rfl ⟨_, rfl, rfl, ed_some h⟩
        · replace h := ed_neg q22 h
          exact J5  _  (hk5  h)
noncomputable def f_MScriptRows_preset (p0 : Int32) (p1 : Int32) (M : im_M) : Option (Int32) := if p0 = 66 ∨ p0 = 78 then if ¬ p1 = 0 then if ¬ p1 = 1 then some 0 else some 50 else some 2 else if p0 = 67 ∨ p0 = 70 ∨ p0 = 73 then some 1 else if p0 = 68 then jn0 (fun (_ : Unit) => some 1) fun k1 => if p1 = 1 then k1 () else if ¬ p1 = 2 then some 0 else k1 () else if p0 = 71 then if ¬ p1 = 2 then some 0 else some 1 else if p0 = 80 then some 8 else if p0 = 81 then if ¬ p1 = 0 then if ¬ p1 = 1 then if ¬ p1 = 2 then some 0 else some (-1) else some 1 else some 2 else if p0 = 84 then gd (inb p1 4) <| some (im_i M 80 (Int32.toNatClampNeg p1)) else some 0
theorem J_MScriptRows_preset_d0 : decode J_MScriptRows_preset.2.1 0 = .ok (.iload_n 1, 1) := by decide +kernel
theorem J_MScriptRows_preset_d1 : decode J_MScriptRows_preset.2.1 1 = .ok (.tableswitch 178 66 84 #[116, 91, 93, 178, 91, 164, 178, 91, 178, 178, 178, 178, 116, 178, 175, 136, 178, 178, 109], 91) := by decide +kernel
theorem J_MScriptRows_preset_d92 : decode J_MScriptRows_preset.2.1 92 = .ok (.iconst 1, 1) := by decide +kernel
theorem J_MScriptRows_preset_d93 : decode J_MScriptRows_preset.2.1 93 = .ok (.ireturn, 1) := by decide +kernel
theorem J_MScriptRows_preset_d94 : decode J_MScriptRows_preset.2.1 94 = .ok (.iload_n 2, 1) := by decide +kernel
theorem J_MScriptRows_preset_d95 : decode J_MScriptRows_preset.2.1 95 = .ok (.iconst 1, 1) := by decide +kernel
theorem J_MScriptRows_preset_d96 : decode J_MScriptRows_preset.2.1 96 = .ok (.if_icmp .eq 8, 3) := by decide +kernel
theorem J_MScriptRows_preset_d99 : decode J_MScriptRows_preset.2.1 99 = .ok (.iload_n 2, 1) := by decide +kernel
theorem J_MScriptRows_preset_d100 : decode J_MScriptRows_preset.2.1 100 = .ok (.iconst 2, 1) := by decide +kernel
theorem J_MScriptRows_preset_d101 : decode J_MScriptRows_preset.2.1 101 = .ok (.if_icmp .ne 7, 3) := by decide +kernel
theorem J_MScriptRows_preset_d104 : decode J_MScriptRows_preset.2.1 104 = .ok (.iconst 1, 1) := by decide +kernel
theorem J_MScriptRows_preset_d105 : decode J_MScriptRows_preset.2.1 105 = .ok (.goto 4, 3) := by decide +kernel
theorem J_MScriptRows_preset_d108 : decode J_MScriptRows_preset.2.1 108 = .ok (.iconst 0, 1) := by decide +kernel
theorem J_MScriptRows_preset_d109 : decode J_MScriptRows_preset.2.1 109 = .ok (.ireturn, 1) := by decide +kernel
theorem J_MScriptRows_preset_d110 : decode J_MScriptRows_preset.2.1 110 = .ok (.aload_n 0, 1) := by decide +kernel
theorem J_MScriptRows_preset_d111 : decode J_MScriptRows_preset.2.1 111 = .ok (.getfield 38, 3) := by decide +kernel
theorem J_MScriptRows_preset_d114 : decode J_MScriptRows_preset.2.1 114 = .ok (.iload_n 2, 1) := by decide +kernel
theorem J_MScriptRows_preset_d115 : decode J_MScriptRows_preset.2.1 115 = .ok (.iaload, 1) := by decide +kernel
theorem J_MScriptRows_preset_d116 : decode J_MScriptRows_preset.2.1 116 = .ok (.ireturn, 1) := by decide +kernel
theorem J_MScriptRows_preset_d117 : decode J_MScriptRows_preset.2.1 117 = .ok (.iload_n 2, 1) := by decide +kernel
theorem J_MScriptRows_preset_d118 : decode J_MScriptRows_preset.2.1 118 = .ok (.ifCond .ne 7, 3) := by decide +kernel
theorem J_MScriptRows_preset_d121 : decode J_MScriptRows_preset.2.1 121 = .ok (.iconst 2, 1) := by decide +kernel
theorem J_MScriptRows_preset_d122 : decode J_MScriptRows_preset.2.1 122 = .ok (.goto 14, 3) := by decide +kernel
theorem J_MScriptRows_preset_d125 : decode J_MScriptRows_preset.2.1 125 = .ok (.iload_n 2, 1) := by decide +kernel
theorem J_MScriptRows_preset_d126 : decode J_MScriptRows_preset.2.1 126 = .ok (.iconst 1, 1) := by decide +kernel
theorem J_MScriptRows_preset_d127 : decode J_MScriptRows_preset.2.1 127 = .ok (.if_icmp .ne 8, 3) := by decide +kernel
theorem J_MScriptRows_preset_d130 : decode J_MScriptRows_preset.2.1 130 = .ok (.bipush 50, 2) := by decide +kernel
theorem J_MScriptRows_preset_d132 : decode J_MScriptRows_preset.2.1 132 = .ok (.goto 4, 3) := by decide +kernel
theorem J_MScriptRows_preset_d135 : decode J_MScriptRows_preset.2.1 135 = .ok (.iconst 0, 1) := by decide +kernel
theorem J_MScriptRows_preset_d136 : decode J_MScriptRows_preset.2.1 136 = .ok (.ireturn, 1) := by decide +kernel
theorem J_MScriptRows_preset_d137 : decode J_MScriptRows_preset.2.1 137 = .ok (.iload_n 2, 1) := by decide +kernel
theorem J_MScriptRows_preset_d138 : decode J_MScriptRows_preset.2.1 138 = .ok (.ifCond .ne 7, 3) := by decide +kernel
theorem J_MScriptRows_preset_d141 : decode J_MScriptRows_preset.2.1 141 = .ok (.iconst 2, 1) := by decide +kernel
theorem J_MScriptRows_preset_d142 : decode J_MScriptRows_preset.2.1 142 = .ok (.goto 22, 3) := by decide +kernel
theorem J_MScriptRows_preset_d145 : decode J_MScriptRows_preset.2.1 145 = .ok (.iload_n 2, 1) := by decide +kernel
theorem J_MScriptRows_preset_d146 : decode J_MScriptRows_preset.2.1 146 = .ok (.iconst 1, 1) := by decide +kernel
theorem J_MScriptRows_preset_d147 : decode J_MScriptRows_preset.2.1 147 = .ok (.if_icmp .ne 7, 3) := by decide +kernel
theorem J_MScriptRows_preset_d150 : decode J_MScriptRows_preset.2.1 150 = .ok (.iconst 1, 1) := by decide +kernel
theorem J_MScriptRows_preset_d151 : decode J_MScriptRows_preset.2.1 151 = .ok (.goto 13, 3) := by decide +kernel
theorem J_MScriptRows_preset_d154 : decode J_MScriptRows_preset.2.1 154 = .ok (.iload_n 2, 1) := by decide +kernel
theorem J_MScriptRows_preset_d155 : decode J_MScriptRows_preset.2.1 155 = .ok (.iconst 2, 1) := by decide +kernel
theorem J_MScriptRows_preset_d156 : decode J_MScriptRows_preset.2.1 156 = .ok (.if_icmp .ne 7, 3) := by decide +kernel
theorem J_MScriptRows_preset_d159 : decode J_MScriptRows_preset.2.1 159 = .ok (.iconst (-1), 1) := by decide +kernel
theorem J_MScriptRows_preset_d160 : decode J_MScriptRows_preset.2.1 160 = .ok (.goto 4, 3) := by decide +kernel
theorem J_MScriptRows_preset_d163 : decode J_MScriptRows_preset.2.1 163 = .ok (.iconst 0, 1) := by decide +kernel
theorem J_MScriptRows_preset_d164 : decode J_MScriptRows_preset.2.1 164 = .ok (.ireturn, 1) := by decide +kernel
theorem J_MScriptRows_preset_d165 : decode J_MScriptRows_preset.2.1 165 = .ok (.iload_n 2, 1) := by decide +kernel
theorem J_MScriptRows_preset_d166 : decode J_MScriptRows_preset.2.1 166 = .ok (.iconst 2, 1) := by decide +kernel
theorem J_MScriptRows_preset_d167 : decode J_MScriptRows_preset.2.1 167 = .ok (.if_icmp .ne 7, 3) := by decide +kernel
theorem J_MScriptRows_preset_d170 : decode J_MScriptRows_preset.2.1 170 = .ok (.iconst 1, 1) := by decide +kernel
theorem J_MScriptRows_preset_d171 : decode J_MScriptRows_preset.2.1 171 = .ok (.goto 4, 3) := by decide +kernel
theorem J_MScriptRows_preset_d174 : decode J_MScriptRows_preset.2.1 174 = .ok (.iconst 0, 1) := by decide +kernel
theorem J_MScriptRows_preset_d175 : decode J_MScriptRows_preset.2.1 175 = .ok (.ireturn, 1) := by decide +kernel
theorem J_MScriptRows_preset_d176 : decode J_MScriptRows_preset.2.1 176 = .ok (.bipush 8, 2) := by decide +kernel
theorem J_MScriptRows_preset_d178 : decode J_MScriptRows_preset.2.1 178 = .ok (.ireturn, 1) := by decide +kernel
theorem J_MScriptRows_preset_d179 : decode J_MScriptRows_preset.2.1 179 = .ok (.iconst 0, 1) := by decide +kernel
theorem J_MScriptRows_preset_d180 : decode J_MScriptRows_preset.2.1 180 = .ok (.ireturn, 1) := by decide +kernel
theorem f_MScriptRows_preset_ok {L : Nat} {xs : Nat → Int32} {dep : Nat} {w : Bool} {p0 : Int32} {p1 : Int32} {M : im_M} {Q : Int32 → Prop} (hM : lw_S w M) (h : ed (f_MScriptRows_preset p0 p1 M) Q) : ia (tb_G L xs) dep J_MScriptRows_preset (rpI M Q) (0, lv_args 0 [.ref 71, .int p0, .int p1], [], M) := by
  have hS : im_St (tb_G L xs) dep J_MScriptRows_preset (ia (tb_G L xs) dep J_MScriptRows_preset (rpI M Q)) := ia_St
  unfold f_MScriptRows_preset at h
  have l0 : im_lk (lv_args 0 [.ref 71, .int p0, .int p1]) 0 = some (.ref 71) := rfl
  have l1 : im_lk (lv_args 0 [.ref 71, .int p0, .int p1]) 1 = some (.int p0) := rfl
  have l2 : im_lk (lv_args 0 [.ref 71, .int p0, .int p1]) 2 = some (.int p1) := rfl
  refine iq_iload_n hS 1 J_MScriptRows_preset_d0 l1 rfl ?_
  by_cases q1_66 : p0 = 66 ∨ p0 = 78
  · replace h := ed_pos q1_66 h
    refine iq_tsw hS J_MScriptRows_preset_d1 (t := 117) (by rcases q1_66 with z | z <;> exact sw_v z (by decide +kernel)) ?_
    refine iq_iload_n hS 118 J_MScriptRows_preset_d117 l2 rfl ?_
    refine iq_if_ne hS 121 J_MScriptRows_preset_d118 (t := 125) rfl (fun q118 => ?_) rfl (fun q118 => ?_)
    · replace h := ed_pos q118 h
      refine iq_iload_n hS 126 J_MScriptRows_preset_d125 l2 rfl ?_
      refine iq_iconst hS 127 J_MScriptRows_preset_d126 (v := 1) (by decide +kernel) rfl ?_
      refine iq_icmp_ne hS 130 J_MScriptRows_preset_d127 (t := 135) rfl (fun q127 => ?_) rfl (fun q127 => ?_)
      · replace h := ed_pos q127 h
        refine iq_iconst hS 136 J_MScriptRows_preset_d135 (v := 0) (by decide +kernel) rfl ?_
        exact iq_iret J_MScriptRows_preset_d136 rfl rfl ⟨_, rfl, rfl, ed_some h⟩
      · replace h := ed_neg q127 h
        refine iq_bipush hS 132 J_MScriptRows_preset_d130 (v := 50) (by decide +kernel) rfl ?_
        refine iq_goto hS J_MScriptRows_preset_d132 (t := 136) rfl ?_
        exact iq_iret J_MScriptRows_preset_d136 rfl rfl ⟨_, rfl, rfl, ed_some h⟩
    · replace h := ed_neg q118 h
      refine iq_iconst hS 122 J_MScriptRows_preset_d121 (v := 2) (by decide +kernel) rfl ?_
      refine iq_goto hS J_MScriptRows_preset_d122 (t := 136) rfl ?_
      exact iq_iret J_MScriptRows_preset_d136 rfl rfl ⟨_, rfl, rfl, ed_some h⟩
  replace h := ed_neg q1_66 h
  by_cases q1_67 : p0 = 67 ∨ p0 = 70 ∨ p0 = 73
  · replace h := ed_pos q1_67 h
    refine iq_tsw hS J_MScriptRows_preset_d1 (t := 92) (by rcases q1_67 with z | z | z <;> exact sw_v z (by decide +kernel)) ?_
    refine iq_iconst hS 93 J_MScriptRows_preset_d92 (v := 1) (by decide +kernel) rfl ?_
    exact iq_iret J_MScriptRows_preset_d93 rfl rfl ⟨_, rfl, rfl, ed_some h⟩
  replace h := ed_neg q1_67 h
  by_cases q1_68 : p0 = 68
  · replace h := ed_pos q1_68 h
    refine iq_tsw hS J_MScriptRows_preset_d1 (t := 94) (sw_v q1_68 (by decide +kernel)) ?_
    refine iq_iload_n hS 95 J_MScriptRows_preset_d94 l2 rfl ?_
    refine iq_iconst hS 96 J_MScriptRows_preset_d95 (v := 1) (by decide +kernel) rfl ?_
    obtain ⟨k1, Q1, hQ1, hk1, h⟩ := jn0_ed h
    have J1 : ∀  (L' : List (Nat × Value)), Q1 () → ia (tb_G L xs) dep J_MScriptRows_preset (rpI M Q) (104, L', [], M) := by
      intro  L'  h
      replace h := hQ1  h
      refine iq_iconst hS 105 J_MScriptRows_preset_d104 (v := 1) (by decide +kernel) rfl ?_
      refine iq_goto hS J_MScriptRows_preset_d105 (t := 109) rfl ?_
      exact iq_iret J_MScriptRows_preset_d109 rfl rfl ⟨_, rfl, rfl, ed_some h⟩
    refine iq_icmp_eq hS 99 J_MScriptRows_preset_d96 (t := 104) rfl (fun q96 => ?_) rfl (fun q96 => ?_)
    · replace h := ed_pos q96 h
      exact J1  _  (hk1  h)
    · replace h := ed_neg q96 h
      refine iq_iload_n hS 100 J_MScriptRows_preset_d99 l2 rfl ?_
      refine iq_iconst hS 101 J_MScriptRows_preset_d100 (v := 2) (by decide +kernel) rfl ?_
      refine iq_icmp_ne hS 104 J_MScriptRows_preset_d101 (t := 108) rfl (fun q101 => ?_) rfl (fun q101 => ?_)
      · replace h := ed_pos q101 h
        refine iq_iconst hS 109 J_MScriptRows_preset_d108 (v := 0) (by decide +kernel) rfl ?_
        exact iq_iret J_MScriptRows_preset_d109 rfl rfl ⟨_, rfl, rfl, ed_some h⟩
      · replace h := ed_neg q101 h
        exact J1  _  (hk1  h)
  replace h := ed_neg q1_68 h
  by_cases q1_71 : p0 = 71
  · replace h := ed_pos q1_71 h
    refine iq_tsw hS J_MScriptRows_preset_d1 (t := 165) (sw_v q1_71 (by decide +kernel)) ?_
    refine iq_iload_n hS 166 J_MScriptRows_preset_d165 l2 rfl ?_
    refine iq_iconst hS 167 J_MScriptRows_preset_d166 (v := 2) (by decide +kernel) rfl ?_
    refine iq_icmp_ne hS 170 J_MScriptRows_preset_d167 (t := 174) rfl (fun q167 => ?_) rfl (fun q167 => ?_)
    · replace h := ed_pos q167 h
      refine iq_iconst hS 175 J_MScriptRows_preset_d174 (v := 0) (by decide +kernel) rfl ?_
      exact iq_iret J_MScriptRows_preset_d175 rfl rfl ⟨_, rfl, rfl, ed_some h⟩
    · replace h := ed_neg q167 h
      refine iq_iconst hS 171 J_MScriptRows_preset_d170 (v := 1) (by decide +kernel) rfl ?_
      refine iq_goto hS J_MScriptRows_preset_d171 (t := 175) rfl ?_
      exact iq_iret J_MScriptRows_preset_d175 rfl rfl ⟨_, rfl, rfl, ed_some h⟩
  replace h := ed_neg q1_71 h
  by_cases q1_80 : p0 = 80
  · replace h := ed_pos q1_80 h
    refine iq_tsw hS J_MScriptRows_preset_d1 (t := 176) (sw_v q1_80 (by decide +kernel)) ?_
    refine iq_bipush hS 178 J_MScriptRows_preset_d176 (v := 8) (by decide +kernel) rfl ?_
    exact iq_iret J_MScriptRows_preset_d178 rfl rfl ⟨_, rfl, rfl, ed_some h⟩
  replace h := ed_neg q1_80 h
  by_cases q1_81 : p0 = 81
  · replace h := ed_pos q1_81 h
    refine iq_tsw hS J_MScriptRows_preset_d1 (t := 137) (sw_v q1_81 (by decide +kernel)) ?_
    refine iq_iload_n hS 138 J_MScriptRows_preset_d137 l2 rfl ?_
    refine iq_if_ne hS 141 J_MScriptRows_preset_d138 (t := 145) rfl (fun q138 => ?_) rfl (fun q138 => ?_)
    · replace h := ed_pos q138 h
      refine iq_iload_n hS 146 J_MScriptRows_preset_d145 l2 rfl ?_
      refine iq_iconst hS 147 J_MScriptRows_preset_d146 (v := 1) (by decide +kernel) rfl ?_
      refine iq_icmp_ne hS 150 J_MScriptRows_preset_d147 (t := 154) rfl (fun q147 => ?_) rfl (fun q147 => ?_)
      · replace h := ed_pos q147 h
        refine iq_iload_n hS 155 J_MScriptRows_preset_d154 l2 rfl ?_
        refine iq_iconst hS 156 J_MScriptRows_preset_d155 (v := 2) (by decide +kernel) rfl ?_
        refine iq_icmp_ne hS 159 J_MScriptRows_preset_d156 (t := 163) rfl (fun q156 => ?_) rfl (fun q156 => ?_)
        · replace h := ed_pos q156 h
          refine iq_iconst hS 164 J_MScriptRows_preset_d163 (v := 0) (by decide +kernel) rfl ?_
          exact iq_iret J_MScriptRows_preset_d164 rfl rfl ⟨_, rfl, rfl, ed_some h⟩
        · replace h := ed_neg q156 h
          refine iq_iconst hS 160 J_MScriptRows_preset_d159 (v := (-1)) (by decide +kernel) rfl ?_
          refine iq_goto hS J_MScriptRows_preset_d160 (t := 164) rfl ?_
          exact iq_iret J_MScriptRows_preset_d164 rfl rfl ⟨_, rfl, rfl, ed_some h⟩
      · replace h := ed_neg q147 h
        refine iq_iconst hS 151 J_MScriptRows_preset_d150 (v := 1) (by decide +kernel) rfl ?_
        refine iq_goto hS J_MScriptRows_preset_d151 (t := 164) rfl ?_
        exact iq_iret J_MScriptRows_preset_d164 rfl rfl ⟨_, rfl, rfl, ed_some h⟩
    · replace h := ed_neg q138 h
      refine iq_iconst hS 142 J_MScriptRows_preset_d141 (v := 2) (by decide +kernel) rfl ?_
      refine iq_goto hS J_MScriptRows_preset_d142 (t := 164) rfl ?_
      exact iq_iret J_MScriptRows_preset_d164 rfl rfl ⟨_, rfl, rfl, ed_some h⟩
  replace h := ed_neg q1_81 h
  by_cases q1_84 : p0 = 84
  · replace h := ed_pos q1_84 h
    refine iq_tsw hS J_MScriptRows_preset_d1 (t := 110) (sw_v q1_84 (by decide +kernel)) ?_
    refine iq_aload_n hS 111 J_MScriptRows_preset_d110 l0 rfl ?_
    refine iq_getR hS 114 J_MScriptRows_preset_d111 lf_15_38 (Or.inr ⟨_, rfl⟩) (ka_71 hM) (ra_71_24 hM) rfl ?_
    refine iq_iload_n hS 115 J_MScriptRows_preset_d114 l2 rfl ?_
    obtain ⟨g115, h⟩ := ed_gd h
    refine iq_iaload hS 116 J_MScriptRows_preset_d115 ⟨(ka_80 hM).1, (ka_80 hM).2, g115.1, ix_lt (kl_80 hM) g115.2⟩ rfl ?_
    exact iq_iret J_MScriptRows_preset_d116 rfl rfl ⟨_, rfl, rfl, ed_some h⟩
  replace h := ed_neg q1_84 h
  refine iq_tsw hS J_MScriptRows_preset_d1 (t := 179) (sw_d [66, 78, 67, 70, 73, 68, 71, 80, 81, 84] (by decide) (by decide) (by decide +kernel) (sw_nc (fun z => q1_66 (Or.inl z)) (sw_nc (fun z => q1_66 (Or.inr z)) (sw_nc (fun z => q1_67 (Or.inl z)) (sw_nc (fun z => q1_67 (Or.inr (Or.inl z))) (sw_nc (fun z => q1_67 (Or.inr (Or.inr z))) (sw_nc q1_68 (sw_nc q1_71 (sw_nc q1_80 (sw_nc q1_81 (sw_nc q1_84 sw_nn))))))))))) ?_
  refine iq_iconst hS 180 J_MScriptRows_preset_d179 (v := 0) (by decide +kernel) rfl ?_
  exact iq_iret J_MScriptRows_preset_d180 rfl rfl ⟨_, rfl, rfl, ed_some h⟩
