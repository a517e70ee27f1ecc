/-! METHODS AS FUNCTIONS -/
noncomputable def f_M_bars_L53 (v5 : Int32) (v6 : Int32) (v7 : Int32) (x8 : Int32) (M9 : im_M) : Option ((Int32 × im_M) ⊕ (Int32 × im_M)) := bd2 (f_MDotRows_run v5 v6 x8 v7 M9) fun (x10 : Int32) (M10 : im_M) => if x10 ≤ 0 then some (.inr (x8, M10)) else some (.inl ((x8 + 1), M10))
noncomputable def f_M_bars_L161 (v31 : Int32) (x32 : Int32) (M33 : im_M) : Option ((Int32 × im_M) ⊕ (im_M)) := if v31 ≤ x32 then some (.inr M33) else bd2 (f_MLineRows_sign x32 M33) fun (x34 : Int32) (M34 : im_M) => gd (inb x32 3000) <| some (.inl ((x32 + 1), (im_setI M34 137 (Int32.toNatClampNeg x32) x34)))
noncomputable def f_M_bars_L92 (v15 : Int32) (v16 : Int32) (v17 : Int32) (x18 : Int32) (M19 : im_M) : Option ((Int32 × im_M) ⊕ ((im_M) ⊕ (Int32 × im_M))) := if x18 ≤ 0 then some (.inr (.inl M19)) else jn1 (fun (M36 : im_M) => some (.inl ((x18 + (-2)), M36))) fun k20 => jn0 (fun (_ : Unit) => bd1 (f_M_strip v15 v16 x18 v17 M19) fun (M27 : im_M) => bd2 (f_MLineRows_read M27) fun (x28 : Int32) (M28 : im_M) => if x28 < 0 then k20 M28 else bd1 (lp (uc2 (f_M_bars_L161 x28)) (0, (im_setI (im_setI M28 69 10 ((if ¬ x18 = 59 then 1 else 2) : Int32)) 69 12 x28))) fun (M35 : im_M) => some (.inr (.inr (x28, M35)))) fun k21 => if x18 = 59 then k21 () else if ¬ (x18 - x18 / 6 * 6) = 1 then k20 M19 else k21 ()
noncomputable def f_M_bars (p0 : Int32) (p1 : Int32) (p2 : Int32) (M : im_M) : Option (Int32 × im_M) := bd2 (f_M_isOn (Int32.toInt64 p0) (Int32.toInt64 p1) M) fun (x1 : Int32) (M1 : im_M) => if (im_i (im_setI M1 69 0 ((if x1 = 0 then 1 else 0) : Int32)) 69 0) ≤ 0 then bd2 (f_M_isDark p0 p1 (im_setI (im_setI (im_setI M1 69 0 ((if x1 = 0 then 1 else 0) : Int32)) 69 10 (-1)) 69 12 0)) fun (x3 : Int32) (M3 : im_M) => if ¬ x3 = 0 then bd2 (lp (uc2 (f_M_bars_L53 p0 p1 p2)) (0, M3)) fun (y11 : Int32) (M12 : im_M) => bs1 (lp (uc2 (f_M_bars_L92 p0 p1 p2)) (((if ¬ (y11 - y11 / 2 * 2) = 0 then y11 else (y11 - 1)) : Int32), M12)) (fun (M42 : im_M) => some ((-1), M42)) (fun t => some t) else some ((-1), M3) else some (0, (im_setI M1 69 0 ((if x1 = 0 then 1 else 0) : Int32)))
theorem J_M_bars_d0 : decode J_M_bars.2.1 0 = .ok (.aload_n 0, 1) := by decide +kernel
theorem J_M_bars_d1 : decode J_M_bars.2.1 1 = .ok (.aload_n 0, 1) := by decide +kernel
theorem J_M_bars_d2 : decode J_M_bars.2.1 2 = .ok (.iload_n 1, 1) := by decide +kernel
theorem J_M_bars_d3 : decode J_M_bars.2.1 3 = .ok (.i2l, 1) := by decide +kernel
theorem J_M_bars_d4 : decode J_M_bars.2.1 4 = .ok (.iload_n 2, 1) := by decide +kernel
theorem J_M_bars_d5 : decode J_M_bars.2.1 5 = .ok (.i2l, 1) := by decide +kernel
theorem J_M_bars_d6 : decode J_M_bars.2.1 6 = .ok (.invokevirtual 209, 3) := by decide +kernel
theorem J_M_bars_d9 : decode J_M_bars.2.1 9 = .ok (.ifCond .eq 7, 3) := by decide +kernel
theorem J_M_bars_d12 : decode J_M_bars.2.1 12 = .ok (.iconst 0, 1) := by decide +kernel
theorem J_M_bars_d13 : decode J_M_bars.2.1 13 = .ok (.goto 4, 3) := by decide +kernel
theorem J_M_bars_d16 : decode J_M_bars.2.1 16 = .ok (.iconst 1, 1) := by decide +kernel
theorem J_M_bars_d17 : decode J_M_bars.2.1 17 = .ok (.putfield 58, 3) := by decide +kernel
theorem J_M_bars_d20 : decode J_M_bars.2.1 20 = .ok (.aload_n 0, 1) := by decide +kernel
theorem J_M_bars_d21 : decode J_M_bars.2.1 21 = .ok (.getfield 58, 3) := by decide +kernel
theorem J_M_bars_d24 : decode J_M_bars.2.1 24 = .ok (.ifCond .le 5, 3) := by decide +kernel
theorem J_M_bars_d27 : decode J_M_bars.2.1 27 = .ok (.iconst 0, 1) := by decide +kernel
theorem J_M_bars_d28 : decode J_M_bars.2.1 28 = .ok (.ireturn, 1) := by decide +kernel
theorem J_M_bars_d29 : decode J_M_bars.2.1 29 = .ok (.aload_n 0, 1) := by decide +kernel
theorem J_M_bars_d30 : decode J_M_bars.2.1 30 = .ok (.iconst (-1), 1) := by decide +kernel
theorem J_M_bars_d31 : decode J_M_bars.2.1 31 = .ok (.putfield 51, 3) := by decide +kernel
theorem J_M_bars_d34 : decode J_M_bars.2.1 34 = .ok (.aload_n 0, 1) := by decide +kernel
theorem J_M_bars_d35 : decode J_M_bars.2.1 35 = .ok (.iconst 0, 1) := by decide +kernel
theorem J_M_bars_d36 : decode J_M_bars.2.1 36 = .ok (.putfield 229, 3) := by decide +kernel
theorem J_M_bars_d39 : decode J_M_bars.2.1 39 = .ok (.aload_n 0, 1) := by decide +kernel
theorem J_M_bars_d40 : decode J_M_bars.2.1 40 = .ok (.iload_n 1, 1) := by decide +kernel
theorem J_M_bars_d41 : decode J_M_bars.2.1 41 = .ok (.iload_n 2, 1) := by decide +kernel
theorem J_M_bars_d42 : decode J_M_bars.2.1 42 = .ok (.invokevirtual 213, 3) := by decide +kernel
theorem J_M_bars_d45 : decode J_M_bars.2.1 45 = .ok (.ifCond .ne 5, 3) := by decide +kernel
theorem J_M_bars_d48 : decode J_M_bars.2.1 48 = .ok (.iconst (-1), 1) := by decide +kernel
theorem J_M_bars_d49 : decode J_M_bars.2.1 49 = .ok (.ireturn, 1) := by decide +kernel
theorem J_M_bars_d50 : decode J_M_bars.2.1 50 = .ok (.iconst 0, 1) := by decide +kernel
theorem J_M_bars_d51 : decode J_M_bars.2.1 51 = .ok (.istore 4, 2) := by decide +kernel
theorem J_M_bars_d53 : decode J_M_bars.2.1 53 = .ok (.aload_n 0, 1) := by decide +kernel
theorem J_M_bars_d54 : decode J_M_bars.2.1 54 = .ok (.getfield 23, 3) := by decide +kernel
theorem J_M_bars_d57 : decode J_M_bars.2.1 57 = .ok (.iload_n 1, 1) := by decide +kernel
theorem J_M_bars_d58 : decode J_M_bars.2.1 58 = .ok (.iload_n 2, 1) := by decide +kernel
theorem J_M_bars_d59 : decode J_M_bars.2.1 59 = .ok (.iload 4, 2) := by decide +kernel
theorem J_M_bars_d61 : decode J_M_bars.2.1 61 = .ok (.iload_n 3, 1) := by decide +kernel
theorem J_M_bars_d62 : decode J_M_bars.2.1 62 = .ok (.invokevirtual 219, 3) := by decide +kernel
theorem J_M_bars_d65 : decode J_M_bars.2.1 65 = .ok (.ifCond .le 9, 3) := by decide +kernel
theorem J_M_bars_d68 : decode J_M_bars.2.1 68 = .ok (.iinc 4 1, 3) := by decide +kernel
theorem J_M_bars_d71 : decode J_M_bars.2.1 71 = .ok (.goto (-18), 3) := by decide +kernel
theorem J_M_bars_d74 : decode J_M_bars.2.1 74 = .ok (.iload 4, 2) := by decide +kernel
theorem J_M_bars_d76 : decode J_M_bars.2.1 76 = .ok (.iconst 2, 1) := by decide +kernel
theorem J_M_bars_d77 : decode J_M_bars.2.1 77 = .ok (.irem, 1) := by decide +kernel
theorem J_M_bars_d78 : decode J_M_bars.2.1 78 = .ok (.ifCond .ne 10, 3) := by decide +kernel
theorem J_M_bars_d81 : decode J_M_bars.2.1 81 = .ok (.iload 4, 2) := by decide +kernel
theorem J_M_bars_d83 : decode J_M_bars.2.1 83 = .ok (.iconst 1, 1) := by decide +kernel
theorem J_M_bars_d84 : decode J_M_bars.2.1 84 = .ok (.isub, 1) := by decide +kernel
theorem J_M_bars_d85 : decode J_M_bars.2.1 85 = .ok (.goto 5, 3) := by decide +kernel
theorem J_M_bars_d88 : decode J_M_bars.2.1 88 = .ok (.iload 4, 2) := by decide +kernel
theorem J_M_bars_d90 : decode J_M_bars.2.1 90 = .ok (.istore 5, 2) := by decide +kernel
theorem J_M_bars_d92 : decode J_M_bars.2.1 92 = .ok (.iload 5, 2) := by decide +kernel
theorem J_M_bars_d94 : decode J_M_bars.2.1 94 = .ok (.ifCond .le 105, 3) := by decide +kernel
theorem J_M_bars_d97 : decode J_M_bars.2.1 97 = .ok (.iload 5, 2) := by decide +kernel
theorem J_M_bars_d99 : decode J_M_bars.2.1 99 = .ok (.bipush 59, 2) := by decide +kernel
theorem J_M_bars_d101 : decode J_M_bars.2.1 101 = .ok (.if_icmp .eq 12, 3) := by decide +kernel
theorem J_M_bars_d104 : decode J_M_bars.2.1 104 = .ok (.iload 5, 2) := by decide +kernel
theorem J_M_bars_d106 : decode J_M_bars.2.1 106 = .ok (.bipush 6, 2) := by decide +kernel
theorem J_M_bars_d108 : decode J_M_bars.2.1 108 = .ok (.irem, 1) := by decide +kernel
theorem J_M_bars_d109 : decode J_M_bars.2.1 109 = .ok (.iconst 1, 1) := by decide +kernel
theorem J_M_bars_d110 : decode J_M_bars.2.1 110 = .ok (.if_icmp .ne 83, 3) := by decide +kernel
theorem J_M_bars_d113 : decode J_M_bars.2.1 113 = .ok (.aload_n 0, 1) := by decide +kernel
theorem J_M_bars_d114 : decode J_M_bars.2.1 114 = .ok (.iload_n 1, 1) := by decide +kernel
theorem J_M_bars_d115 : decode J_M_bars.2.1 115 = .ok (.iload_n 2, 1) := by decide +kernel
theorem J_M_bars_d116 : decode J_M_bars.2.1 116 = .ok (.iload 5, 2) := by decide +kernel
theorem J_M_bars_d118 : decode J_M_bars.2.1 118 = .ok (.iload_n 3, 1) := by decide +kernel
theorem J_M_bars_d119 : decode J_M_bars.2.1 119 = .ok (.invokevirtual 251, 3) := by decide +kernel
theorem J_M_bars_d122 : decode J_M_bars.2.1 122 = .ok (.aload_n 0, 1) := by decide +kernel
theorem J_M_bars_d123 : decode J_M_bars.2.1 123 = .ok (.getfield 30, 3) := by decide +kernel
theorem J_M_bars_d126 : decode J_M_bars.2.1 126 = .ok (.invokevirtual 255, 3) := by decide +kernel
theorem J_M_bars_d129 : decode J_M_bars.2.1 129 = .ok (.istore 6, 2) := by decide +kernel
theorem J_M_bars_d131 : decode J_M_bars.2.1 131 = .ok (.iload 6, 2) := by decide +kernel
theorem J_M_bars_d133 : decode J_M_bars.2.1 133 = .ok (.ifCond .lt 60, 3) := by decide +kernel
theorem J_M_bars_d136 : decode J_M_bars.2.1 136 = .ok (.aload_n 0, 1) := by decide +kernel
theorem J_M_bars_d137 : decode J_M_bars.2.1 137 = .ok (.iload 5, 2) := by decide +kernel
theorem J_M_bars_d139 : decode J_M_bars.2.1 139 = .ok (.bipush 59, 2) := by decide +kernel
theorem J_M_bars_d141 : decode J_M_bars.2.1 141 = .ok (.if_icmp .ne 7, 3) := by decide +kernel
theorem J_M_bars_d144 : decode J_M_bars.2.1 144 = .ok (.iconst 2, 1) := by decide +kernel
theorem J_M_bars_d145 : decode J_M_bars.2.1 145 = .ok (.goto 4, 3) := by decide +kernel
theorem J_M_bars_d148 : decode J_M_bars.2.1 148 = .ok (.iconst 1, 1) := by decide +kernel
theorem J_M_bars_d149 : decode J_M_bars.2.1 149 = .ok (.putfield 51, 3) := by decide +kernel
theorem J_M_bars_d152 : decode J_M_bars.2.1 152 = .ok (.aload_n 0, 1) := by decide +kernel
theorem J_M_bars_d153 : decode J_M_bars.2.1 153 = .ok (.iload 6, 2) := by decide +kernel
theorem J_M_bars_d155 : decode J_M_bars.2.1 155 = .ok (.putfield 229, 3) := by decide +kernel
theorem J_M_bars_d158 : decode J_M_bars.2.1 158 = .ok (.iconst 0, 1) := by decide +kernel
theorem J_M_bars_d159 : decode J_M_bars.2.1 159 = .ok (.istore 7, 2) := by decide +kernel
theorem J_M_bars_d161 : decode J_M_bars.2.1 161 = .ok (.iload 7, 2) := by decide +kernel
theorem J_M_bars_d163 : decode J_M_bars.2.1 163 = .ok (.iload 6, 2) := by decide +kernel
theorem J_M_bars_d165 : decode J_M_bars.2.1 165 = .ok (.if_icmp .ge 25, 3) := by decide +kernel
theorem J_M_bars_d168 : decode J_M_bars.2.1 168 = .ok (.aload_n 0, 1) := by decide +kernel
theorem J_M_bars_d169 : decode J_M_bars.2.1 169 = .ok (.getfield 55, 3) := by decide +kernel
theorem J_M_bars_d172 : decode J_M_bars.2.1 172 = .ok (.iload 7, 2) := by decide +kernel
theorem J_M_bars_d174 : decode J_M_bars.2.1 174 = .ok (.aload_n 0, 1) := by decide +kernel
theorem J_M_bars_d175 : decode J_M_bars.2.1 175 = .ok (.getfield 30, 3) := by decide +kernel
theorem J_M_bars_d178 : decode J_M_bars.2.1 178 = .ok (.iload 7, 2) := by decide +kernel
theorem J_M_bars_d180 : decode J_M_bars.2.1 180 = .ok (.invokevirtual 256, 3) := by decide +kernel
theorem J_M_bars_d183 : decode J_M_bars.2.1 183 = .ok (.iastore, 1) := by decide +kernel
theorem J_M_bars_d184 : decode J_M_bars.2.1 184 = .ok (.iinc 7 1, 3) := by decide +kernel
theorem J_M_bars_d187 : decode J_M_bars.2.1 187 = .ok (.goto (-26), 3) := by decide +kernel
theorem J_M_bars_d190 : decode J_M_bars.2.1 190 = .ok (.iload 6, 2) := by decide +kernel
theorem J_M_bars_d192 : decode J_M_bars.2.1 192 = .ok (.ireturn, 1) := by decide +kernel
theorem J_M_bars_d193 : decode J_M_bars.2.1 193 = .ok (.iinc 5 (-2), 3) := by decide +kernel
theorem J_M_bars_d196 : decode J_M_bars.2.1 196 = .ok (.goto (-104), 3) := by decide +kernel
theorem J_M_bars_d199 : decode J_M_bars.2.1 199 = .ok (.iconst (-1), 1) := by decide +kernel
theorem J_M_bars_d200 : decode J_M_bars.2.1 200 = .ok (.ireturn, 1) := by decide +kernel
theorem f_M_bars_ok {L : Nat} {xs : Nat → Int32} {dep : Nat} {w : Bool} {p0 : Int32} {p1 : Int32} {p2 : Int32} {M : im_M} {Q : Int32 × im_M → Prop} (hM : lw_S w M) (h : ed (f_M_bars p0 p1 p2 M) Q) : ia (tb_G L xs) (dep + 4) J_M_bars (rwI w Q) (0, lv_args 0 [.ref 69, .int p0, .int p1, .int p2], [], M) := by
  have hS : im_St (tb_G L xs) (dep + 4) J_M_bars (ia (tb_G L xs) (dep + 4) J_M_bars (rwI w Q)) := ia_St
  unfold f_M_bars at h
  have l0 : im_lk (lv_args 0 [.ref 69, .int p0, .int p1, .int p2]) 0 = some (.ref 69) := rfl
  have l1 : im_lk (lv_args 0 [.ref 69, .int p0, .int p1, .int p2]) 1 = some (.int p0) := rfl
  have l2 : im_lk (lv_args 0 [.ref 69, .int p0, .int p1, .int p2]) 2 = some (.int p1) := rfl
  have l3 : im_lk (lv_args 0 [.ref 69, .int p0, .int p1, .int p2]) 3 = some (.int p2) := rfl
  refine iq_aload_n hS 1 J_M_bars_d0 l0 rfl ?_
  refine iq_aload_n hS 2 J_M_bars_d1 l0 rfl ?_
  refine iq_iload_n hS 3 J_M_bars_d2 l1 rfl ?_
  refine iq_i2l hS 4 J_M_bars_d3 rfl ?_
  refine iq_iload_n hS 5 J_M_bars_d4 l2 rfl ?_
  refine iq_i2l hS 6 J_M_bars_d5 rfl ?_
  obtain ⟨Q1, hQ1, h⟩ := bd2_ed h
  refine iq_cwI hS 9 J_M_bars_d6 rfl (pr_inst (vs := [_, _]) lc_17_209 lT_445 rfl rfl (by decide) (by decide) rfl (Nat.le_of_ble_eq_true rfl) (Nat.le_of_ble_eq_true rfl) (fun _ => Or.inl (pr_b (ka_69 hM) (by decide) rfl))) (f_M_isOn_ok (dep := dep + 0) hM h) rfl ?_
  intro x1 M1 hM1 h
  replace h := hQ1 _ _ h
  have J2 : ∀ (z3 : Int32) (L' : List (Nat × Value)), z3 = ((if x1 = 0 then 1 else 0) : Int32) → im_lk L' 0 = some (.ref 69) → im_lk L' 1 = some (.int p0) → im_lk L' 2 = some (.int p1) → im_lk L' 3 = some (.int p2) → ia (tb_G L xs) (dep + 4) J_M_bars (rwI w Q) (17, L', [.int z3, .ref 69], M1) := by
    intro z3 L' e4 l5 l6 l7 l8
    subst e4
    refine iq_putI hS 20 J_M_bars_d17 lf_17_58 (Or.inl rfl) rfl (ka_69 hM1) rfl ?_
    refine iq_aload_n hS 21 J_M_bars_d20 l5 rfl ?_
    refine iq_getI hS 24 J_M_bars_d21 lf_17_58 (Or.inl rfl) (ka_69 (lw_sI hM1)) rfl ?_
    refine iq_if_le hS 27 J_M_bars_d24 (t := 29) rfl (fun q24 => ?_) rfl (fun q24 => ?_)
    · replace h := ed_pos q24 h
      refine iq_aload_n hS 30 J_M_bars_d29 l5 rfl ?_
      refine iq_iconst hS 31 J_M_bars_d30 (v := (-1)) (by decide +kernel) rfl ?_
      refine iq_putI hS 34 J_M_bars_d31 lf_17_51 (Or.inl rfl) rfl (ka_69 (lw_sI hM1)) rfl ?_
      refine iq_aload_n hS 35 J_M_bars_d34 l5 rfl ?_
      refine iq_iconst hS 36 J_M_bars_d35 (v := 0) (by decide +kernel) rfl ?_
      refine iq_putI hS 39 J_M_bars_d36 lf_17_229 (Or.inl rfl) rfl (ka_69 (lw_sI (lw_sI hM1))) rfl ?_
      refine iq_aload_n hS 40 J_M_bars_d39 l5 rfl ?_
      refine iq_iload_n hS 41 J_M_bars_d40 l6 rfl ?_
      refine iq_iload_n hS 42 J_M_bars_d41 l7 rfl ?_
      obtain ⟨Q9, hQ9, h⟩ := bd2_ed h
      refine iq_cwI hS 45 J_M_bars_d42 rfl (pr_inst (vs := [_, _]) lc_17_213 lT_446 rfl rfl (by decide) (by decide) rfl (Nat.le_of_ble_eq_true rfl) (Nat.le_of_ble_eq_true rfl) (fun _ => Or.inl (pr_b (ka_69 (lw_sI (lw_sI (lw_sI hM1)))) (by decide) rfl))) (f_M_isDark_ok (dep := dep + 0) (lw_sI (lw_sI (lw_sI hM1))) h) rfl ?_
      intro x9 M9 hM9 h
      replace h := hQ9 _ _ h
      refine iq_if_ne hS 48 J_M_bars_d45 (t := 50) rfl (fun q45 => ?_) rfl (fun q45 => ?_)
      · replace h := ed_pos q45 h
        refine iq_iconst hS 51 J_M_bars_d50 (v := 0) (by decide +kernel) rfl ?_
        refine iq_istore hS 53 J_M_bars_d51 (by decide) rfl ?_
        obtain ⟨Q10, hQ10, h⟩ := bd2_ed h
        have K10 : ∀ (y11 : Int32) (M12 : im_M) (L' : List (Nat × Value)), lw_S w M12 → im_lk L' 0 = some (.ref 69) → im_lk L' 1 = some (.int p0) → im_lk L' 2 = some (.int p1) → im_lk L' 3 = some (.int p2) → im_lk L' 4 = some (.int y11) → Q10 (y11, M12) → ia (tb_G L xs) (dep + 4) J_M_bars (rwI w Q) (74, L', [], M12) := by
          intro y11 M12 L' hM12 l13 l14 l15 l16 l17 h
          replace h := hQ10 _ _ h
          refine iq_iload hS 76 J_M_bars_d74 l17 rfl ?_
          refine iq_iconst hS 77 J_M_bars_d76 (v := 2) (by decide +kernel) rfl ?_
          refine iq_irem hS 78 J_M_bars_d77 (by decide) rfl ?_
          have J18 : ∀ (z19 : Int32) (L' : List (Nat × Value)), z19 = ((if ¬ (y11 - y11 / 2 * 2) = 0 then y11 else (y11 - 1)) : Int32) → im_lk L' 0 = some (.ref 69) → im_lk L' 1 = some (.int p0) → im_lk L' 2 = some (.int p1) → im_lk L' 3 = some (.int p2) → ia (tb_G L xs) (dep + 4) J_M_bars (rwI w Q) (90, L', [.int z19], M12) := by
            intro z19 L' e20 l21 l22 l23 l24
            subst e20
            refine iq_istore hS 92 J_M_bars_d90 (by decide) rfl ?_
            obtain ⟨Q25, hQ25, hR25, h⟩ := bs1_ed h
            have K25 : ∀ (M26 : im_M) (L' : List (Nat × Value)), lw_S w M26 → Q25 (.inl M26) → ia (tb_G L xs) (dep + 4) J_M_bars (rwI w Q) (199, L', [], M26) := by
              intro M26 L' hM26  h
              replace h := hQ25 _ h
              refine iq_iconst hS 200 J_M_bars_d199 (v := (-1)) (by decide +kernel) rfl ?_
              exact iq_iret J_M_bars_d200 rfl rfl ⟨_, rfl, hM26, ed_some h⟩
            obtain ⟨r25, hr25, hq25⟩ := h
            obtain ⟨n25, hn25⟩ := lp_n hr25
            have I25 : ∀ (n : Nat) (x27 : Int32) (M28 : im_M) (L' : List (Nat × Value)), lw_S w M28 → im_lk L' 0 = some (.ref 69) → im_lk L' 1 = some (.int p0) → im_lk L' 2 = some (.int p1) → im_lk L' 3 = some (.int p2) → im_lk L' 5 = some (.int x27) → lpn (uc2 (f_M_bars_L92 p0 p1 p2)) n (x27, M28) = some r25 → ia (tb_G L xs) (dep + 4) J_M_bars (rwI w Q) (92, L', [], M28) := by
              intro n
              induction n with
              | zero => intro x27 M28 L' hM28 l29 l30 l31 l32 l33 hn; exact (lpn_0 hn).elim
              | succ n ih =>
                intro x27 M28 L' hM28 l29 l30 l31 l32 l33 hn
                have h := lpn_ed2 hn
                unfold f_M_bars_L92 at h
                refine iq_iload hS 94 J_M_bars_d92 l33 rfl ?_
                refine iq_if_le hS 97 J_M_bars_d94 (t := 199) rfl (fun q94 => ?_) rfl (fun q94 => ?_)
                · replace h := ed_pos q94 h
                  exact K25 _ _ hM28  (lq_r h hq25)
                · replace h := ed_neg q94 h
                  refine iq_iload hS 99 J_M_bars_d97 l33 rfl ?_
                  refine iq_bipush hS 101 J_M_bars_d99 (v := 59) (by decide +kernel) rfl ?_
                  obtain ⟨k34, Q34, hQ34, hk34, h⟩ := jn1_ed h
                  have J34 : ∀ (M57 : im_M) (L' : List (Nat × Value)), lw_S w M57 → im_lk L' 0 = some (.ref 69) → im_lk L' 1 = some (.int p0) → im_lk L' 2 = some (.int p1) → im_lk L' 3 = some (.int p2) → im_lk L' 5 = some (.int x27) → Q34 M57 → ia (tb_G L xs) (dep + 4) J_M_bars (rwI w Q) (193, L', [], M57) := by
                    intro M57 L' hM57 l58 l59 l60 l61 l62 h
                    replace h := hQ34 _ h
                    refine iq_iincv hS 196 J_M_bars_d193 (c := (-2)) (by decide +kernel) l62 (by decide) rfl ?_
                    refine iq_goto hS J_M_bars_d196 (t := 92) rfl ?_
                    exact ih _ _ _ hM57 (lk_1r l58 (by decide)) (lk_1i l59 (by decide)) (lk_1i l60 (by decide)) (lk_1i l61 (by decide)) lk_1s (lq_l h)
                  obtain ⟨k35, Q35, hQ35, hk35, h⟩ := jn0_ed h
                  have J35 : ∀  (L' : List (Nat × Value)), im_lk L' 0 = some (.ref 69) → im_lk L' 1 = some (.int p0) → im_lk L' 2 = some (.int p1) → im_lk L' 3 = some (.int p2) → im_lk L' 5 = some (.int x27) → Q35 () → ia (tb_G L xs) (dep + 4) J_M_bars (rwI w Q) (113, L', [], M28) := by
                    intro  L' l36 l37 l38 l39 l40 h
                    replace h := hQ35  h
                    refine iq_aload_n hS 114 J_M_bars_d113 l36 rfl ?_
                    refine iq_iload_n hS 115 J_M_bars_d114 l37 rfl ?_
                    refine iq_iload_n hS 116 J_M_bars_d115 l38 rfl ?_
                    refine iq_iload hS 118 J_M_bars_d116 l40 rfl ?_
                    refine iq_iload_n hS 119 J_M_bars_d118 l39 rfl ?_
                    obtain ⟨Q41, hQ41, h⟩ := bd1_ed h
                    refine iq_cwV hS 122 J_M_bars_d119 rfl (pr_inst (vs := [_, _, _, _]) lc_17_251 lT_507 rfl rfl (by decide) (by decide) rfl (Nat.le_of_ble_eq_true rfl) (Nat.le_of_ble_eq_true rfl) (fun _ => Or.inl (pr_b (ka_69 hM28) (by decide) rfl))) (f_M_strip_ok (dep := dep + 0) hM28 h) rfl ?_
                    intro M41 hM41 h
                    replace h := hQ41 _ h
                    refine iq_aload_n hS 123 J_M_bars_d122 l36 rfl ?_
                    refine iq_getR hS 126 J_M_bars_d123 lf_17_30 (Or.inl ⟨_, rfl⟩) (ka_69 hM41) (ra_69_5 hM41) rfl ?_
                    obtain ⟨Q42, hQ42, h⟩ := bd2_ed h
                    refine iq_cwI hS 129 J_M_bars_d126 rfl (pr_inst (vs := []) lc_17_255 lT_511 rfl rfl (by decide) (by decide) rfl (Nat.le_of_ble_eq_true rfl) (Nat.le_of_ble_eq_true rfl) (fun _ => Or.inl (pr_b (ka_96 hM41) (by decide) rfl))) (f_MLineRows_read_ok (dep := dep + 0) hM41 h) rfl ?_
                    intro x42 M42 hM42 h
                    replace h := hQ42 _ _ h
                    refine iq_istore hS 131 J_M_bars_d129 (by decide) rfl ?_
                    refine iq_iload hS 133 J_M_bars_d131 lk_1s rfl ?_
                    refine iq_if_lt hS 136 J_M_bars_d133 (t := 193) rfl (fun q133 => ?_) rfl (fun q133 => ?_)
                    · replace h := ed_pos q133 h
                      exact J34 _ _ hM42 (lk_1r l36 (by decide)) (lk_1i l37 (by decide)) (lk_1i l38 (by decide)) (lk_1i l39 (by decide)) (lk_1i l40 (by decide)) (hk34 _ h)
                    · replace h := ed_neg q133 h
                      refine iq_aload_n hS 137 J_M_bars_d136 (lk_1r l36 (by decide)) rfl ?_
                      refine iq_iload hS 139 J_M_bars_d137 (lk_1i l40 (by decide)) rfl ?_
                      refine iq_bipush hS 141 J_M_bars_d139 (v := 59) (by decide +kernel) rfl ?_
                      have J43 : ∀ (z44 : Int32) (L' : List (Nat × Value)), z44 = ((if ¬ x27 = 59 then 1 else 2) : Int32) → im_lk L' 0 = some (.ref 69) → im_lk L' 6 = some (.int x42) → ia (tb_G L xs) (dep + 4) J_M_bars (rwI w Q) (149, L', [.int z44, .ref 69], M42) := by
                        intro z44 L' e45 l46 l47
                        subst e45
                        refine iq_putI hS 152 J_M_bars_d149 lf_17_51 (Or.inl rfl) rfl (ka_69 hM42) rfl ?_
                        refine iq_aload_n hS 153 J_M_bars_d152 l46 rfl ?_
                        refine iq_iload hS 155 J_M_bars_d153 l47 rfl ?_
                        refine iq_putI hS 158 J_M_bars_d155 lf_17_229 (Or.inl rfl) rfl (ka_69 (lw_sI hM42)) rfl ?_
                        refine iq_iconst hS 159 J_M_bars_d158 (v := 0) (by decide +kernel) rfl ?_
                        refine iq_istore hS 161 J_M_bars_d159 (by decide) rfl ?_
                        obtain ⟨Q48, hQ48, h⟩ := bd1_ed h
                        have K48 : ∀ (M49 : im_M) (L' : List (Nat × Value)), lw_S w M49 → im_lk L' 6 = some (.int x42) → Q48 M49 → ia (tb_G L xs) (dep + 4) J_M_bars (rwI w Q) (190, L', [], M49) := by
                          intro M49 L' hM49 l50 h
                          replace h := hQ48 _ h
                          refine iq_iload hS 192 J_M_bars_d190 l50 rfl ?_
                          exact iq_iret J_M_bars_d192 rfl rfl ⟨_, rfl, hM49, ed_some (hR25 _ (lq_r h hq25))⟩
                        obtain ⟨r48, hr48, hq48⟩ := h
                        obtain ⟨n48, hn48⟩ := lp_n hr48
                        have I48 : ∀ (n : Nat) (x51 : Int32) (M52 : im_M) (L' : List (Nat × Value)), lw_S w M52 → im_lk L' 0 = some (.ref 69) → im_lk L' 6 = some (.int x42) → im_lk L' 7 = some (.int x51) → lpn (uc2 (f_M_bars_L161 x42)) n (x51, M52) = some r48 → ia (tb_G L xs) (dep + 4) J_M_bars (rwI w Q) (161, L', [], M52) := by
                          intro n
                          induction n with
                          | zero => intro x51 M52 L' hM52 l53 l54 l55 hn; exact (lpn_0 hn).elim
                          | succ n ih =>
                            intro x51 M52 L' hM52 l53 l54 l55 hn
                            have h := lpn_ed2 hn
                            unfold f_M_bars_L161 at h
                            refine iq_iload hS 163 J_M_bars_d161 l55 rfl ?_
                            refine iq_iload hS 165 J_M_bars_d163 l54 rfl ?_
                            refine iq_icmp_ge hS 168 J_M_bars_d165 (t := 190) rfl (fun q165 => ?_) rfl (fun q165 => ?_)
                            · replace h := ed_pos q165 h
                              exact K48 _ _ hM52 l54 (lq_r h hq48)
                            · replace h := ed_neg q165 h
                              refine iq_aload_n hS 169 J_M_bars_d168 l53 rfl ?_
                              refine iq_getR hS 172 J_M_bars_d169 lf_17_55 (Or.inr ⟨_, rfl⟩) (ka_69 hM52) (ra_69_11 hM52) rfl ?_
                              refine iq_iload hS 174 J_M_bars_d172 l55 rfl ?_
                              refine iq_aload_n hS 175 J_M_bars_d174 l53 rfl ?_
                              refine iq_getR hS 178 J_M_bars_d175 lf_17_30 (Or.inl ⟨_, rfl⟩) (ka_69 hM52) (ra_69_5 hM52) rfl ?_
                              refine iq_iload hS 180 J_M_bars_d178 l55 rfl ?_
                              obtain ⟨Q56, hQ56, h⟩ := bd2_ed h
                              refine iq_cwI hS 183 J_M_bars_d180 rfl (pr_inst (vs := [_]) lc_17_256 lT_520 rfl rfl (by decide) (by decide) rfl (Nat.le_of_ble_eq_true rfl) (Nat.le_of_ble_eq_true rfl) (fun _ => Or.inl (pr_b (ka_96 hM52) (by decide) rfl))) (f_MLineRows_sign_ok (dep := dep + 3) hM52 h) rfl ?_
                              intro x56 M56 hM56 h
                              replace h := hQ56 _ _ h
                              obtain ⟨g183, h⟩ := ed_gd h
                              refine iq_iastore hS 184 J_M_bars_d183 ⟨(ka_137 hM56).1, (ka_137 hM56).2, g183.1, ix_lt (kl_137 hM56) g183.2⟩ rfl ?_
                              refine iq_iincv hS 187 J_M_bars_d184 (c := 1) (by decide +kernel) l55 (by decide) rfl ?_
                              refine iq_goto hS J_M_bars_d187 (t := 161) rfl ?_
                              exact ih _ _ _ (lw_sI hM56) (lk_1r l53 (by decide)) (lk_1i l54 (by decide)) lk_1s (lq_l h)
                        exact I48 n48 _ _ _ (lw_sI (lw_sI hM42)) (lk_1r l46 (by decide)) (lk_1i l47 (by decide)) lk_1s hn48
                      refine iq_icmp_ne hS 144 J_M_bars_d141 (t := 148) rfl (fun q141 => ?_) rfl (fun q141 => ?_)
                      · refine iq_iconst hS 149 J_M_bars_d148 (v := 1) (by decide +kernel) rfl ?_
                        exact J43 _ _ (by simp only [if_pos q141]) (lk_1r l36 (by decide)) lk_1s
                      · refine iq_iconst hS 145 J_M_bars_d144 (v := 2) (by decide +kernel) rfl ?_
                        refine iq_goto hS J_M_bars_d145 (t := 149) rfl ?_
                        exact J43 _ _ (by simp only [if_neg q141]) (lk_1r l36 (by decide)) lk_1s
                  refine iq_icmp_eq hS 104 J_M_bars_d101 (t := 113) rfl (fun q101 => ?_) rfl (fun q101 => ?_)
                  · replace h := ed_pos q101 h
                    exact J35  _ l29 l30 l31 l32 l33 (hk35  h)
                  · replace h := ed_neg q101 h
                    refine iq_iload hS 106 J_M_bars_d104 l33 rfl ?_
                    refine iq_bipush hS 108 J_M_bars_d106 (v := 6) (by decide +kernel) rfl ?_
                    refine iq_irem hS 109 J_M_bars_d108 (by decide) rfl ?_
                    refine iq_iconst hS 110 J_M_bars_d109 (v := 1) (by decide +kernel) rfl ?_
                    refine iq_icmp_ne hS 113 J_M_bars_d110 (t := 193) rfl (fun q110 => ?_) rfl (fun q110 => ?_)
                    · replace h := ed_pos q110 h
                      exact J34 _ _ hM28 l29 l30 l31 l32 l33 (hk34 _ h)
                    · replace h := ed_neg q110 h
                      exact J35  _ l29 l30 l31 l32 l33 (hk35  h)
            exact I25 n25 _ _ _ hM12 (lk_1r l21 (by decide)) (lk_1i l22 (by decide)) (lk_1i l23 (by decide)) (lk_1i l24 (by decide)) lk_1s hn25
          refine iq_if_ne hS 81 J_M_bars_d78 (t := 88) rfl (fun q78 => ?_) rfl (fun q78 => ?_)
          · refine iq_iload hS 90 J_M_bars_d88 l17 rfl ?_
            exact J18 _ _ (by simp only [if_pos q78]) l13 l14 l15 l16
          · refine iq_iload hS 83 J_M_bars_d81 l17 rfl ?_
            refine iq_iconst hS 84 J_M_bars_d83 (v := 1) (by decide +kernel) rfl ?_
            refine iq_isub hS 85 J_M_bars_d84 rfl ?_
            refine iq_goto hS J_M_bars_d85 (t := 90) rfl ?_
            exact J18 _ _ (by simp only [if_neg q78]) l13 l14 l15 l16
        obtain ⟨r10, hr10, hq10⟩ := h
        obtain ⟨n10, hn10⟩ := lp_n hr10
        have I10 : ∀ (n : Nat) (x63 : Int32) (M64 : im_M) (L' : List (Nat × Value)), lw_S w M64 → im_lk L' 0 = some (.ref 69) → im_lk L' 1 = some (.int p0) → im_lk L' 2 = some (.int p1) → im_lk L' 3 = some (.int p2) → im_lk L' 4 = some (.int x63) → lpn (uc2 (f_M_bars_L53 p0 p1 p2)) n (x63, M64) = some r10 → ia (tb_G L xs) (dep + 4) J_M_bars (rwI w Q) (53, L', [], M64) := by
          intro n
          induction n with
          | zero => intro x63 M64 L' hM64 l65 l66 l67 l68 l69 hn; exact (lpn_0 hn).elim
          | succ n ih =>
            intro x63 M64 L' hM64 l65 l66 l67 l68 l69 hn
            have h := lpn_ed2 hn
            unfold f_M_bars_L53 at h
            refine iq_aload_n hS 54 J_M_bars_d53 l65 rfl ?_
            refine iq_getR hS 57 J_M_bars_d54 lf_17_23 (Or.inl ⟨_, rfl⟩) (ka_69 hM64) (ra_69_4 hM64) rfl ?_
            refine iq_iload_n hS 58 J_M_bars_d57 l66 rfl ?_
            refine iq_iload_n hS 59 J_M_bars_d58 l67 rfl ?_
            refine iq_iload hS 61 J_M_bars_d59 l69 rfl ?_
            refine iq_iload_n hS 62 J_M_bars_d61 l68 rfl ?_
            obtain ⟨Q70, hQ70, h⟩ := bd2_ed h
            refine iq_cwI hS 65 J_M_bars_d62 rfl (pr_inst (vs := [_, _, _, _]) lc_17_219 lT_459 rfl rfl (by decide) (by decide) rfl (Nat.le_of_ble_eq_true rfl) (Nat.le_of_ble_eq_true rfl) (fun _ => Or.inl (pr_b (ka_89 hM64) (by decide) rfl))) (f_MDotRows_run_ok (dep := dep + 1) hM64 h) rfl ?_
            intro x70 M70 hM70 h
            replace h := hQ70 _ _ h
            refine iq_if_le hS 68 J_M_bars_d65 (t := 74) rfl (fun q65 => ?_) rfl (fun q65 => ?_)
            · replace h := ed_pos q65 h
              exact K10 _ _ _ hM70 l65 l66 l67 l68 l69 (lq_r h hq10)
            · replace h := ed_neg q65 h
              refine iq_iincv hS 71 J_M_bars_d68 (c := 1) (by decide +kernel) l69 (by decide) rfl ?_
              refine iq_goto hS J_M_bars_d71 (t := 53) rfl ?_
              exact ih _ _ _ hM70 (lk_1r l65 (by decide)) (lk_1i l66 (by decide)) (lk_1i l67 (by decide)) (lk_1i l68 (by decide)) lk_1s (lq_l h)
        exact I10 n10 _ _ _ hM9 (lk_1r l5 (by decide)) (lk_1i l6 (by decide)) (lk_1i l7 (by decide)) (lk_1i l8 (by decide)) lk_1s hn10
      · replace h := ed_neg q45 h
        refine iq_iconst hS 49 J_M_bars_d48 (v := (-1)) (by decide +kernel) rfl ?_
        exact iq_iret J_M_bars_d49 rfl rfl ⟨_, rfl, hM9, ed_some h⟩
    · replace h := ed_neg q24 h
      refine iq_iconst hS 28 J_M_bars_d27 (v := 0) (by decide +kernel) rfl ?_
      exact iq_iret J_M_bars_d28 rfl rfl ⟨_, rfl, (lw_sI hM1), ed_some h⟩
  refine iq_if_eq hS 12 J_M_bars_d9 (t := 16) rfl (fun q9 => ?_) rfl (fun q9 => ?_)
  · refine iq_iconst hS 17 J_M_bars_d16 (v := 1) (by decide +kernel) rfl ?_
    exact J2 _ _ (by simp only [if_pos q9]) l0 l1 l2 l3
  · refine iq_iconst hS 13 J_M_bars_d12 (v := 0) (by decide +kernel) rfl ?_
    refine iq_goto hS J_M_bars_d13 (t := 17) rfl ?_
    exact J2 _ _ (by simp only [if_neg q9]) l0 l1 l2 l3
theorem f_M_bars_fr {p0 : Int32} {p1 : Int32} {p2 : Int32} {M : im_M} {r : Int32 × im_M} (h : f_M_bars p0 p1 p2 M = some r) : fr 174224572177897842149848690576247719198720 [(69, 0), (69, 10), (69, 12), (89, 0), (96, 3), (96, 10), (96, 14), (96, 15), (96, 17)] M r.2 := by
  replace h : ed (f_M_bars p0 p1 p2 M) (fun x => x = r) := ⟨r, h, rfl⟩
  unfold f_M_bars at h
  obtain ⟨Q1, hQ1, h⟩ := bd2_ed h
  obtain ⟨⟨x1, M1⟩, e1, h⟩ := h
  replace h := hQ1 _ _ h
  by_cases q24 : (im_i (im_setI M1 69 0 ((if x1 = 0 then 1 else 0) : Int32)) 69 0) ≤ 0
  · replace h := ed_pos q24 h
    obtain ⟨Q3, hQ3, h⟩ := bd2_ed h
    obtain ⟨⟨x3, M3⟩, e3, h⟩ := h
    replace h := hQ3 _ _ h
    by_cases q45 : ¬ x3 = 0
    · replace h := ed_pos q45 h
      obtain ⟨Q4, hQ4, h⟩ := bd2_ed h
      have K4 : ∀ (y5 : Int32) (M6 : im_M), fr 174224572177897842149848690576247719198720 [(69, 0), (69, 10), (69, 12), (89, 0), (96, 3), (96, 10), (96, 14), (96, 15), (96, 17)] M M6 → Q4 (y5, M6) → fr 174224572177897842149848690576247719198720 [(69, 0), (69, 10), (69, 12), (89, 0), (96, 3), (96, 10), (96, 14), (96, 15), (96, 17)] M r.2 := by
        intro y5 M6 hM6 h
        replace h := hQ4 _ _ h
        obtain ⟨Q8, hQ8, hR8, h⟩ := bs1_ed h
        have K8 : ∀ (M9 : im_M), fr 174224572177897842149848690576247719198720 [(69, 0), (69, 10), (69, 12), (89, 0), (96, 3), (96, 10), (96, 14), (96, 15), (96, 17)] M M9 → Q8 (.inl M9) → fr 174224572177897842149848690576247719198720 [(69, 0), (69, 10), (69, 12), (89, 0), (96, 3), (96, 10), (96, 14), (96, 15), (96, 17)] M r.2 := by
          intro M9 hM9 h
          replace h := hQ8 _ h
          exact fr_ret h hM9
        obtain ⟨r8, hr8, hq8⟩ := h
        obtain ⟨n8, hn8⟩ := lp_n hr8
        have I8 : ∀ (n : Nat) (x10 : Int32) (M11 : im_M), fr 174224572177897842149848690576247719198720 [(69, 0), (69, 10), (69, 12), (89, 0), (96, 3), (96, 10), (96, 14), (96, 15), (96, 17)] M M11 → lpn (uc2 (f_M_bars_L92 p0 p1 p2)) n (x10, M11) = some r8 → fr 174224572177897842149848690576247719198720 [(69, 0), (69, 10), (69, 12), (89, 0), (96, 3), (96, 10), (96, 14), (96, 15), (96, 17)] M r.2 := by
          intro n
          induction n with
          | zero => intro x10 M11 hM11 hn; exact (lpn_0 hn).elim
          | succ n ih =>
            intro x10 M11 hM11 hn
            have h := lpn_ed2 hn
            unfold f_M_bars_L92 at h
            by_cases q94 : x10 ≤ 0
            · replace h := ed_pos q94 h
              exact K8 _ hM11 (lq_r h hq8)
            · replace h := ed_neg q94 h
              obtain ⟨k12, Q12, hQ12, hk12, h⟩ := jn1_ed h
              have J12 : ∀ (M27 : im_M), fr 174224572177897842149848690576247719198720 [(69, 0), (69, 10), (69, 12), (89, 0), (96, 3), (96, 10), (96, 14), (96, 15), (96, 17)] M M27 → Q12 M27 → fr 174224572177897842149848690576247719198720 [(69, 0), (69, 10), (69, 12), (89, 0), (96, 3), (96, 10), (96, 14), (96, 15), (96, 17)] M r.2 := by
                intro M27 hM27 h
                replace h := hQ12 _ h
                exact ih _ _ hM27 (lq_l h)
              obtain ⟨k13, Q13, hQ13, hk13, h⟩ := jn0_ed h
              have J13 : Q13 () → fr 174224572177897842149848690576247719198720 [(69, 0), (69, 10), (69, 12), (89, 0), (96, 3), (96, 10), (96, 14), (96, 15), (96, 17)] M r.2 := by
                intro  h
                replace h := hQ13  h
                obtain ⟨Q19, hQ19, h⟩ := bd1_ed h
                obtain ⟨M19, e19, h⟩ := h
                replace h := hQ19 _ h
                obtain ⟨Q20, hQ20, h⟩ := bd2_ed h
                obtain ⟨⟨x20, M20⟩, e20, h⟩ := h
                replace h := hQ20 _ _ h
                by_cases q133 : x20 < 0
                · replace h := ed_pos q133 h
                  exact J12 _ (fr_tr (fr_mono (by decide) (by decide +kernel) (f_MLineRows_read_fr e20)) (fr_tr (fr_mono (by decide) (by decide +kernel) (f_M_strip_fr e19)) hM11)) (hk12 _ h)
                · replace h := ed_neg q133 h
                  obtain ⟨Q22, hQ22, h⟩ := bd1_ed h
                  have K22 : ∀ (M23 : im_M), fr 174224572177897842149848690576247719198720 [(69, 0), (69, 10), (69, 12), (89, 0), (96, 3), (96, 10), (96, 14), (96, 15), (96, 17)] M M23 → Q22 M23 → fr 174224572177897842149848690576247719198720 [(69, 0), (69, 10), (69, 12), (89, 0), (96, 3), (96, 10), (96, 14), (96, 15), (96, 17)] M r.2 := by
                    intro M23 hM23 h
                    replace h := hQ22 _ h
                    exact fr_ret (hR8 _ (lq_r h hq8)) hM23
                  obtain ⟨r22, hr22, hq22⟩ := h
                  obtain ⟨n22, hn22⟩ := lp_n hr22
                  have I22 : ∀ (n : Nat) (x24 : Int32) (M25 : im_M), fr 174224572177897842149848690576247719198720 [(69, 0), (69, 10), (69, 12), (89, 0), (96, 3), (96, 10), (96, 14), (96, 15), (96, 17)] M M25 → lpn (uc2 (f_M_bars_L161 x20)) n (x24, M25) = some r22 → fr 174224572177897842149848690576247719198720 [(69, 0), (69, 10), (69, 12), (89, 0), (96, 3), (96, 10), (96, 14), (96, 15), (96, 17)] M r.2 := by
                    intro n
                    induction n with
                    | zero => intro x24 M25 hM25 hn; exact (lpn_0 hn).elim
                    | succ n ih =>
                      intro x24 M25 hM25 hn
                      have h := lpn_ed2 hn
                      unfold f_M_bars_L161 at h
                      by_cases q165 : x20 ≤ x24
                      · replace h := ed_pos q165 h
                        exact K22 _ hM25 (lq_r h hq22)
                      · replace h := ed_neg q165 h
                        obtain ⟨Q26, hQ26, h⟩ := bd2_ed h
                        obtain ⟨⟨x26, M26⟩, e26, h⟩ := h
                        replace h := hQ26 _ _ h
                        obtain ⟨g183, h⟩ := ed_gd h
                        exact ih _ _ (fr_I (by decide) (fr_tr (fr_mono (by decide) (by decide +kernel) (f_MLineRows_sign_fr e26)) hM25)) (lq_l h)
                  exact I22 n22 _ _ (fr_F (by decide) (fr_F (by decide) (fr_tr (fr_mono (by decide) (by decide +kernel) (f_MLineRows_read_fr e20)) (fr_tr (fr_mono (by decide) (by decide +kernel) (f_M_strip_fr e19)) hM11)))) hn22
              by_cases q101 : x10 = 59
              · replace h := ed_pos q101 h
                exact J13  (hk13  h)
              · replace h := ed_neg q101 h
                by_cases q110 : ¬ (x10 - x10 / 6 * 6) = 1
                · replace h := ed_pos q110 h
                  exact J12 _ hM11 (hk12 _ h)
                · replace h := ed_neg q110 h
                  exact J13  (hk13  h)
        exact I8 n8 _ _ hM6 hn8
      obtain ⟨r4, hr4, hq4⟩ := h
      obtain ⟨n4, hn4⟩ := lp_n hr4
      have I4 : ∀ (n : Nat) (x33 : Int32) (M34 : im_M), fr 174224572177897842149848690576247719198720 [(69, 0), (69, 10), (69, 12), (89, 0), (96, 3), (96, 10), (96, 14), (96, 15), (96, 17)] M M34 → lpn (uc2 (f_M_bars_L53 p0 p1 p2)) n (x33, M34) = some r4 → fr 174224572177897842149848690576247719198720 [(69, 0), (69, 10), (69, 12), (89, 0), (96, 3), (96, 10), (96, 14), (96, 15), (96, 17)] M r.2 := by
        intro n
        induction n with
        | zero => intro x33 M34 hM34 hn; exact (lpn_0 hn).elim
        | succ n ih =>
          intro x33 M34 hM34 hn
          have h := lpn_ed2 hn
          unfold f_M_bars_L53 at h
          obtain ⟨Q35, hQ35, h⟩ := bd2_ed h
          obtain ⟨⟨x35, M35⟩, e35, h⟩ := h
          replace h := hQ35 _ _ h
          by_cases q65 : x35 ≤ 0
          · replace h := ed_pos q65 h
            exact K4 _ _ (fr_tr (fr_mono (by decide) (by decide +kernel) (f_MDotRows_run_fr e35)) hM34) (lq_r h hq4)
          · replace h := ed_neg q65 h
            exact ih _ _ (fr_tr (fr_mono (by decide) (by decide +kernel) (f_MDotRows_run_fr e35)) hM34) (lq_l h)
      exact I4 n4 _ _ (fr_tr (fr_mono (by decide) (by decide +kernel) (f_M_isDark_fr e3)) (fr_F (by decide) (fr_F (by decide) (fr_F (by decide) (fr_tr (fr_mono (by decide) (by decide +kernel) (f_M_isOn_fr e1)) fr_refl))))) hn4
    · replace h := ed_neg q45 h
      exact fr_ret h (fr_tr (fr_mono (by decide) (by decide +kernel) (f_M_isDark_fr e3)) (fr_F (by decide) (fr_F (by decide) (fr_F (by decide) (fr_tr (fr_mono (by decide) (by decide +kernel) (f_M_isOn_fr e1)) fr_refl)))))
  · replace h := ed_neg q24 h
    exact fr_ret h (fr_F (by decide) (fr_tr (fr_mono (by decide) (by decide +kernel) (f_M_isOn_fr e1)) fr_refl))
noncomputable def f_MSquareRows_reading (p0 : Int32) (M : im_M) : Option (Int32 × im_M) := if (im_i (im_setI M 108 0 ((if p0 < 0 then 1 else (if p0 ≤ 3 then 0 else 1)) : Int32)) 108 0) ≤ 0 then if (im_i (im_setI M 108 0 ((if p0 < 0 then 1 else (if p0 ≤ 3 then 0 else 1)) : Int32)) 108 32) = 0 then some ((-1), (im_setI M 108 0 ((if p0 < 0 then 1 else (if p0 ≤ 3 then 0 else 1)) : Int32))) else gd (inb p0 4) <| some ((im_i (im_setI M 108 0 ((if p0 < 0 then 1 else (if p0 ≤ 3 then 0 else 1)) : Int32)) 129 (Int32.toNatClampNeg p0)), (im_setI M 108 0 ((if p0 < 0 then 1 else (if p0 ≤ 3 then 0 else 1)) : Int32))) else some (0, (im_setI M 108 0 ((if p0 < 0 then 1 else (if p0 ≤ 3 then 0 else 1)) : Int32)))
theorem J_MSquareRows_reading_d0 : decode J_MSquareRows_reading.2.1 0 = .ok (.aload_n 0, 1) := by decide +kernel
theorem J_MSquareRows_reading_d1 : decode J_MSquareRows_reading.2.1 1 = .ok (.iload_n 1, 1) := by decide +kernel
theorem J_MSquareRows_reading_d2 : decode J_MSquareRows_reading.2.1 2 = .ok (.ifCond .lt 8, 3) := by decide +kernel
theorem J_MSquareRows_reading_d5 : decode J_MSquareRows_reading.2.1 5 = .ok (.iload_n 1, 1) := by decide +kernel
theorem J_MSquareRows_reading_d6 : decode J_MSquareRows_reading.2.1 6 = .ok (.iconst 3, 1) := by decide +kernel
theorem J_MSquareRows_reading_d7 : decode J_MSquareRows_reading.2.1 7 = .ok (.if_icmp .le 7, 3) := by decide +kernel
theorem J_MSquareRows_reading_d10 : decode J_MSquareRows_reading.2.1 10 = .ok (.iconst 1, 1) := by decide +kernel
theorem J_MSquareRows_reading_d11 : decode J_MSquareRows_reading.2.1 11 = .ok (.goto 4, 3) := by decide +kernel
theorem J_MSquareRows_reading_d14 : decode J_MSquareRows_reading.2.1 14 = .ok (.iconst 0, 1) := by decide +kernel
theorem J_MSquareRows_reading_d15 : decode J_MSquareRows_reading.2.1 15 = .ok (.putfield 73, 3) := by decide +kernel
theorem J_MSquareRows_reading_d18 : decode J_MSquareRows_reading.2.1 18 = .ok (.aload_n 0, 1) := by decide +kernel
theorem J_MSquareRows_reading_d19 : decode J_MSquareRows_reading.2.1 19 = .ok (.getfield 73, 3) := by decide +kernel
theorem J_MSquareRows_reading_d22 : decode J_MSquareRows_reading.2.1 22 = .ok (.ifCond .le 7, 3) := by decide +kernel
theorem J_MSquareRows_reading_d25 : decode J_MSquareRows_reading.2.1 25 = .ok (.iconst 0, 1) := by decide +kernel
theorem J_MSquareRows_reading_d26 : decode J_MSquareRows_reading.2.1 26 = .ok (.goto 20, 3) := by decide +kernel
theorem J_MSquareRows_reading_d29 : decode J_MSquareRows_reading.2.1 29 = .ok (.aload_n 0, 1) := by decide +kernel
theorem J_MSquareRows_reading_d30 : decode J_MSquareRows_reading.2.1 30 = .ok (.getfield 303, 3) := by decide +kernel
theorem J_MSquareRows_reading_d33 : decode J_MSquareRows_reading.2.1 33 = .ok (.ifCond .eq 12, 3) := by decide +kernel
theorem J_MSquareRows_reading_d36 : decode J_MSquareRows_reading.2.1 36 = .ok (.aload_n 0, 1) := by decide +kernel
theorem J_MSquareRows_reading_d37 : decode J_MSquareRows_reading.2.1 37 = .ok (.getfield 70, 3) := by decide +kernel
theorem J_MSquareRows_reading_d40 : decode J_MSquareRows_reading.2.1 40 = .ok (.iload_n 1, 1) := by decide +kernel
theorem J_MSquareRows_reading_d41 : decode J_MSquareRows_reading.2.1 41 = .ok (.iaload, 1) := by decide +kernel
theorem J_MSquareRows_reading_d42 : decode J_MSquareRows_reading.2.1 42 = .ok (.goto 4, 3) := by decide +kernel
theorem J_MSquareRows_reading_d45 : decode J_MSquareRows_reading.2.1 45 = .ok (.iconst (-1), 1) := by decide +kernel
theorem J_MSquareRows_reading_d46 : decode J_MSquareRows_reading.2.1 46 = .ok (.ireturn, 1) := by decide +kernel
theorem f_MSquareRows_reading_ok {L : Nat} {xs : Nat → Int32} {dep : Nat} {w : Bool} {p0 : Int32} {M : im_M} {Q : Int32 × im_M → Prop} (hM : lw_S w M) (h : ed (f_MSquareRows_reading p0 M) Q) : ia (tb_G L xs) dep J_MSquareRows_reading (rwI w Q) (0, lv_args 0 [.ref 108, .int p0], [], M) := by
  have hS : im_St (tb_G L xs) dep J_MSquareRows_reading (ia (tb_G L xs) dep J_MSquareRows_reading (rwI w Q)) := ia_St
  unfold f_MSquareRows_reading at h
  have l0 : im_lk (lv_args 0 [.ref 108, .int p0]) 0 = some (.ref 108) := rfl
  have l1 : im_lk (lv_args 0 [.ref 108, .int p0]) 1 = some (.int p0) := rfl
  refine iq_aload_n hS 1 J_MSquareRows_reading_d0 l0 rfl ?_
  refine iq_iload_n hS 2 J_MSquareRows_reading_d1 l1 rfl ?_
  have J1 : ∀ (z2 : Int32) (L' : List (Nat × Value)), z2 = ((if p0 < 0 then 1 else (if p0 ≤ 3 then 0 else 1)) : Int32) → im_lk L' 0 = some (.ref 108) → im_lk L' 1 = some (.int p0) → ia (tb_G L xs) dep J_MSquareRows_reading (rwI w Q) (15, L', [.int z2, .ref 108], M) := by
    intro z2 L' e3 l4 l5
    subst e3
    refine iq_putI hS 18 J_MSquareRows_reading_d15 lf_16_73 (Or.inl rfl) rfl (ka_108 hM) rfl ?_
    refine iq_aload_n hS 19 J_MSquareRows_reading_d18 l4 rfl ?_
    refine iq_getI hS 22 J_MSquareRows_reading_d19 lf_16_73 (Or.inl rfl) (ka_108 (lw_sI hM)) rfl ?_
    refine iq_if_le hS 25 J_MSquareRows_reading_d22 (t := 29) rfl (fun q22 => ?_) rfl (fun q22 => ?_)
    · replace h := ed_pos q22 h
      refine iq_aload_n hS 30 J_MSquareRows_reading_d29 l4 rfl ?_
      refine iq_getI hS 33 J_MSquareRows_reading_d30 lf_16_303 (Or.inr rfl) (ka_108 (lw_sI hM)) rfl ?_
      refine iq_if_eq hS 36 J_MSquareRows_reading_d33 (t := 45) rfl (fun q33 => ?_) rfl (fun q33 => ?_)
      · replace h := ed_pos q33 h
        refine iq_iconst hS 46 J_MSquareRows_reading_d45 (v := (-1)) (by decide +kernel) rfl ?_
        exact iq_iret J_MSquareRows_reading_d46 rfl rfl ⟨_, rfl, (lw_sI hM), ed_some h⟩
      · replace h := ed_neg q33 h
        refine iq_aload_n hS 37 J_MSquareRows_reading_d36 l4 rfl ?_
        refine iq_getR hS 40 J_MSquareRows_reading_d37 lf_16_70 (Or.inr ⟨_, rfl⟩) (ka_108 (lw_sI hM)) (ra_108_33 (lw_sI hM)) rfl ?_
        refine iq_iload_n hS 41 J_MSquareRows_reading_d40 l5 rfl ?_
        obtain ⟨g41, h⟩ := ed_gd h
        refine iq_iaload hS 42 J_MSquareRows_reading_d41 ⟨(ka_129 (lw_sI hM)).1, (ka_129 (lw_sI hM)).2, g41.1, ix_lt (kl_129 (lw_sI hM)) g41.2⟩ rfl ?_
        refine iq_goto hS J_MSquareRows_reading_d42 (t := 46) rfl ?_
        exact iq_iret J_MSquareRows_reading_d46 rfl rfl ⟨_, rfl, (lw_sI hM), ed_some h⟩
    · replace h := ed_neg q22 h
      refine iq_iconst hS 26 J_MSquareRows_reading_d25 (v := 0) (by decide +kernel) rfl ?_
      refine iq_goto hS J_MSquareRows_reading_d26 (t := 46) rfl ?_
      exact iq_iret J_MSquareRows_reading_d46 rfl rfl ⟨_, rfl, (lw_sI hM), ed_some h⟩
  refine iq_if_lt hS 5 J_MSquareRows_reading_d2 (t := 10) rfl (fun q2 => ?_) rfl (fun q2 => ?_)
  · refine iq_iconst hS 11 J_MSquareRows_reading_d10 (v := 1) (by decide +kernel) rfl ?_
    refine iq_goto hS J_MSquareRows_reading_d11 (t := 15) rfl ?_
    exact J1 _ _ (by simp only [if_pos q2]) l0 l1
  · refine iq_iload_n hS 6 J_MSquareRows_reading_d5 l1 rfl ?_
    refine iq_iconst hS 7 J_MSquareRows_reading_d6 (v := 3) (by decide +kernel) rfl ?_
    refine iq_icmp_le hS 10 J_MSquareRows_reading_d7 (t := 14) rfl (fun q7 => ?_) rfl (fun q7 => ?_)
    · refine iq_iconst hS 15 J_MSquareRows_reading_d14 (v := 0) (by decide +kernel) rfl ?_
      exact J1 _ _ (by simp only [if_neg q2, if_pos q7]) l0 l1
    · refine iq_iconst hS 11 J_MSquareRows_reading_d10 (v := 1) (by decide +kernel) rfl ?_
      refine iq_goto hS J_MSquareRows_reading_d11 (t := 15) rfl ?_
      exact J1 _ _ (by simp only [if_neg q2, if_neg q7]) l0 l1
theorem f_MSquareRows_reading_fr {p0 : Int32} {M : im_M} {r : Int32 × im_M} (h : f_MSquareRows_reading p0 M = some r) : fr 0 [(108, 0)] M r.2 := by
  replace h : ed (f_MSquareRows_reading p0 M) (fun x => x = r) := ⟨r, h, rfl⟩
  unfold f_MSquareRows_reading at h
  by_cases q22 : (im_i (im_setI M 108 0 ((if p0 < 0 then 1 else (if p0 ≤ 3 then 0 else 1)) : Int32)) 108 0) ≤ 0
  · replace h := ed_pos q22 h
    by_cases q33 : (im_i (im_setI M 108 0 ((if p0 < 0 then 1 else (if p0 ≤ 3 then 0 else 1)) : Int32)) 108 32) = 0
    · replace h := ed_pos q33 h
      exact fr_ret h (fr_F (by decide) fr_refl)
    · replace h := ed_neg q33 h
      obtain ⟨g41, h⟩ := ed_gd h
      exact fr_ret h (fr_F (by decide) fr_refl)
  · replace h := ed_neg q22 h
    exact fr_ret h (fr_F (by decide) fr_refl)
noncomputable def f_MLineRows_backwards (M : im_M) : Option (Int32 × im_M) := gd ((im_i (im_setI M 96 3 0) 96 15) = 0 ∨ (im_i (im_setI M 96 3 0) 96 15) = 1) <| some ((im_i (im_setI M 96 3 0) 96 15), (im_setI M 96 3 0))
theorem J_MLineRows_backwards_d0 : decode J_MLineRows_backwards.2.1 0 = .ok (.aload_n 0, 1) := by decide +kernel
theorem J_MLineRows_backwards_d1 : decode J_MLineRows_backwards.2.1 1 = .ok (.iconst 0, 1) := by decide +kernel
theorem J_MLineRows_backwards_d2 : decode J_MLineRows_backwards.2.1 2 = .ok (.putfield 149, 3) := by decide +kernel
theorem J_MLineRows_backwards_d5 : decode J_MLineRows_backwards.2.1 5 = .ok (.aload_n 0, 1) := by decide +kernel
theorem J_MLineRows_backwards_d6 : decode J_MLineRows_backwards.2.1 6 = .ok (.getfield 266, 3) := by decide +kernel
theorem J_MLineRows_backwards_d9 : decode J_MLineRows_backwards.2.1 9 = .ok (.ireturn, 1) := by decide +kernel
theorem f_MLineRows_backwards_ok {L : Nat} {xs : Nat → Int32} {dep : Nat} {w : Bool} {M : im_M} {Q : Int32 × im_M → Prop} (hM : lw_S w M) (h : ed (f_MLineRows_backwards M) Q) : ia (tb_G L xs) dep J_MLineRows_backwards (rwI w Q) (0, lv_args 0 [.ref 96], [], M) := by
  have hS : im_St (tb_G L xs) dep J_MLineRows_backwards (ia (tb_G L xs) dep J_MLineRows_backwards (rwI w Q)) := ia_St
  unfold f_MLineRows_backwards at h
  have l0 : im_lk (lv_args 0 [.ref 96]) 0 = some (.ref 96) := rfl
  refine iq_aload_n hS 1 J_MLineRows_backwards_d0 l0 rfl ?_
  refine iq_iconst hS 2 J_MLineRows_backwards_d1 (v := 0) (by decide +kernel) rfl ?_
  refine iq_putI hS 5 J_MLineRows_backwards_d2 lf_13_149 (Or.inl rfl) rfl (ka_96 hM) rfl ?_
  refine iq_aload_n hS 6 J_MLineRows_backwards_d5 l0 rfl ?_
  refine iq_getI hS 9 J_MLineRows_backwards_d6 lf_13_266 (Or.inr rfl) (ka_96 (lw_sI hM)) rfl ?_
  obtain ⟨g9, h⟩ := ed_gd h
  exact iq_iret J_MLineRows_backwards_d9 rfl (nar_z g9) ⟨_, rfl, (lw_sI hM), ed_some h⟩
theorem f_MLineRows_backwards_fr {M : im_M} {r : Int32 × im_M} (h : f_MLineRows_backwards M = some r) : fr 0 [(96, 3)] M r.2 := by
  replace h : ed (f_MLineRows_backwards M) (fun x => x = r) := ⟨r, h, rfl⟩
  unfold f_MLineRows_backwards at h
  obtain ⟨g9, h⟩ := ed_gd h
  exact fr_ret h (fr_F (by decide) fr_refl)
noncomputable def f_MSquareRows_fault (M : im_M) : Option (Int32 × im_M) := some ((im_i (im_setI M 108 0 0) 108 31), (im_setI M 108 0 0))
theorem J_MSquareRows_fault_d0 : decode J_MSquareRows_fault.2.1 0 = .ok (.aload_n 0, 1) := by decide +kernel
theorem J_MSquareRows_fault_d1 : decode J_MSquareRows_fault.2.1 1 = .ok (.iconst 0, 1) := by decide +kernel
theorem J_MSquareRows_fault_d2 : decode J_MSquareRows_fault.2.1 2 = .ok (.putfield 73, 3) := by decide +kernel
theorem J_MSquareRows_fault_d5 : decode J_MSquareRows_fault.2.1 5 = .ok (.aload_n 0, 1) := by decide +kernel
theorem J_MSquareRows_fault_d6 : decode J_MSquareRows_fault.2.1 6 = .ok (.getfield 285, 3) := by decide +kernel
theorem J_MSquareRows_fault_d9 : decode J_MSquareRows_fault.2.1 9 = .ok (.ireturn, 1) := by decide +kernel
theorem f_MSquareRows_fault_ok {L : Nat} {xs : Nat → Int32} {dep : Nat} {w : Bool} {M : im_M} {Q : Int32 × im_M → Prop} (hM : lw_S w M) (h : ed (f_MSquareRows_fault M) Q) : ia (tb_G L xs) dep J_MSquareRows_fault (rwI w Q) (0, lv_args 0 [.ref 108], [], M) := by
  have hS : im_St (tb_G L xs) dep J_MSquareRows_fault (ia (tb_G L xs) dep J_MSquareRows_fault (rwI w Q)) := ia_St
  unfold f_MSquareRows_fault at h
  have l0 : im_lk (lv_args 0 [.ref 108]) 0 = some (.ref 108) := rfl
  refine iq_aload_n hS 1 J_MSquareRows_fault_d0 l0 rfl ?_
  refine iq_iconst hS 2 J_MSquareRows_fault_d1 (v := 0) (by decide +kernel) rfl ?_
  refine iq_putI hS 5 J_MSquareRows_fault_d2 lf_16_73 (Or.inl rfl) rfl (ka_108 hM) rfl ?_
  refine iq_aload_n hS 6 J_MSquareRows_fault_d5 l0 rfl ?_
  refine iq_getI hS 9 J_MSquareRows_fault_d6 lf_16_285 (Or.inl rfl) (ka_108 (lw_sI hM)) rfl ?_
  exact iq_iret J_MSquareRows_fault_d9 rfl rfl ⟨_, rfl, (lw_sI hM), ed_some h⟩
theorem f_MSquareRows_fault_fr {M : im_M} {r : Int32 × im_M} (h : f_MSquareRows_fault M = some r) : fr 0 [(108, 0)] M r.2 := by
  replace h : ed (f_MSquareRows_fault M) (fun x => x = r) := ⟨r, h, rfl⟩
  unfold f_MSquareRows_fault at h
  exact fr_ret h (fr_F (by decide) fr_refl)
noncomputable def f_M_reading (p0 : Int32) (M : im_M) : Option (Int32 × im_M) := if (im_i (im_setI M 69 0 ((if p0 < 0 then 1 else (if p0 ≤ 6 then 0 else 1)) : Int32)) 69 0) ≤ 0 then if ¬ p0 = 6 then jn1 (fun (M5 : im_M) => some ((im_i M5 69 10), M5)) fun k2 => if p0 = 0 then k2 (im_setI M 69 0 ((if p0 < 0 then 1 else (if p0 ≤ 6 then 0 else 1)) : Int32)) else if ¬ (im_i (im_setI M 69 0 ((if p0 < 0 then 1 else (if p0 ≤ 6 then 0 else 1)) : Int32)) 69 10) = (-1) then if ¬ p0 = 5 then if ¬ (im_i (im_setI M 69 0 ((if p0 < 0 then 1 else (if p0 ≤ 6 then 0 else 1)) : Int32)) 69 10) = 0 then some ((-1), (im_setI M 69 0 ((if p0 < 0 then 1 else (if p0 ≤ 6 then 0 else 1)) : Int32))) else bd2 (f_MSquareRows_reading (p0 - 1) (im_setI M 69 0 ((if p0 < 0 then 1 else (if p0 ≤ 6 then 0 else 1)) : Int32))) fun (x3 : Int32) (M3 : im_M) => some (x3, M3) else if ¬ (im_i (im_setI M 69 0 ((if p0 < 0 then 1 else (if p0 ≤ 6 then 0 else 1)) : Int32)) 69 10) = 0 then bd2 (f_MLineRows_backwards (im_setI M 69 0 ((if p0 < 0 then 1 else (if p0 ≤ 6 then 0 else 1)) : Int32))) fun (x4 : Int32) (M4 : im_M) => if x4 = 0 then some (0, M4) else some (1, M4) else some ((-1), (im_setI M 69 0 ((if p0 < 0 then 1 else (if p0 ≤ 6 then 0 else 1)) : Int32))) else k2 (im_setI M 69 0 ((if p0 < 0 then 1 else (if p0 ≤ 6 then 0 else 1)) : Int32)) else bd2 (f_MSquareRows_fault (im_setI M 69 0 ((if p0 < 0 then 1 else (if p0 ≤ 6 then 0 else 1)) : Int32))) fun (x7 : Int32) (M7 : im_M) => some (x7, M7) else some (0, (im_setI M 69 0 ((if p0 < 0 then 1 else (if p0 ≤ 6 then 0 else 1)) : Int32)))
theorem J_M_reading_d0 : decode J_M_reading.2.1 0 = .ok (.aload_n 0, 1) := by decide +kernel
theorem J_M_reading_d1 : decode J_M_reading.2.1 1 = .ok (.iload_n 1, 1) := by decide +kernel
theorem J_M_reading_d2 : decode J_M_reading.2.1 2 = .ok (.ifCond .lt 9, 3) := by decide +kernel
theorem J_M_reading_d5 : decode J_M_reading.2.1 5 = .ok (.iload_n 1, 1) := by decide +kernel
theorem J_M_reading_d6 : decode J_M_reading.2.1 6 = .ok (.bipush 6, 2) := by decide +kernel
theorem J_M_reading_d8 : decode J_M_reading.2.1 8 = .ok (.if_icmp .le 7, 3) := by decide +kernel
theorem J_M_reading_d11 : decode J_M_reading.2.1 11 = .ok (.iconst 1, 1) := by decide +kernel
theorem J_M_reading_d12 : decode J_M_reading.2.1 12 = .ok (.goto 4, 3) := by decide +kernel
theorem J_M_reading_d15 : decode J_M_reading.2.1 15 = .ok (.iconst 0, 1) := by decide +kernel
theorem J_M_reading_d16 : decode J_M_reading.2.1 16 = .ok (.putfield 58, 3) := by decide +kernel
theorem J_M_reading_d19 : decode J_M_reading.2.1 19 = .ok (.aload_n 0, 1) := by decide +kernel
theorem J_M_reading_d20 : decode J_M_reading.2.1 20 = .ok (.getfield 58, 3) := by decide +kernel
theorem J_M_reading_d23 : decode J_M_reading.2.1 23 = .ok (.ifCond .le 5, 3) := by decide +kernel
theorem J_M_reading_d26 : decode J_M_reading.2.1 26 = .ok (.iconst 0, 1) := by decide +kernel
theorem J_M_reading_d27 : decode J_M_reading.2.1 27 = .ok (.ireturn, 1) := by decide +kernel
theorem J_M_reading_d28 : decode J_M_reading.2.1 28 = .ok (.iload_n 1, 1) := by decide +kernel
theorem J_M_reading_d29 : decode J_M_reading.2.1 29 = .ok (.bipush 6, 2) := by decide +kernel
theorem J_M_reading_d31 : decode J_M_reading.2.1 31 = .ok (.if_icmp .ne 11, 3) := by decide +kernel
theorem J_M_reading_d34 : decode J_M_reading.2.1 34 = .ok (.aload_n 0, 1) := by decide +kernel
theorem J_M_reading_d35 : decode J_M_reading.2.1 35 = .ok (.getfield 37, 3) := by decide +kernel
theorem J_M_reading_d38 : decode J_M_reading.2.1 38 = .ok (.invokevirtual 259, 3) := by decide +kernel
theorem J_M_reading_d41 : decode J_M_reading.2.1 41 = .ok (.ireturn, 1) := by decide +kernel
theorem J_M_reading_d42 : decode J_M_reading.2.1 42 = .ok (.iload_n 1, 1) := by decide +kernel
theorem J_M_reading_d43 : decode J_M_reading.2.1 43 = .ok (.ifCond .eq 11, 3) := by decide +kernel
theorem J_M_reading_d46 : decode J_M_reading.2.1 46 = .ok (.aload_n 0, 1) := by decide +kernel
theorem J_M_reading_d47 : decode J_M_reading.2.1 47 = .ok (.getfield 51, 3) := by decide +kernel
theorem J_M_reading_d50 : decode J_M_reading.2.1 50 = .ok (.iconst (-1), 1) := by decide +kernel
theorem J_M_reading_d51 : decode J_M_reading.2.1 51 = .ok (.if_icmp .ne 8, 3) := by decide +kernel
theorem J_M_reading_d54 : decode J_M_reading.2.1 54 = .ok (.aload_n 0, 1) := by decide +kernel
theorem J_M_reading_d55 : decode J_M_reading.2.1 55 = .ok (.getfield 51, 3) := by decide +kernel
theorem J_M_reading_d58 : decode J_M_reading.2.1 58 = .ok (.ireturn, 1) := by decide +kernel
theorem J_M_reading_d59 : decode J_M_reading.2.1 59 = .ok (.iload_n 1, 1) := by decide +kernel
theorem J_M_reading_d60 : decode J_M_reading.2.1 60 = .ok (.iconst 5, 1) := by decide +kernel
theorem J_M_reading_d61 : decode J_M_reading.2.1 61 = .ok (.if_icmp .ne 30, 3) := by decide +kernel
theorem J_M_reading_d64 : decode J_M_reading.2.1 64 = .ok (.aload_n 0, 1) := by decide +kernel
theorem J_M_reading_d65 : decode J_M_reading.2.1 65 = .ok (.getfield 51, 3) := by decide +kernel
theorem J_M_reading_d68 : decode J_M_reading.2.1 68 = .ok (.ifCond .ne 7, 3) := by decide +kernel
theorem J_M_reading_d71 : decode J_M_reading.2.1 71 = .ok (.iconst (-1), 1) := by decide +kernel
theorem J_M_reading_d72 : decode J_M_reading.2.1 72 = .ok (.goto 18, 3) := by decide +kernel
theorem J_M_reading_d75 : decode J_M_reading.2.1 75 = .ok (.aload_n 0, 1) := by decide +kernel
theorem J_M_reading_d76 : decode J_M_reading.2.1 76 = .ok (.getfield 30, 3) := by decide +kernel
theorem J_M_reading_d79 : decode J_M_reading.2.1 79 = .ok (.invokevirtual 260, 3) := by decide +kernel
theorem J_M_reading_d82 : decode J_M_reading.2.1 82 = .ok (.ifCond .eq 7, 3) := by decide +kernel
theorem J_M_reading_d85 : decode J_M_reading.2.1 85 = .ok (.iconst 1, 1) := by decide +kernel
theorem J_M_reading_d86 : decode J_M_reading.2.1 86 = .ok (.goto 4, 3) := by decide +kernel
theorem J_M_reading_d89 : decode J_M_reading.2.1 89 = .ok (.iconst 0, 1) := by decide +kernel
theorem J_M_reading_d90 : decode J_M_reading.2.1 90 = .ok (.ireturn, 1) := by decide +kernel
theorem J_M_reading_d91 : decode J_M_reading.2.1 91 = .ok (.aload_n 0, 1) := by decide +kernel
theorem J_M_reading_d92 : decode J_M_reading.2.1 92 = .ok (.getfield 51, 3) := by decide +kernel
theorem J_M_reading_d95 : decode J_M_reading.2.1 95 = .ok (.ifCond .ne 16, 3) := by decide +kernel
theorem J_M_reading_d98 : decode J_M_reading.2.1 98 = .ok (.aload_n 0, 1) := by decide +kernel
theorem J_M_reading_d99 : decode J_M_reading.2.1 99 = .ok (.getfield 37, 3) := by decide +kernel
theorem J_M_reading_d102 : decode J_M_reading.2.1 102 = .ok (.iload_n 1, 1) := by decide +kernel
theorem J_M_reading_d103 : decode J_M_reading.2.1 103 = .ok (.iconst 1, 1) := by decide +kernel
theorem J_M_reading_d104 : decode J_M_reading.2.1 104 = .ok (.isub, 1) := by decide +kernel
theorem J_M_reading_d105 : decode J_M_reading.2.1 105 = .ok (.invokevirtual 264, 3) := by decide +kernel
theorem J_M_reading_d108 : decode J_M_reading.2.1 108 = .ok (.goto 4, 3) := by decide +kernel
theorem J_M_reading_d111 : decode J_M_reading.2.1 111 = .ok (.iconst (-1), 1) := by decide +kernel
theorem J_M_reading_d112 : decode J_M_reading.2.1 112 = .ok (.ireturn, 1) := by decide +kernel
theorem f_M_reading_ok {L : Nat} {xs : Nat → Int32} {dep : Nat} {w : Bool} {p0 : Int32} {M : im_M} {Q : Int32 × im_M → Prop} (hM : lw_S w M) (h : ed (f_M_reading p0 M) Q) : ia (tb_G L xs) (dep + 1) J_M_reading (rwI w Q) (0, lv_args 0 [.ref 69, .int p0], [], M) := by
  have hS : im_St (tb_G L xs) (dep + 1) J_M_reading (ia (tb_G L xs) (dep + 1) J_M_reading (rwI w Q)) := ia_St
  unfold f_M_reading at h
  have l0 : im_lk (lv_args 0 [.ref 69, .int p0]) 0 = some (.ref 69) := rfl
  have l1 : im_lk (lv_args 0 [.ref 69, .int p0]) 1 = some (.int p0) := rfl
  refine iq_aload_n hS 1 J_M_reading_d0 l0 rfl ?_
  refine iq_iload_n hS 2 J_M_reading_d1 l1 rfl ?_
  have J1 : ∀ (z2 : Int32) (L' : List (Nat × Value)), z2 = ((if p0 < 0 then 1 else (if p0 ≤ 6 then 0 else 1)) : Int32) → im_lk L' 0 = some (.ref 69) → im_lk L' 1 = some (.int p0) → ia (tb_G L xs) (dep + 1) J_M_reading (rwI w Q) (16, L', [.int z2, .ref 69], M) := by
    intro z2 L' e3 l4 l5
    subst e3
    refine iq_putI hS 19 J_M_reading_d16 lf_17_58 (Or.inl rfl) rfl (ka_69 hM) rfl ?_
    refine iq_aload_n hS 20 J_M_reading_d19 l4 rfl ?_
    refine iq_getI hS 23 J_M_reading_d20 lf_17_58 (Or.inl rfl) (ka_69 (lw_sI hM)) rfl ?_
    refine iq_if_le hS 26 J_M_reading_d23 (t := 28) rfl (fun q23 => ?_) rfl (fun q23 => ?_)
    · replace h := ed_pos q23 h
      refine iq_iload_n hS 29 J_M_reading_d28 l5 rfl ?_
      refine iq_bipush hS 31 J_M_reading_d29 (v := 6) (by decide +kernel) rfl ?_
      refine iq_icmp_ne hS 34 J_M_reading_d31 (t := 42) rfl (fun q31 => ?_) rfl (fun q31 => ?_)
      · replace h := ed_pos q31 h
        refine iq_iload_n hS 43 J_M_reading_d42 l5 rfl ?_
        obtain ⟨k6, Q6, hQ6, hk6, h⟩ := jn1_ed h
        have J6 : ∀ (M9 : im_M) (L' : List (Nat × Value)), lw_S w M9 → im_lk L' 0 = some (.ref 69) → Q6 M9 → ia (tb_G L xs) (dep + 1) J_M_reading (rwI w Q) (54, L', [], M9) := by
          intro M9 L' hM9 l10 h
          replace h := hQ6 _ h
          refine iq_aload_n hS 55 J_M_reading_d54 l10 rfl ?_
          refine iq_getI hS 58 J_M_reading_d55 lf_17_51 (Or.inl rfl) (ka_69 hM9) rfl ?_
          exact iq_iret J_M_reading_d58 rfl rfl ⟨_, rfl, hM9, ed_some h⟩
        refine iq_if_eq hS 46 J_M_reading_d43 (t := 54) rfl (fun q43 => ?_) rfl (fun q43 => ?_)
        · replace h := ed_pos q43 h
          exact J6 _ _ (lw_sI hM) l4 (hk6 _ h)
        · replace h := ed_neg q43 h
          refine iq_aload_n hS 47 J_M_reading_d46 l4 rfl ?_
          refine iq_getI hS 50 J_M_reading_d47 lf_17_51 (Or.inl rfl) (ka_69 (lw_sI hM)) rfl ?_
          refine iq_iconst hS 51 J_M_reading_d50 (v := (-1)) (by decide +kernel) rfl ?_
          refine iq_icmp_ne hS 54 J_M_reading_d51 (t := 59) rfl (fun q51 => ?_) rfl (fun q51 => ?_)
          · replace h := ed_pos q51 h
            refine iq_iload_n hS 60 J_M_reading_d59 l5 rfl ?_
            refine iq_iconst hS 61 J_M_reading_d60 (v := 5) (by decide +kernel) rfl ?_
            refine iq_icmp_ne hS 64 J_M_reading_d61 (t := 91) rfl (fun q61 => ?_) rfl (fun q61 => ?_)
            · replace h := ed_pos q61 h
              refine iq_aload_n hS 92 J_M_reading_d91 l4 rfl ?_
              refine iq_getI hS 95 J_M_reading_d92 lf_17_51 (Or.inl rfl) (ka_69 (lw_sI hM)) rfl ?_
              refine iq_if_ne hS 98 J_M_reading_d95 (t := 111) rfl (fun q95 => ?_) rfl (fun q95 => ?_)
              · replace h := ed_pos q95 h
                refine iq_iconst hS 112 J_M_reading_d111 (v := (-1)) (by decide +kernel) rfl ?_
                exact iq_iret J_M_reading_d112 rfl rfl ⟨_, rfl, (lw_sI hM), ed_some h⟩
              · replace h := ed_neg q95 h
                refine iq_aload_n hS 99 J_M_reading_d98 l4 rfl ?_
                refine iq_getR hS 102 J_M_reading_d99 lf_17_37 (Or.inl ⟨_, rfl⟩) (ka_69 (lw_sI hM)) (ra_69_6 (lw_sI hM)) rfl ?_
                refine iq_iload_n hS 103 J_M_reading_d102 l5 rfl ?_
                refine iq_iconst hS 104 J_M_reading_d103 (v := 1) (by decide +kernel) rfl ?_
                refine iq_isub hS 105 J_M_reading_d104 rfl ?_
                obtain ⟨Q7, hQ7, h⟩ := bd2_ed h
                refine iq_cwI hS 108 J_M_reading_d105 rfl (pr_inst (vs := [_]) lc_17_264 lT_524 rfl rfl (by decide) (by decide) rfl (Nat.le_of_ble_eq_true rfl) (Nat.le_of_ble_eq_true rfl) (fun _ => Or.inl (pr_b (ka_108 (lw_sI hM)) (by decide) rfl))) (f_MSquareRows_reading_ok (dep := dep + 0) (lw_sI hM) h) rfl ?_
                intro x7 M7 hM7 h
                replace h := hQ7 _ _ h
                refine iq_goto hS J_M_reading_d108 (t := 112) rfl ?_
                exact iq_iret J_M_reading_d112 rfl rfl ⟨_, rfl, hM7, ed_some h⟩
            · replace h := ed_neg q61 h
              refine iq_aload_n hS 65 J_M_reading_d64 l4 rfl ?_
              refine iq_getI hS 68 J_M_reading_d65 lf_17_51 (Or.inl rfl) (ka_69 (lw_sI hM)) rfl ?_
              refine iq_if_ne hS 71 J_M_reading_d68 (t := 75) rfl (fun q68 => ?_) rfl (fun q68 => ?_)
              · replace h := ed_pos q68 h
                refine iq_aload_n hS 76 J_M_reading_d75 l4 rfl ?_
                refine iq_getR hS 79 J_M_reading_d76 lf_17_30 (Or.inl ⟨_, rfl⟩) (ka_69 (lw_sI hM)) (ra_69_5 (lw_sI hM)) rfl ?_
                obtain ⟨Q8, hQ8, h⟩ := bd2_ed h
                refine iq_cwI hS 82 J_M_reading_d79 rfl (pr_inst (vs := []) lc_17_260 lT_523 rfl rfl (by decide) (by decide) rfl (Nat.le_of_ble_eq_true rfl) (Nat.le_of_ble_eq_true rfl) (fun _ => Or.inl (pr_b (ka_96 (lw_sI hM)) (by decide) rfl))) (f_MLineRows_backwards_ok (dep := dep + 0) (lw_sI hM) h) rfl ?_
                intro x8 M8 hM8 h
                replace h := hQ8 _ _ h
                refine iq_if_eq hS 85 J_M_reading_d82 (t := 89) rfl (fun q82 => ?_) rfl (fun q82 => ?_)
                · replace h := ed_pos q82 h
                  refine iq_iconst hS 90 J_M_reading_d89 (v := 0) (by decide +kernel) rfl ?_
                  exact iq_iret J_M_reading_d90 rfl rfl ⟨_, rfl, hM8, ed_some h⟩
                · replace h := ed_neg q82 h
                  refine iq_iconst hS 86 J_M_reading_d85 (v := 1) (by decide +kernel) rfl ?_
                  refine iq_goto hS J_M_reading_d86 (t := 90) rfl ?_
                  exact iq_iret J_M_reading_d90 rfl rfl ⟨_, rfl, hM8, ed_some h⟩
              · replace h := ed_neg q68 h
                refine iq_iconst hS 72 J_M_reading_d71 (v := (-1)) (by decide +kernel) rfl ?_
                refine iq_goto hS J_M_reading_d72 (t := 90) rfl ?_
                exact iq_iret J_M_reading_d90 rfl rfl ⟨_, rfl, (lw_sI hM), ed_some h⟩
          · replace h := ed_neg q51 h
            exact J6 _ _ (lw_sI hM) l4 (hk6 _ h)
      · replace h := ed_neg q31 h
        refine iq_aload_n hS 35 J_M_reading_d34 l4 rfl ?_
        refine iq_getR hS 38 J_M_reading_d35 lf_17_37 (Or.inl ⟨_, rfl⟩) (ka_69 (lw_sI hM)) (ra_69_6 (lw_sI hM)) rfl ?_
        obtain ⟨Q11, hQ11, h⟩ := bd2_ed h
        refine iq_cwI hS 41 J_M_reading_d38 rfl (pr_inst (vs := []) lc_17_259 lT_522 rfl rfl (by decide) (by decide) rfl (Nat.le_of_ble_eq_true rfl) (Nat.le_of_ble_eq_true rfl) (fun _ => Or.inl (pr_b (ka_108 (lw_sI hM)) (by decide) rfl))) (f_MSquareRows_fault_ok (dep := dep + 0) (lw_sI hM) h) rfl ?_
        intro x11 M11 hM11 h
        replace h := hQ11 _ _ h
        exact iq_iret J_M_reading_d41 rfl rfl ⟨_, rfl, hM11, ed_some h⟩
    · replace h := ed_neg q23 h
      refine iq_iconst hS 27 J_M_reading_d26 (v := 0) (by decide +kernel) rfl ?_
      exact iq_iret J_M_reading_d27 rfl rfl ⟨_, rfl, (lw_sI hM), ed_some h⟩
  refine iq_if_lt hS 5 J_M_reading_d2 (t := 11) rfl (fun q2 => ?_) rfl (fun q2 => ?_)
  · refine iq_iconst hS 12 J_M_reading_d11 (v := 1) (by decide +kernel) rfl ?_
    refine iq_goto hS J_M_reading_d12 (t := 16) rfl ?_
    exact J1 _ _ (by simp only [if_pos q2]) l0 l1
  · refine iq_iload_n hS 6 J_M_reading_d5 l1 rfl ?_
    refine iq_bipush hS 8 J_M_reading_d6 (v := 6) (by decide +kernel) rfl ?_
    refine iq_icmp_le hS 11 J_M_reading_d8 (t := 15) rfl (fun q8 => ?_) rfl (fun q8 => ?_)
    · refine iq_iconst hS 16 J_M_reading_d15 (v := 0) (by decide +kernel) rfl ?_
      exact J1 _ _ (by simp only [if_neg q2, if_pos q8]) l0 l1
    · refine iq_iconst hS 12 J_M_reading_d11 (v := 1) (by decide +kernel) rfl ?_
      refine iq_goto hS J_M_reading_d12 (t := 16) rfl ?_
      exact J1 _ _ (by simp only [if_neg q2, if_neg q8]) l0 l1
theorem f_M_reading_fr {p0 : Int32} {M : im_M} {r : Int32 × im_M} (h : f_M_reading p0 M = some r) : fr 0 [(69, 0), (96, 3), (108, 0)] M r.2 := by
  replace h : ed (f_M_reading p0 M) (fun x => x = r) := ⟨r, h, rfl⟩
  unfold f_M_reading at h
  by_cases q23 : (im_i (im_setI M 69 0 ((if p0 < 0 then 1 else (if p0 ≤ 6 then 0 else 1)) : Int32)) 69 0) ≤ 0
  · replace h := ed_pos q23 h
    by_cases q31 : ¬ p0 = 6
    · replace h := ed_pos q31 h
      obtain ⟨k2, Q2, hQ2, hk2, h⟩ := jn1_ed h
      have J2 : ∀ (M5 : im_M), fr 0 [(69, 0), (96, 3), (108, 0)] M M5 → Q2 M5 → fr 0 [(69, 0), (96, 3), (108, 0)] M r.2 := by
        intro M5 hM5 h
        replace h := hQ2 _ h
        exact fr_ret h hM5
      by_cases q43 : p0 = 0
      · replace h := ed_pos q43 h
        exact J2 _ (fr_F (by decide) fr_refl) (hk2 _ h)
      · replace h := ed_neg q43 h
        by_cases q51 : ¬ (im_i (im_setI M 69 0 ((if p0 < 0 then 1 else (if p0 ≤ 6 then 0 else 1)) : Int32)) 69 10) = (-1)
        · replace h := ed_pos q51 h
          by_cases q61 : ¬ p0 = 5
          · replace h := ed_pos q61 h
            by_cases q95 : ¬ (im_i (im_setI M 69 0 ((if p0 < 0 then 1 else (if p0 ≤ 6 then 0 else 1)) : Int32)) 69 10) = 0
            · replace h := ed_pos q95 h
              exact fr_ret h (fr_F (by decide) fr_refl)
            · replace h := ed_neg q95 h
              obtain ⟨Q3, hQ3, h⟩ := bd2_ed h
              obtain ⟨⟨x3, M3⟩, e3, h⟩ := h
              replace h := hQ3 _ _ h
              exact fr_ret h (fr_tr (fr_mono (by decide) (by decide +kernel) (f_MSquareRows_reading_fr e3)) (fr_F (by decide) fr_refl))
          · replace h := ed_neg q61 h
            by_cases q68 : ¬ (im_i (im_setI M 69 0 ((if p0 < 0 then 1 else (if p0 ≤ 6 then 0 else 1)) : Int32)) 69 10) = 0
            · replace h := ed_pos q68 h
              obtain ⟨Q4, hQ4, h⟩ := bd2_ed h
              obtain ⟨⟨x4, M4⟩, e4, h⟩ := h
              replace h := hQ4 _ _ h
              by_cases q82 : x4 = 0
              · replace h := ed_pos q82 h
                exact fr_ret h (fr_tr (fr_mono (by decide) (by decide +kernel) (f_MLineRows_backwards_fr e4)) (fr_F (by decide) fr_refl))
              · replace h := ed_neg q82 h
                exact fr_ret h (fr_tr (fr_mono (by decide) (by decide +kernel) (f_MLineRows_backwards_fr e4)) (fr_F (by decide) fr_refl))
            · replace h := ed_neg q68 h
              exact fr_ret h (fr_F (by decide) fr_refl)
        · replace h := ed_neg q51 h
          exact J2 _ (fr_F (by decide) fr_refl) (hk2 _ h)
    · replace h := ed_neg q31 h
      obtain ⟨Q7, hQ7, h⟩ := bd2_ed h
      obtain ⟨⟨x7, M7⟩, e7, h⟩ := h
      replace h := hQ7 _ _ h
      exact fr_ret h (fr_tr (fr_mono (by decide) (by decide +kernel) (f_MSquareRows_fault_fr e7)) (fr_F (by decide) fr_refl))
  · replace h := ed_neg q23 h
    exact fr_ret h (fr_F (by decide) fr_refl)
noncomputable def f_M_got_L10 (v2 : Int32) (M5 : im_M) (x3 : Int64) (x4 : Int32) : Option ((Int64 × Int32) ⊕ (Int64)) := if 8 ≤ x4 then some (.inr x3) else bd1 (jn0 (fun (_ : Unit) => some x3) fun k7 => if (lg_cmp ((Int32.toInt64 v2) + (Int32.toInt64 x4)) 0) < 0 then k7 () else if 0 ≤ (lg_cmp ((Int32.toInt64 v2) + (Int32.toInt64 x4)) (Int32.toInt64 (im_i M5 69 12))) then k7 () else gd (inb (Int64.toInt32 ((Int32.toInt64 v2) + (Int32.toInt64 x4))) 3000) <| some (x3 ||| ((Int32.toInt64 (im_i M5 137 (Int32.toNatClampNeg (Int64.toInt32 ((Int32.toInt64 v2) + (Int32.toInt64 x4)))))) <<< (Int32.toInt64 ((8 : Int32) * x4) &&& 63) : Int64))) fun (y12 : Int64) => some (.inl (y12, (x4 + 1)))
noncomputable def f_M_got (p0 : Int32) (M : im_M) : Option (Int64 × im_M) := bd1 (lp (uc2 (f_M_got_L10 p0 (im_setI M 69 0 0))) (0, 0)) fun (y16 : Int64) => some (y16, (im_setI M 69 0 0))
theorem J_M_got_d0 : decode J_M_got.2.1 0 = .ok (.aload_n 0, 1) := by decide +kernel
theorem J_M_got_d1 : decode J_M_got.2.1 1 = .ok (.iconst 0, 1) := by decide +kernel
theorem J_M_got_d2 : decode J_M_got.2.1 2 = .ok (.putfield 58, 3) := by decide +kernel
theorem J_M_got_d5 : decode J_M_got.2.1 5 = .ok (.lconst 0, 1) := by decide +kernel
theorem J_M_got_d6 : decode J_M_got.2.1 6 = .ok (.lstore_n 2, 1) := by decide +kernel
theorem J_M_got_d7 : decode J_M_got.2.1 7 = .ok (.iconst 0, 1) := by decide +kernel
theorem J_M_got_d8 : decode J_M_got.2.1 8 = .ok (.istore 4, 2) := by decide +kernel
theorem J_M_got_d10 : decode J_M_got.2.1 10 = .ok (.iload 4, 2) := by decide +kernel
theorem J_M_got_d12 : decode J_M_got.2.1 12 = .ok (.bipush 8, 2) := by decide +kernel
theorem J_M_got_d14 : decode J_M_got.2.1 14 = .ok (.if_icmp .ge 57, 3) := by decide +kernel
theorem J_M_got_d17 : decode J_M_got.2.1 17 = .ok (.iload_n 1, 1) := by decide +kernel
theorem J_M_got_d18 : decode J_M_got.2.1 18 = .ok (.i2l, 1) := by decide +kernel
theorem J_M_got_d19 : decode J_M_got.2.1 19 = .ok (.iload 4, 2) := by decide +kernel
theorem J_M_got_d21 : decode J_M_got.2.1 21 = .ok (.i2l, 1) := by decide +kernel
theorem J_M_got_d22 : decode J_M_got.2.1 22 = .ok (.ladd, 1) := by decide +kernel
theorem J_M_got_d23 : decode J_M_got.2.1 23 = .ok (.lstore 5, 2) := by decide +kernel
theorem J_M_got_d25 : decode J_M_got.2.1 25 = .ok (.lload 5, 2) := by decide +kernel
theorem J_M_got_d27 : decode J_M_got.2.1 27 = .ok (.lconst 0, 1) := by decide +kernel
theorem J_M_got_d28 : decode J_M_got.2.1 28 = .ok (.lcmp, 1) := by decide +kernel
theorem J_M_got_d29 : decode J_M_got.2.1 29 = .ok (.ifCond .lt 34, 3) := by decide +kernel
theorem J_M_got_d32 : decode J_M_got.2.1 32 = .ok (.lload 5, 2) := by decide +kernel
theorem J_M_got_d34 : decode J_M_got.2.1 34 = .ok (.aload_n 0, 1) := by decide +kernel
theorem J_M_got_d35 : decode J_M_got.2.1 35 = .ok (.getfield 229, 3) := by decide +kernel
theorem J_M_got_d38 : decode J_M_got.2.1 38 = .ok (.i2l, 1) := by decide +kernel
theorem J_M_got_d39 : decode J_M_got.2.1 39 = .ok (.lcmp, 1) := by decide +kernel
theorem J_M_got_d40 : decode J_M_got.2.1 40 = .ok (.ifCond .ge 23, 3) := by decide +kernel
theorem J_M_got_d43 : decode J_M_got.2.1 43 = .ok (.lload_n 2, 1) := by decide +kernel
theorem J_M_got_d44 : decode J_M_got.2.1 44 = .ok (.aload_n 0, 1) := by decide +kernel
theorem J_M_got_d45 : decode J_M_got.2.1 45 = .ok (.getfield 55, 3) := by decide +kernel
theorem J_M_got_d48 : decode J_M_got.2.1 48 = .ok (.lload 5, 2) := by decide +kernel
theorem J_M_got_d50 : decode J_M_got.2.1 50 = .ok (.l2i, 1) := by decide +kernel
theorem J_M_got_d51 : decode J_M_got.2.1 51 = .ok (.iaload, 1) := by decide +kernel
theorem J_M_got_d52 : decode J_M_got.2.1 52 = .ok (.i2l, 1) := by decide +kernel
theorem J_M_got_d53 : decode J_M_got.2.1 53 = .ok (.bipush 8, 2) := by decide +kernel
theorem J_M_got_d55 : decode J_M_got.2.1 55 = .ok (.iload 4, 2) := by decide +kernel
theorem J_M_got_d57 : decode J_M_got.2.1 57 = .ok (.imul, 1) := by decide +kernel
theorem J_M_got_d58 : decode J_M_got.2.1 58 = .ok (.lshl, 1) := by decide +kernel
theorem J_M_got_d59 : decode J_M_got.2.1 59 = .ok (.lor, 1) := by decide +kernel
theorem J_M_got_d60 : decode J_M_got.2.1 60 = .ok (.goto 4, 3) := by decide +kernel
theorem J_M_got_d63 : decode J_M_got.2.1 63 = .ok (.lload_n 2, 1) := by decide +kernel
theorem J_M_got_d64 : decode J_M_got.2.1 64 = .ok (.lstore_n 2, 1) := by decide +kernel
theorem J_M_got_d65 : decode J_M_got.2.1 65 = .ok (.iinc 4 1, 3) := by decide +kernel
theorem J_M_got_d68 : decode J_M_got.2.1 68 = .ok (.goto (-58), 3) := by decide +kernel
theorem J_M_got_d71 : decode J_M_got.2.1 71 = .ok (.lload_n 2, 1) := by decide +kernel
theorem J_M_got_d72 : decode J_M_got.2.1 72 = .ok (.lreturn, 1) := by decide +kernel
theorem f_M_got_ok {L : Nat} {xs : Nat → Int32} {dep : Nat} {w : Bool} {p0 : Int32} {M : im_M} {Q : Int64 × im_M → Prop} (hM : lw_S w M) (h : ed (f_M_got p0 M) Q) : ia (tb_G L xs) dep J_M_got (rwL w Q) (0, lv_args 0 [.ref 69, .int p0], [], M) := by
  have hS : im_St (tb_G L xs) dep J_M_got (ia (tb_G L xs) dep J_M_got (rwL w Q)) := ia_St
  unfold f_M_got at h
  have l0 : im_lk (lv_args 0 [.ref 69, .int p0]) 0 = some (.ref 69) := rfl
  have l1 : im_lk (lv_args 0 [.ref 69, .int p0]) 1 = some (.int p0) := rfl
  refine iq_aload_n hS 1 J_M_got_d0 l0 rfl ?_
  refine iq_iconst hS 2 J_M_got_d1 (v := 0) (by decide +kernel) rfl ?_
  refine iq_putI hS 5 J_M_got_d2 lf_17_58 (Or.inl rfl) rfl (ka_69 hM) rfl ?_
  refine iq_lconst hS 6 J_M_got_d5 (v := 0) (by decide +kernel) rfl ?_
  refine iq_lstore_n hS 7 J_M_got_d6 (by decide) rfl ?_
  refine iq_iconst hS 8 J_M_got_d7 (v := 0) (by decide +kernel) rfl ?_
  refine iq_istore hS 10 J_M_got_d8 (by decide) rfl ?_
  obtain ⟨Q1, hQ1, h⟩ := bd1_ed h
  have K1 : ∀ (y2 : Int64) (L' : List (Nat × Value)), im_lk L' 2 = some (.long y2) → Q1 y2 → ia (tb_G L xs) dep J_M_got (rwL w Q) (71, L', [], (im_setI M 69 0 0)) := by
    intro y2 L' l3 h
    replace h := hQ1 _ h
    refine iq_lload_n hS 72 J_M_got_d71 l3 rfl ?_
    exact iq_lret J_M_got_d72 rfl ⟨_, rfl, (lw_sI hM), ed_some h⟩
  obtain ⟨r1, hr1, hq1⟩ := h
  obtain ⟨n1, hn1⟩ := lp_n hr1
  have I1 : ∀ (n : Nat) (x4 : Int64) (x5 : Int32) (L' : List (Nat × Value)), im_lk L' 0 = some (.ref 69) → im_lk L' 1 = some (.int p0) → im_lk L' 2 = some (.long x4) → im_lk L' 4 = some (.int x5) → lpn (uc2 (f_M_got_L10 p0 (im_setI M 69 0 0))) n (x4, x5) = some r1 → ia (tb_G L xs) dep J_M_got (rwL w Q) (10, L', [], (im_setI M 69 0 0)) := by
    intro n
    induction n with
    | zero => intro x4 x5 L' l6 l7 l8 l9 hn; exact (lpn_0 hn).elim
    | succ n ih =>
      intro x4 x5 L' l6 l7 l8 l9 hn
      have h := lpn_ed2 hn
      unfold f_M_got_L10 at h
      refine iq_iload hS 12 J_M_got_d10 l9 rfl ?_
      refine iq_bipush hS 14 J_M_got_d12 (v := 8) (by decide +kernel) rfl ?_
      refine iq_icmp_ge hS 17 J_M_got_d14 (t := 71) rfl (fun q14 => ?_) rfl (fun q14 => ?_)
      · replace h := ed_pos q14 h
        exact K1 _ _ l8 (lq_r h hq1)
      · replace h := ed_neg q14 h
        refine iq_iload_n hS 18 J_M_got_d17 l7 rfl ?_
        refine iq_i2l hS 19 J_M_got_d18 rfl ?_
        refine iq_iload hS 21 J_M_got_d19 l9 rfl ?_
        refine iq_i2l hS 22 J_M_got_d21 rfl ?_
        refine iq_ladd hS 23 J_M_got_d22 rfl ?_
        refine iq_lstore hS 25 J_M_got_d23 (by decide) rfl ?_
        refine iq_lload hS 27 J_M_got_d25 lk_2s rfl ?_
        refine iq_lconst hS 28 J_M_got_d27 (v := 0) (by decide +kernel) rfl ?_
        refine iq_lcmp hS 29 J_M_got_d28 rfl ?_
        obtain ⟨Q10, hQ10, h⟩ := bd1_ed h
        have J10 : ∀ (y16 : Int64) (L' : List (Nat × Value)), im_lk L' 0 = some (.ref 69) → im_lk L' 1 = some (.int p0) → im_lk L' 4 = some (.int x5) → Q10 y16 → ia (tb_G L xs) dep J_M_got (rwL w Q) (64, L', [.long y16], (im_setI M 69 0 0)) := by
          intro y16 L' l17 l18 l19 h
          replace h := hQ10 _ h
          refine iq_lstore_n hS 65 J_M_got_d64 (by decide) rfl ?_
          refine iq_iincv hS 68 J_M_got_d65 (c := 1) (by decide +kernel) (lk_2i l19 (by decide) (by decide)) (by decide) rfl ?_
          refine iq_goto hS J_M_got_d68 (t := 10) rfl ?_
          exact ih _ _ _ (lk_1r (lk_2r l17 (by decide) (by decide)) (by decide)) (lk_1i (lk_2i l18 (by decide) (by decide)) (by decide)) (lk_1l lk_2s (by decide) (by decide)) lk_1s (lq_l h)
        obtain ⟨k11, Q11, hQ11, hk11, h⟩ := jn0_ed h
        have J11 : ∀  (L' : List (Nat × Value)), im_lk L' 0 = some (.ref 69) → im_lk L' 1 = some (.int p0) → im_lk L' 2 = some (.long x4) → im_lk L' 4 = some (.int x5) → Q11 () → ia (tb_G L xs) dep J_M_got (rwL w Q) (63, L', [], (im_setI M 69 0 0)) := by
          intro  L' l12 l13 l14 l15 h
          replace h := hQ11  h
          refine iq_lload_n hS 64 J_M_got_d63 l14 rfl ?_
          exact J10 _ _ l12 l13 l15 (ed_some h)
        refine iq_if_lt hS 32 J_M_got_d29 (t := 63) rfl (fun q29 => ?_) rfl (fun q29 => ?_)
        · replace h := ed_pos q29 h
          exact J11  _ (lk_2r l6 (by decide) (by decide)) (lk_2i l7 (by decide) (by decide)) (lk_2l l8 (by decide) (by decide) (by decide)) (lk_2i l9 (by decide) (by decide)) (hk11  h)
        · replace h := ed_neg q29 h
          refine iq_lload hS 34 J_M_got_d32 lk_2s rfl ?_
          refine iq_aload_n hS 35 J_M_got_d34 (lk_2r l6 (by decide) (by decide)) rfl ?_
          refine iq_getI hS 38 J_M_got_d35 lf_17_229 (Or.inl rfl) (ka_69 (lw_sI hM)) rfl ?_
          refine iq_i2l hS 39 J_M_got_d38 rfl ?_
          refine iq_lcmp hS 40 J_M_got_d39 rfl ?_
          refine iq_if_ge hS 43 J_M_got_d40 (t := 63) rfl (fun q40 => ?_) rfl (fun q40 => ?_)
          · replace h := ed_pos q40 h
            exact J11  _ (lk_2r l6 (by decide) (by decide)) (lk_2i l7 (by decide) (by decide)) (lk_2l l8 (by decide) (by decide) (by decide)) (lk_2i l9 (by decide) (by decide)) (hk11  h)
          · replace h := ed_neg q40 h
            refine iq_lload_n hS 44 J_M_got_d43 (lk_2l l8 (by decide) (by decide) (by decide)) rfl ?_
            refine iq_aload_n hS 45 J_M_got_d44 (lk_2r l6 (by decide) (by decide)) rfl ?_
            refine iq_getR hS 48 J_M_got_d45 lf_17_55 (Or.inr ⟨_, rfl⟩) (ka_69 (lw_sI hM)) (ra_69_11 (lw_sI hM)) rfl ?_
            refine iq_lload hS 50 J_M_got_d48 lk_2s rfl ?_
            refine iq_l2i hS 51 J_M_got_d50 rfl ?_
            obtain ⟨g51, h⟩ := ed_gd h
            refine iq_iaload hS 52 J_M_got_d51 ⟨(ka_137 (lw_sI hM)).1, (ka_137 (lw_sI hM)).2, g51.1, ix_lt (kl_137 (lw_sI hM)) g51.2⟩ rfl ?_
            refine iq_i2l hS 53 J_M_got_d52 rfl ?_
            refine iq_bipush hS 55 J_M_got_d53 (v := 8) (by decide +kernel) rfl ?_
            refine iq_iload hS 57 J_M_got_d55 (lk_2i l9 (by decide) (by decide)) rfl ?_
            refine iq_imul hS 58 J_M_got_d57 rfl ?_
            refine iq_lshl hS 59 J_M_got_d58 rfl ?_
            refine iq_lor hS 60 J_M_got_d59 rfl ?_
            refine iq_goto hS J_M_got_d60 (t := 64) rfl ?_
            exact J10 _ _ (lk_2r l6 (by decide) (by decide)) (lk_2i l7 (by decide) (by decide)) (lk_2i l9 (by decide) (by decide)) (ed_some h)
  exact I1 n1 _ _ _ (lk_1r (lk_2r l0 (by decide) (by decide)) (by decide)) (lk_1i (lk_2i l1 (by decide) (by decide)) (by decide)) (lk_1l lk_2s (by decide) (by decide)) lk_1s hn1
theorem f_M_got_fr {p0 : Int32} {M : im_M} {r : Int64 × im_M} (h : f_M_got p0 M = some r) : fr 0 [(69, 0)] M r.2 := by
  replace h : ed (f_M_got p0 M) (fun x => x = r) := ⟨r, h, rfl⟩
  unfold f_M_got at h
  obtain ⟨Q1, hQ1, h⟩ := bd1_ed h
  have K1 : ∀ (y2 : Int64), Q1 y2 → fr 0 [(69, 0)] M r.2 := by
    intro y2 h
    replace h := hQ1 _ h
    exact fr_ret h (fr_F (by decide) fr_refl)
  obtain ⟨r1, hr1, hq1⟩ := h
  obtain ⟨n1, hn1⟩ := lp_n hr1
  have I1 : ∀ (n : Nat) (x3 : Int64) (x4 : Int32), lpn (uc2 (f_M_got_L10 p0 (im_setI M 69 0 0))) n (x3, x4) = some r1 → fr 0 [(69, 0)] M r.2 := by
    intro n
    induction n with
    | zero => intro x3 x4 hn; exact (lpn_0 hn).elim
    | succ n ih =>
      intro x3 x4 hn
      have h := lpn_ed2 hn
      unfold f_M_got_L10 at h
      by_cases q14 : 8 ≤ x4
      · replace h := ed_pos q14 h
        exact K1 _ (lq_r h hq1)
      · replace h := ed_neg q14 h
        obtain ⟨Q5, hQ5, h⟩ := bd1_ed h
        have J5 : ∀ (y11 : Int64), Q5 y11 → fr 0 [(69, 0)] M r.2 := by
          intro y11 h
          replace h := hQ5 _ h
          exact ih _ _ (lq_l h)
        obtain ⟨k6, Q6, hQ6, hk6, h⟩ := jn0_ed h
        have J6 : Q6 () → fr 0 [(69, 0)] M r.2 := by
          intro  h
          replace h := hQ6  h
          exact J5 _ (ed_some h)
        by_cases q29 : (lg_cmp ((Int32.toInt64 p0) + (Int32.toInt64 x4)) 0) < 0
        · replace h := ed_pos q29 h
          exact J6  (hk6  h)
        · replace h := ed_neg q29 h
          by_cases q40 : 0 ≤ (lg_cmp ((Int32.toInt64 p0) + (Int32.toInt64 x4)) (Int32.toInt64 (im_i (im_setI M 69 0 0) 69 12)))
          · replace h := ed_pos q40 h
            exact J6  (hk6  h)
          · replace h := ed_neg q40 h
            obtain ⟨g51, h⟩ := ed_gd h
            exact J5 _ (ed_some h)
  exact I1 n1 _ _ hn1
