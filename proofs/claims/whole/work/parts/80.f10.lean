/-! METHODS AS FUNCTIONS -/
noncomputable def f_MDotRows_bars_L75 (v31 : Int32) (v32 : Int32) (v33 : Int32) (v34 : Int32) (v35 : Int32) (v36 : Int32) (M39 : im_M) (x37 : Int32) (x38 : Int32) : Option ((Int32 × Int32) ⊕ (Int32 × Int32)) := if ¬ x38 = 0 then some (.inr (x37, x38)) else if (im_i M39 89 7) ≤ x37 then some (.inr (x37, x38)) else bd1 (if (im_i M39 89 7) ≤ (x37 + 1) then some 0 else gd (inb (x37 + 1) 4096) <| some (v34 * (im_i M39 92 (Int32.toNatClampNeg (x37 + 1))))) fun (y41 : Int32) => some (.inl ((x37 + 1), y41))
noncomputable def f_MDotRows_bars_L67 (v21 : Int32) (v22 : Int32) (v23 : Int32) (v24 : Int32) (v25 : Int32) (x26 : Int32) (x27 : Int32) (x28 : Int32) (M29 : im_M) : Option ((Int32 × Int32 × Int32 × im_M) ⊕ (im_M)) := if 5200 ≤ x28 then some (.inr M29) else bd2 (lp (uc2 (f_MDotRows_bars_L75 v21 v22 v23 v24 v25 x28 M29)) (x26, x27)) fun (y50 : Int32) (y51 : Int32) => bd1 (jn0 (fun (_ : Unit) => some 0) fun k53 => if (im_i M29 89 7) ≤ y50 then k53 () else if ¬ (y50 - y50 / 2 * 2) = 0 then k53 () else some 1) fun (y63 : Int32) => gd (inb x28 5200) <| some (.inl (y50, ((if y51 ≤ 0 then 0 else (y51 - 1)) : Int32), (x28 + 1), (im_setI M29 95 (Int32.toNatClampNeg x28) (vp_nar .boolean y63))))
noncomputable def f_MDotRows_bars (p0 : Int32) (p1 : Int32) (p2 : Int32) (p3 : Int32) (p4 : Int32) (M : im_M) : Option (Int32 × im_M) := bd1 (f_MDotRows_noPlace p0 p1 M) fun (x1 : Int32) => bd1 (jn0 (fun (_ : Unit) => some 1) fun k3 => if ¬ x1 = 0 then k3 () else bd1 (f_MDotRows_isNot p2 1 2048 M) fun (x4 : Int32) => if ¬ x4 = 0 then k3 () else bd1 (f_MDotRows_isNot p3 1 50 M) fun (x5 : Int32) => if ¬ x5 = 0 then k3 () else bd1 (f_MDotRows_isNot p4 0 3 M) fun (x6 : Int32) => if x6 = 0 then some 0 else k3 ()) fun (y13 : Int32) => if (im_i (im_setI M 89 0 y13) 89 0) ≤ 0 then bd1 (lp (uc4 (f_MDotRows_bars_L67 p0 p1 p2 p3 p4)) ((-1), 0, 0, (im_setI M 89 0 y13))) fun (M74 : im_M) => bd1 (f_MDotRows_at p0 p1 0 p2 0 M74) fun (M75 : im_M) => bd2 (f_MDotRows_draw 4 (im_setI M75 89 15 p4)) fun (x76 : Int32) (M76 : im_M) => some (x76, M76) else some (0, (im_setI M 89 0 y13))
theorem J_MDotRows_bars_d0 : decode J_MDotRows_bars.2.1 0 = .ok (.aload_n 0, 1) := by decide +kernel
theorem J_MDotRows_bars_d1 : decode J_MDotRows_bars.2.1 1 = .ok (.iload_n 1, 1) := by decide +kernel
theorem J_MDotRows_bars_d2 : decode J_MDotRows_bars.2.1 2 = .ok (.iload_n 2, 1) := by decide +kernel
theorem J_MDotRows_bars_d3 : decode J_MDotRows_bars.2.1 3 = .ok (.invokestatic 124, 3) := by decide +kernel
theorem J_MDotRows_bars_d6 : decode J_MDotRows_bars.2.1 6 = .ok (.ifCond .ne 35, 3) := by decide +kernel
theorem J_MDotRows_bars_d9 : decode J_MDotRows_bars.2.1 9 = .ok (.iload_n 3, 1) := by decide +kernel
theorem J_MDotRows_bars_d10 : decode J_MDotRows_bars.2.1 10 = .ok (.iconst 1, 1) := by decide +kernel
theorem J_MDotRows_bars_d11 : decode J_MDotRows_bars.2.1 11 = .ok (.sipush 2048, 3) := by decide +kernel
theorem J_MDotRows_bars_d14 : decode J_MDotRows_bars.2.1 14 = .ok (.invokestatic 121, 3) := by decide +kernel
theorem J_MDotRows_bars_d17 : decode J_MDotRows_bars.2.1 17 = .ok (.ifCond .ne 24, 3) := by decide +kernel
theorem J_MDotRows_bars_d20 : decode J_MDotRows_bars.2.1 20 = .ok (.iload 4, 2) := by decide +kernel
theorem J_MDotRows_bars_d22 : decode J_MDotRows_bars.2.1 22 = .ok (.iconst 1, 1) := by decide +kernel
theorem J_MDotRows_bars_d23 : decode J_MDotRows_bars.2.1 23 = .ok (.bipush 50, 2) := by decide +kernel
theorem J_MDotRows_bars_d25 : decode J_MDotRows_bars.2.1 25 = .ok (.invokestatic 121, 3) := by decide +kernel
theorem J_MDotRows_bars_d28 : decode J_MDotRows_bars.2.1 28 = .ok (.ifCond .ne 13, 3) := by decide +kernel
theorem J_MDotRows_bars_d31 : decode J_MDotRows_bars.2.1 31 = .ok (.iload 5, 2) := by decide +kernel
theorem J_MDotRows_bars_d33 : decode J_MDotRows_bars.2.1 33 = .ok (.iconst 0, 1) := by decide +kernel
theorem J_MDotRows_bars_d34 : decode J_MDotRows_bars.2.1 34 = .ok (.iconst 3, 1) := by decide +kernel
theorem J_MDotRows_bars_d35 : decode J_MDotRows_bars.2.1 35 = .ok (.invokestatic 121, 3) := by decide +kernel
theorem J_MDotRows_bars_d38 : decode J_MDotRows_bars.2.1 38 = .ok (.ifCond .eq 7, 3) := by decide +kernel
theorem J_MDotRows_bars_d41 : decode J_MDotRows_bars.2.1 41 = .ok (.iconst 1, 1) := by decide +kernel
theorem J_MDotRows_bars_d42 : decode J_MDotRows_bars.2.1 42 = .ok (.goto 4, 3) := by decide +kernel
theorem J_MDotRows_bars_d45 : decode J_MDotRows_bars.2.1 45 = .ok (.iconst 0, 1) := by decide +kernel
theorem J_MDotRows_bars_d46 : decode J_MDotRows_bars.2.1 46 = .ok (.putfield 37, 3) := by decide +kernel
theorem J_MDotRows_bars_d49 : decode J_MDotRows_bars.2.1 49 = .ok (.aload_n 0, 1) := by decide +kernel
theorem J_MDotRows_bars_d50 : decode J_MDotRows_bars.2.1 50 = .ok (.getfield 37, 3) := by decide +kernel
theorem J_MDotRows_bars_d53 : decode J_MDotRows_bars.2.1 53 = .ok (.ifCond .le 5, 3) := by decide +kernel
theorem J_MDotRows_bars_d56 : decode J_MDotRows_bars.2.1 56 = .ok (.iconst 0, 1) := by decide +kernel
theorem J_MDotRows_bars_d57 : decode J_MDotRows_bars.2.1 57 = .ok (.ireturn, 1) := by decide +kernel
theorem J_MDotRows_bars_d58 : decode J_MDotRows_bars.2.1 58 = .ok (.iconst (-1), 1) := by decide +kernel
theorem J_MDotRows_bars_d59 : decode J_MDotRows_bars.2.1 59 = .ok (.istore 6, 2) := by decide +kernel
theorem J_MDotRows_bars_d61 : decode J_MDotRows_bars.2.1 61 = .ok (.iconst 0, 1) := by decide +kernel
theorem J_MDotRows_bars_d62 : decode J_MDotRows_bars.2.1 62 = .ok (.istore 7, 2) := by decide +kernel
theorem J_MDotRows_bars_d64 : decode J_MDotRows_bars.2.1 64 = .ok (.iconst 0, 1) := by decide +kernel
theorem J_MDotRows_bars_d65 : decode J_MDotRows_bars.2.1 65 = .ok (.istore 8, 2) := by decide +kernel
theorem J_MDotRows_bars_d67 : decode J_MDotRows_bars.2.1 67 = .ok (.iload 8, 2) := by decide +kernel
theorem J_MDotRows_bars_d69 : decode J_MDotRows_bars.2.1 69 = .ok (.sipush 5200, 3) := by decide +kernel
theorem J_MDotRows_bars_d72 : decode J_MDotRows_bars.2.1 72 = .ok (.if_icmp .ge 97, 3) := by decide +kernel
theorem J_MDotRows_bars_d75 : decode J_MDotRows_bars.2.1 75 = .ok (.iload 7, 2) := by decide +kernel
theorem J_MDotRows_bars_d77 : decode J_MDotRows_bars.2.1 77 = .ok (.ifCond .ne 43, 3) := by decide +kernel
theorem J_MDotRows_bars_d80 : decode J_MDotRows_bars.2.1 80 = .ok (.iload 6, 2) := by decide +kernel
theorem J_MDotRows_bars_d82 : decode J_MDotRows_bars.2.1 82 = .ok (.aload_n 0, 1) := by decide +kernel
theorem J_MDotRows_bars_d83 : decode J_MDotRows_bars.2.1 83 = .ok (.getfield 47, 3) := by decide +kernel
theorem J_MDotRows_bars_d86 : decode J_MDotRows_bars.2.1 86 = .ok (.if_icmp .ge 34, 3) := by decide +kernel
theorem J_MDotRows_bars_d89 : decode J_MDotRows_bars.2.1 89 = .ok (.iinc 6 1, 3) := by decide +kernel
theorem J_MDotRows_bars_d92 : decode J_MDotRows_bars.2.1 92 = .ok (.iload 6, 2) := by decide +kernel
theorem J_MDotRows_bars_d94 : decode J_MDotRows_bars.2.1 94 = .ok (.aload_n 0, 1) := by decide +kernel
theorem J_MDotRows_bars_d95 : decode J_MDotRows_bars.2.1 95 = .ok (.getfield 47, 3) := by decide +kernel
theorem J_MDotRows_bars_d98 : decode J_MDotRows_bars.2.1 98 = .ok (.if_icmp .ge 16, 3) := by decide +kernel
theorem J_MDotRows_bars_d101 : decode J_MDotRows_bars.2.1 101 = .ok (.iload 4, 2) := by decide +kernel
theorem J_MDotRows_bars_d103 : decode J_MDotRows_bars.2.1 103 = .ok (.aload_n 0, 1) := by decide +kernel
theorem J_MDotRows_bars_d104 : decode J_MDotRows_bars.2.1 104 = .ok (.getfield 24, 3) := by decide +kernel
theorem J_MDotRows_bars_d107 : decode J_MDotRows_bars.2.1 107 = .ok (.iload 6, 2) := by decide +kernel
theorem J_MDotRows_bars_d109 : decode J_MDotRows_bars.2.1 109 = .ok (.iaload, 1) := by decide +kernel
theorem J_MDotRows_bars_d110 : decode J_MDotRows_bars.2.1 110 = .ok (.imul, 1) := by decide +kernel
theorem J_MDotRows_bars_d111 : decode J_MDotRows_bars.2.1 111 = .ok (.goto 4, 3) := by decide +kernel
theorem J_MDotRows_bars_d114 : decode J_MDotRows_bars.2.1 114 = .ok (.iconst 0, 1) := by decide +kernel
theorem J_MDotRows_bars_d115 : decode J_MDotRows_bars.2.1 115 = .ok (.istore 7, 2) := by decide +kernel
theorem J_MDotRows_bars_d117 : decode J_MDotRows_bars.2.1 117 = .ok (.goto (-42), 3) := by decide +kernel
theorem J_MDotRows_bars_d120 : decode J_MDotRows_bars.2.1 120 = .ok (.aload_n 0, 1) := by decide +kernel
theorem J_MDotRows_bars_d121 : decode J_MDotRows_bars.2.1 121 = .ok (.getfield 33, 3) := by decide +kernel
theorem J_MDotRows_bars_d124 : decode J_MDotRows_bars.2.1 124 = .ok (.iload 8, 2) := by decide +kernel
theorem J_MDotRows_bars_d126 : decode J_MDotRows_bars.2.1 126 = .ok (.iload 6, 2) := by decide +kernel
theorem J_MDotRows_bars_d128 : decode J_MDotRows_bars.2.1 128 = .ok (.aload_n 0, 1) := by decide +kernel
theorem J_MDotRows_bars_d129 : decode J_MDotRows_bars.2.1 129 = .ok (.getfield 47, 3) := by decide +kernel
theorem J_MDotRows_bars_d132 : decode J_MDotRows_bars.2.1 132 = .ok (.if_icmp .ge 14, 3) := by decide +kernel
theorem J_MDotRows_bars_d135 : decode J_MDotRows_bars.2.1 135 = .ok (.iload 6, 2) := by decide +kernel
theorem J_MDotRows_bars_d137 : decode J_MDotRows_bars.2.1 137 = .ok (.iconst 2, 1) := by decide +kernel
theorem J_MDotRows_bars_d138 : decode J_MDotRows_bars.2.1 138 = .ok (.irem, 1) := by decide +kernel
theorem J_MDotRows_bars_d139 : decode J_MDotRows_bars.2.1 139 = .ok (.ifCond .ne 7, 3) := by decide +kernel
theorem J_MDotRows_bars_d142 : decode J_MDotRows_bars.2.1 142 = .ok (.iconst 1, 1) := by decide +kernel
theorem J_MDotRows_bars_d143 : decode J_MDotRows_bars.2.1 143 = .ok (.goto 4, 3) := by decide +kernel
theorem J_MDotRows_bars_d146 : decode J_MDotRows_bars.2.1 146 = .ok (.iconst 0, 1) := by decide +kernel
theorem J_MDotRows_bars_d147 : decode J_MDotRows_bars.2.1 147 = .ok (.bastore, 1) := by decide +kernel
theorem J_MDotRows_bars_d148 : decode J_MDotRows_bars.2.1 148 = .ok (.iload 7, 2) := by decide +kernel
theorem J_MDotRows_bars_d150 : decode J_MDotRows_bars.2.1 150 = .ok (.ifCond .le 10, 3) := by decide +kernel
theorem J_MDotRows_bars_d153 : decode J_MDotRows_bars.2.1 153 = .ok (.iload 7, 2) := by decide +kernel
theorem J_MDotRows_bars_d155 : decode J_MDotRows_bars.2.1 155 = .ok (.iconst 1, 1) := by decide +kernel
theorem J_MDotRows_bars_d156 : decode J_MDotRows_bars.2.1 156 = .ok (.isub, 1) := by decide +kernel
theorem J_MDotRows_bars_d157 : decode J_MDotRows_bars.2.1 157 = .ok (.goto 4, 3) := by decide +kernel
theorem J_MDotRows_bars_d160 : decode J_MDotRows_bars.2.1 160 = .ok (.iconst 0, 1) := by decide +kernel
theorem J_MDotRows_bars_d161 : decode J_MDotRows_bars.2.1 161 = .ok (.istore 7, 2) := by decide +kernel
theorem J_MDotRows_bars_d163 : decode J_MDotRows_bars.2.1 163 = .ok (.iinc 8 1, 3) := by decide +kernel
theorem J_MDotRows_bars_d166 : decode J_MDotRows_bars.2.1 166 = .ok (.goto (-99), 3) := by decide +kernel
theorem J_MDotRows_bars_d169 : decode J_MDotRows_bars.2.1 169 = .ok (.aload_n 0, 1) := by decide +kernel
theorem J_MDotRows_bars_d170 : decode J_MDotRows_bars.2.1 170 = .ok (.iload_n 1, 1) := by decide +kernel
theorem J_MDotRows_bars_d171 : decode J_MDotRows_bars.2.1 171 = .ok (.iload_n 2, 1) := by decide +kernel
theorem J_MDotRows_bars_d172 : decode J_MDotRows_bars.2.1 172 = .ok (.iconst 0, 1) := by decide +kernel
theorem J_MDotRows_bars_d173 : decode J_MDotRows_bars.2.1 173 = .ok (.iload_n 3, 1) := by decide +kernel
theorem J_MDotRows_bars_d174 : decode J_MDotRows_bars.2.1 174 = .ok (.iconst 0, 1) := by decide +kernel
theorem J_MDotRows_bars_d175 : decode J_MDotRows_bars.2.1 175 = .ok (.invokevirtual 130, 3) := by decide +kernel
theorem J_MDotRows_bars_d178 : decode J_MDotRows_bars.2.1 178 = .ok (.aload_n 0, 1) := by decide +kernel
theorem J_MDotRows_bars_d179 : decode J_MDotRows_bars.2.1 179 = .ok (.iload 5, 2) := by decide +kernel
theorem J_MDotRows_bars_d181 : decode J_MDotRows_bars.2.1 181 = .ok (.putfield 75, 3) := by decide +kernel
theorem J_MDotRows_bars_d184 : decode J_MDotRows_bars.2.1 184 = .ok (.aload_n 0, 1) := by decide +kernel
theorem J_MDotRows_bars_d185 : decode J_MDotRows_bars.2.1 185 = .ok (.iconst 4, 1) := by decide +kernel
theorem J_MDotRows_bars_d186 : decode J_MDotRows_bars.2.1 186 = .ok (.invokevirtual 134, 3) := by decide +kernel
theorem J_MDotRows_bars_d189 : decode J_MDotRows_bars.2.1 189 = .ok (.ireturn, 1) := by decide +kernel
theorem f_MDotRows_bars_ok {L : Nat} {xs : Nat → Int32} {dep : Nat} {w : Bool} {p0 : Int32} {p1 : Int32} {p2 : Int32} {p3 : Int32} {p4 : Int32} {M : im_M} {Q : Int32 × im_M → Prop} (hM : lw_S w M) (h : ed (f_MDotRows_bars p0 p1 p2 p3 p4 M) Q) : ia (tb_G L xs) (dep + 4) J_MDotRows_bars (rwI w Q) (0, lv_args 0 [.ref 89, .int p0, .int p1, .int p2, .int p3, .int p4], [], M) := by
  have hS : im_St (tb_G L xs) (dep + 4) J_MDotRows_bars (ia (tb_G L xs) (dep + 4) J_MDotRows_bars (rwI w Q)) := ia_St
  unfold f_MDotRows_bars at h
  have l0 : im_lk (lv_args 0 [.ref 89, .int p0, .int p1, .int p2, .int p3, .int p4]) 0 = some (.ref 89) := rfl
  have l1 : im_lk (lv_args 0 [.ref 89, .int p0, .int p1, .int p2, .int p3, .int p4]) 1 = some (.int p0) := rfl
  have l2 : im_lk (lv_args 0 [.ref 89, .int p0, .int p1, .int p2, .int p3, .int p4]) 2 = some (.int p1) := rfl
  have l3 : im_lk (lv_args 0 [.ref 89, .int p0, .int p1, .int p2, .int p3, .int p4]) 3 = some (.int p2) := rfl
  have l4 : im_lk (lv_args 0 [.ref 89, .int p0, .int p1, .int p2, .int p3, .int p4]) 4 = some (.int p3) := rfl
  have l5 : im_lk (lv_args 0 [.ref 89, .int p0, .int p1, .int p2, .int p3, .int p4]) 5 = some (.int p4) := rfl
  refine iq_aload_n hS 1 J_MDotRows_bars_d0 l0 rfl ?_
  refine iq_iload_n hS 2 J_MDotRows_bars_d1 l1 rfl ?_
  refine iq_iload_n hS 3 J_MDotRows_bars_d2 l2 rfl ?_
  obtain ⟨Q1, hQ1, h⟩ := bd1_ed h
  refine iq_cpI hS 6 J_MDotRows_bars_d3 rfl (pr_stat (vs := [_, _]) lc_12_124 lT_340 rfl rfl (by decide) rfl (Nat.le_of_ble_eq_true rfl) (Nat.le_of_ble_eq_true rfl)) (f_MDotRows_noPlace_ok (dep := dep + 3) hM h) rfl ?_
  intro x1 h
  replace h := hQ1 _ h
  obtain ⟨Q2, hQ2, h⟩ := bd1_ed h
  have J2 : ∀ (y13 : Int32) (L' : List (Nat × Value)), im_lk L' 0 = some (.ref 89) → im_lk L' 1 = some (.int p0) → im_lk L' 2 = some (.int p1) → im_lk L' 3 = some (.int p2) → im_lk L' 4 = some (.int p3) → im_lk L' 5 = some (.int p4) → Q2 y13 → ia (tb_G L xs) (dep + 4) J_MDotRows_bars (rwI w Q) (46, L', [.int y13, .ref 89], M) := by
    intro y13 L' l14 l15 l16 l17 l18 l19 h
    replace h := hQ2 _ h
    refine iq_putI hS 49 J_MDotRows_bars_d46 lf_12_37 (Or.inl rfl) rfl (ka_89 hM) rfl ?_
    refine iq_aload_n hS 50 J_MDotRows_bars_d49 l14 rfl ?_
    refine iq_getI hS 53 J_MDotRows_bars_d50 lf_12_37 (Or.inl rfl) (ka_89 (lw_sI hM)) rfl ?_
    refine iq_if_le hS 56 J_MDotRows_bars_d53 (t := 58) rfl (fun q53 => ?_) rfl (fun q53 => ?_)
    · replace h := ed_pos q53 h
      refine iq_iconst hS 59 J_MDotRows_bars_d58 (v := (-1)) (by decide +kernel) rfl ?_
      refine iq_istore hS 61 J_MDotRows_bars_d59 (by decide) rfl ?_
      refine iq_iconst hS 62 J_MDotRows_bars_d61 (v := 0) (by decide +kernel) rfl ?_
      refine iq_istore hS 64 J_MDotRows_bars_d62 (by decide) rfl ?_
      refine iq_iconst hS 65 J_MDotRows_bars_d64 (v := 0) (by decide +kernel) rfl ?_
      refine iq_istore hS 67 J_MDotRows_bars_d65 (by decide) rfl ?_
      obtain ⟨Q20, hQ20, h⟩ := bd1_ed h
      have K20 : ∀ (M21 : im_M) (L' : List (Nat × Value)), lw_S w M21 → im_lk L' 0 = some (.ref 89) → im_lk L' 1 = some (.int p0) → im_lk L' 2 = some (.int p1) → im_lk L' 3 = some (.int p2) → im_lk L' 5 = some (.int p4) → Q20 M21 → ia (tb_G L xs) (dep + 4) J_MDotRows_bars (rwI w Q) (169, L', [], M21) := by
        intro M21 L' hM21 l22 l23 l24 l25 l26 h
        replace h := hQ20 _ h
        refine iq_aload_n hS 170 J_MDotRows_bars_d169 l22 rfl ?_
        refine iq_iload_n hS 171 J_MDotRows_bars_d170 l23 rfl ?_
        refine iq_iload_n hS 172 J_MDotRows_bars_d171 l24 rfl ?_
        refine iq_iconst hS 173 J_MDotRows_bars_d172 (v := 0) (by decide +kernel) rfl ?_
        refine iq_iload_n hS 174 J_MDotRows_bars_d173 l25 rfl ?_
        refine iq_iconst hS 175 J_MDotRows_bars_d174 (v := 0) (by decide +kernel) rfl ?_
        obtain ⟨Q27, hQ27, h⟩ := bd1_ed h
        refine iq_cwV hS 178 J_MDotRows_bars_d175 rfl (pr_inst (vs := [_, _, _, _, _]) lc_12_130 lT_341 rfl rfl (by decide) (by decide) rfl (Nat.le_of_ble_eq_true rfl) (Nat.le_of_ble_eq_true rfl) (fun _ => Or.inl (pr_b (ka_89 hM21) (by decide) rfl))) (f_MDotRows_at_ok (dep := dep + 3) hM21 h) rfl ?_
        intro M27 hM27 h
        replace h := hQ27 _ h
        refine iq_aload_n hS 179 J_MDotRows_bars_d178 l22 rfl ?_
        refine iq_iload hS 181 J_MDotRows_bars_d179 l26 rfl ?_
        refine iq_putI hS 184 J_MDotRows_bars_d181 lf_12_75 (Or.inl rfl) rfl (ka_89 hM27) rfl ?_
        refine iq_aload_n hS 185 J_MDotRows_bars_d184 l22 rfl ?_
        refine iq_iconst hS 186 J_MDotRows_bars_d185 (v := 4) (by decide +kernel) rfl ?_
        obtain ⟨Q28, hQ28, h⟩ := bd2_ed h
        refine iq_cwI hS 189 J_MDotRows_bars_d186 rfl (pr_inst (vs := [_]) lc_12_134 lT_342 rfl rfl (by decide) (by decide) rfl (Nat.le_of_ble_eq_true rfl) (Nat.le_of_ble_eq_true rfl) (fun _ => Or.inl (pr_b (ka_89 (lw_sI hM27)) (by decide) rfl))) (f_MDotRows_draw_ok (dep := dep + 0) (lw_sI hM27) h) rfl ?_
        intro x28 M28 hM28 h
        replace h := hQ28 _ _ h
        exact iq_iret J_MDotRows_bars_d189 rfl rfl ⟨_, rfl, hM28, ed_some h⟩
      obtain ⟨r20, hr20, hq20⟩ := h
      obtain ⟨n20, hn20⟩ := lp_n hr20
      have I20 : ∀ (n : Nat) (x29 : Int32) (x30 : Int32) (x31 : Int32) (M32 : im_M) (L' : List (Nat × Value)), lw_S w M32 → im_lk L' 0 = some (.ref 89) → im_lk L' 1 = some (.int p0) → im_lk L' 2 = some (.int p1) → im_lk L' 3 = some (.int p2) → im_lk L' 4 = some (.int p3) → im_lk L' 5 = some (.int p4) → im_lk L' 6 = some (.int x29) → im_lk L' 7 = some (.int x30) → im_lk L' 8 = some (.int x31) → lpn (uc4 (f_MDotRows_bars_L67 p0 p1 p2 p3 p4)) n (x29, x30, x31, M32) = some r20 → ia (tb_G L xs) (dep + 4) J_MDotRows_bars (rwI w Q) (67, L', [], M32) := by
        intro n
        induction n with
        | zero => intro x29 x30 x31 M32 L' hM32 l33 l34 l35 l36 l37 l38 l39 l40 l41 hn; exact (lpn_0 hn).elim
        | succ n ih =>
          intro x29 x30 x31 M32 L' hM32 l33 l34 l35 l36 l37 l38 l39 l40 l41 hn
          have h := lpn_ed4 hn
          unfold f_MDotRows_bars_L67 at h
          refine iq_iload hS 69 J_MDotRows_bars_d67 l41 rfl ?_
          refine iq_sipush hS 72 J_MDotRows_bars_d69 (v := 5200) (by decide +kernel) rfl ?_
          refine iq_icmp_ge hS 75 J_MDotRows_bars_d72 (t := 169) rfl (fun q72 => ?_) rfl (fun q72 => ?_)
          · replace h := ed_pos q72 h
            exact K20 _ _ hM32 l33 l34 l35 l36 l38 (lq_r h hq20)
          · replace h := ed_neg q72 h
            obtain ⟨Q42, hQ42, h⟩ := bd2_ed h
            have K42 : ∀ (y43 : Int32) (y44 : Int32) (L' : List (Nat × Value)), im_lk L' 0 = some (.ref 89) → im_lk L' 1 = some (.int p0) → im_lk L' 2 = some (.int p1) → im_lk L' 3 = some (.int p2) → im_lk L' 4 = some (.int p3) → im_lk L' 5 = some (.int p4) → im_lk L' 6 = some (.int y43) → im_lk L' 7 = some (.int y44) → im_lk L' 8 = some (.int x31) → Q42 (y43, y44) → ia (tb_G L xs) (dep + 4) J_MDotRows_bars (rwI w Q) (120, L', [], M32) := by
              intro y43 y44 L' l45 l46 l47 l48 l49 l50 l51 l52 l53 h
              replace h := hQ42 _ _ h
              refine iq_aload_n hS 121 J_MDotRows_bars_d120 l45 rfl ?_
              refine iq_getR hS 124 J_MDotRows_bars_d121 lf_12_33 (Or.inr ⟨_, rfl⟩) (ka_89 hM32) (ra_89_17 hM32) rfl ?_
              refine iq_iload hS 126 J_MDotRows_bars_d124 l53 rfl ?_
              refine iq_iload hS 128 J_MDotRows_bars_d126 l51 rfl ?_
              refine iq_aload_n hS 129 J_MDotRows_bars_d128 l45 rfl ?_
              refine iq_getI hS 132 J_MDotRows_bars_d129 lf_12_47 (Or.inl rfl) (ka_89 hM32) rfl ?_
              obtain ⟨Q54, hQ54, h⟩ := bd1_ed h
              have J54 : ∀ (y65 : Int32) (L' : List (Nat × Value)), im_lk L' 0 = some (.ref 89) → im_lk L' 1 = some (.int p0) → im_lk L' 2 = some (.int p1) → im_lk L' 3 = some (.int p2) → im_lk L' 4 = some (.int p3) → im_lk L' 5 = some (.int p4) → im_lk L' 6 = some (.int y43) → im_lk L' 7 = some (.int y44) → im_lk L' 8 = some (.int x31) → Q54 y65 → ia (tb_G L xs) (dep + 4) J_MDotRows_bars (rwI w Q) (147, L', [.int y65, .int x31, .ref 95], M32) := by
                intro y65 L' l66 l67 l68 l69 l70 l71 l72 l73 l74 h
                replace h := hQ54 _ h
                obtain ⟨g147, h⟩ := ed_gd h
                refine iq_zastore hS 148 J_MDotRows_bars_d147 ⟨(ka_95 hM32).1, (ka_95 hM32).2, g147.1, ix_lt (kl_95 hM32) g147.2⟩ rfl ?_
                refine iq_iload hS 150 J_MDotRows_bars_d148 l73 rfl ?_
                have J75 : ∀ (z76 : Int32) (L' : List (Nat × Value)), z76 = ((if y44 ≤ 0 then 0 else (y44 - 1)) : Int32) → im_lk L' 0 = some (.ref 89) → im_lk L' 1 = some (.int p0) → im_lk L' 2 = some (.int p1) → im_lk L' 3 = some (.int p2) → im_lk L' 4 = some (.int p3) → im_lk L' 5 = some (.int p4) → im_lk L' 6 = some (.int y43) → im_lk L' 8 = some (.int x31) → ia (tb_G L xs) (dep + 4) J_MDotRows_bars (rwI w Q) (161, L', [.int z76], (im_setI M32 95 (Int32.toNatClampNeg x31) (vp_nar .boolean y65))) := by
                  intro z76 L' e77 l78 l79 l80 l81 l82 l83 l84 l85
                  subst e77
                  refine iq_istore hS 163 J_MDotRows_bars_d161 (by decide) rfl ?_
                  refine iq_iincv hS 166 J_MDotRows_bars_d163 (c := 1) (by decide +kernel) (lk_1i l85 (by decide)) (by decide) rfl ?_
                  refine iq_goto hS J_MDotRows_bars_d166 (t := 67) rfl ?_
                  exact ih _ _ _ _ _ (lw_sI hM32) (lk_1r (lk_1r l78 (by decide)) (by decide)) (lk_1i (lk_1i l79 (by decide)) (by decide)) (lk_1i (lk_1i l80 (by decide)) (by decide)) (lk_1i (lk_1i l81 (by decide)) (by decide)) (lk_1i (lk_1i l82 (by decide)) (by decide)) (lk_1i (lk_1i l83 (by decide)) (by decide)) (lk_1i (lk_1i l84 (by decide)) (by decide)) (lk_1i lk_1s (by decide)) lk_1s (lq_l h)
                refine iq_if_le hS 153 J_MDotRows_bars_d150 (t := 160) rfl (fun q150 => ?_) rfl (fun q150 => ?_)
                · refine iq_iconst hS 161 J_MDotRows_bars_d160 (v := 0) (by decide +kernel) rfl ?_
                  exact J75 _ _ (by simp only [if_pos q150]) l66 l67 l68 l69 l70 l71 l72 l74
                · refine iq_iload hS 155 J_MDotRows_bars_d153 l73 rfl ?_
                  refine iq_iconst hS 156 J_MDotRows_bars_d155 (v := 1) (by decide +kernel) rfl ?_
                  refine iq_isub hS 157 J_MDotRows_bars_d156 rfl ?_
                  refine iq_goto hS J_MDotRows_bars_d157 (t := 161) rfl ?_
                  exact J75 _ _ (by simp only [if_neg q150]) l66 l67 l68 l69 l70 l71 l72 l74
              obtain ⟨k55, Q55, hQ55, hk55, h⟩ := jn0_ed h
              have J55 : ∀  (L' : List (Nat × Value)), im_lk L' 0 = some (.ref 89) → im_lk L' 1 = some (.int p0) → im_lk L' 2 = some (.int p1) → im_lk L' 3 = some (.int p2) → im_lk L' 4 = some (.int p3) → im_lk L' 5 = some (.int p4) → im_lk L' 6 = some (.int y43) → im_lk L' 7 = some (.int y44) → im_lk L' 8 = some (.int x31) → Q55 () → ia (tb_G L xs) (dep + 4) J_MDotRows_bars (rwI w Q) (146, L', [.int x31, .ref 95], M32) := by
                intro  L' l56 l57 l58 l59 l60 l61 l62 l63 l64 h
                replace h := hQ55  h
                refine iq_iconst hS 147 J_MDotRows_bars_d146 (v := 0) (by decide +kernel) rfl ?_
                exact J54 _ _ l56 l57 l58 l59 l60 l61 l62 l63 l64 (ed_some h)
              refine iq_icmp_ge hS 135 J_MDotRows_bars_d132 (t := 146) rfl (fun q132 => ?_) rfl (fun q132 => ?_)
              · replace h := ed_pos q132 h
                exact J55  _ l45 l46 l47 l48 l49 l50 l51 l52 l53 (hk55  h)
              · replace h := ed_neg q132 h
                refine iq_iload hS 137 J_MDotRows_bars_d135 l51 rfl ?_
                refine iq_iconst hS 138 J_MDotRows_bars_d137 (v := 2) (by decide +kernel) rfl ?_
                refine iq_irem hS 139 J_MDotRows_bars_d138 (by decide) rfl ?_
                refine iq_if_ne hS 142 J_MDotRows_bars_d139 (t := 146) rfl (fun q139 => ?_) rfl (fun q139 => ?_)
                · replace h := ed_pos q139 h
                  exact J55  _ l45 l46 l47 l48 l49 l50 l51 l52 l53 (hk55  h)
                · replace h := ed_neg q139 h
                  refine iq_iconst hS 143 J_MDotRows_bars_d142 (v := 1) (by decide +kernel) rfl ?_
                  refine iq_goto hS J_MDotRows_bars_d143 (t := 147) rfl ?_
                  exact J54 _ _ l45 l46 l47 l48 l49 l50 l51 l52 l53 (ed_some h)
            obtain ⟨r42, hr42, hq42⟩ := h
            obtain ⟨n42, hn42⟩ := lp_n hr42
            have I42 : ∀ (n : Nat) (x86 : Int32) (x87 : Int32) (L' : List (Nat × Value)), im_lk L' 0 = some (.ref 89) → im_lk L' 1 = some (.int p0) → im_lk L' 2 = some (.int p1) → im_lk L' 3 = some (.int p2) → im_lk L' 4 = some (.int p3) → im_lk L' 5 = some (.int p4) → im_lk L' 6 = some (.int x86) → im_lk L' 7 = some (.int x87) → im_lk L' 8 = some (.int x31) → lpn (uc2 (f_MDotRows_bars_L75 p0 p1 p2 p3 p4 x31 M32)) n (x86, x87) = some r42 → ia (tb_G L xs) (dep + 4) J_MDotRows_bars (rwI w Q) (75, L', [], M32) := by
              intro n
              induction n with
              | zero => intro x86 x87 L' l88 l89 l90 l91 l92 l93 l94 l95 l96 hn; exact (lpn_0 hn).elim
              | succ n ih =>
                intro x86 x87 L' l88 l89 l90 l91 l92 l93 l94 l95 l96 hn
                have h := lpn_ed2 hn
                unfold f_MDotRows_bars_L75 at h
                refine iq_iload hS 77 J_MDotRows_bars_d75 l95 rfl ?_
                refine iq_if_ne hS 80 J_MDotRows_bars_d77 (t := 120) rfl (fun q77 => ?_) rfl (fun q77 => ?_)
                · replace h := ed_pos q77 h
                  exact K42 _ _ _ l88 l89 l90 l91 l92 l93 l94 l95 l96 (lq_r h hq42)
                · replace h := ed_neg q77 h
                  refine iq_iload hS 82 J_MDotRows_bars_d80 l94 rfl ?_
                  refine iq_aload_n hS 83 J_MDotRows_bars_d82 l88 rfl ?_
                  refine iq_getI hS 86 J_MDotRows_bars_d83 lf_12_47 (Or.inl rfl) (ka_89 hM32) rfl ?_
                  refine iq_icmp_ge hS 89 J_MDotRows_bars_d86 (t := 120) rfl (fun q86 => ?_) rfl (fun q86 => ?_)
                  · replace h := ed_pos q86 h
                    exact K42 _ _ _ l88 l89 l90 l91 l92 l93 l94 l95 l96 (lq_r h hq42)
                  · replace h := ed_neg q86 h
                    refine iq_iincv hS 92 J_MDotRows_bars_d89 (c := 1) (by decide +kernel) l94 (by decide) rfl ?_
                    refine iq_iload hS 94 J_MDotRows_bars_d92 lk_1s rfl ?_
                    refine iq_aload_n hS 95 J_MDotRows_bars_d94 (lk_1r l88 (by decide)) rfl ?_
                    refine iq_getI hS 98 J_MDotRows_bars_d95 lf_12_47 (Or.inl rfl) (ka_89 hM32) rfl ?_
                    obtain ⟨Q97, hQ97, h⟩ := bd1_ed h
                    have J97 : ∀ (y98 : Int32) (L' : List (Nat × Value)), im_lk L' 0 = some (.ref 89) → im_lk L' 1 = some (.int p0) → im_lk L' 2 = some (.int p1) → im_lk L' 3 = some (.int p2) → im_lk L' 4 = some (.int p3) → im_lk L' 5 = some (.int p4) → im_lk L' 6 = some (.int (x86 + 1)) → im_lk L' 8 = some (.int x31) → Q97 y98 → ia (tb_G L xs) (dep + 4) J_MDotRows_bars (rwI w Q) (115, L', [.int y98], M32) := by
                      intro y98 L' l99 l100 l101 l102 l103 l104 l105 l106 h
                      replace h := hQ97 _ h
                      refine iq_istore hS 117 J_MDotRows_bars_d115 (by decide) rfl ?_
                      refine iq_goto hS J_MDotRows_bars_d117 (t := 75) rfl ?_
                      exact ih _ _ _ (lk_1r l99 (by decide)) (lk_1i l100 (by decide)) (lk_1i l101 (by decide)) (lk_1i l102 (by decide)) (lk_1i l103 (by decide)) (lk_1i l104 (by decide)) (lk_1i l105 (by decide)) lk_1s (lk_1i l106 (by decide)) (lq_l h)
                    refine iq_icmp_ge hS 101 J_MDotRows_bars_d98 (t := 114) rfl (fun q98 => ?_) rfl (fun q98 => ?_)
                    · replace h := ed_pos q98 h
                      refine iq_iconst hS 115 J_MDotRows_bars_d114 (v := 0) (by decide +kernel) rfl ?_
                      exact J97 _ _ (lk_1r l88 (by decide)) (lk_1i l89 (by decide)) (lk_1i l90 (by decide)) (lk_1i l91 (by decide)) (lk_1i l92 (by decide)) (lk_1i l93 (by decide)) lk_1s (lk_1i l96 (by decide)) (ed_some h)
                    · replace h := ed_neg q98 h
                      refine iq_iload hS 103 J_MDotRows_bars_d101 (lk_1i l92 (by decide)) rfl ?_
                      refine iq_aload_n hS 104 J_MDotRows_bars_d103 (lk_1r l88 (by decide)) rfl ?_
                      refine iq_getR hS 107 J_MDotRows_bars_d104 lf_12_24 (Or.inr ⟨_, rfl⟩) (ka_89 hM32) (ra_89_6 hM32) rfl ?_
                      refine iq_iload hS 109 J_MDotRows_bars_d107 lk_1s rfl ?_
                      obtain ⟨g109, h⟩ := ed_gd h
                      refine iq_iaload hS 110 J_MDotRows_bars_d109 ⟨(ka_92 hM32).1, (ka_92 hM32).2, g109.1, ix_lt (kl_92 hM32) g109.2⟩ rfl ?_
                      refine iq_imul hS 111 J_MDotRows_bars_d110 rfl ?_
                      refine iq_goto hS J_MDotRows_bars_d111 (t := 115) rfl ?_
                      exact J97 _ _ (lk_1r l88 (by decide)) (lk_1i l89 (by decide)) (lk_1i l90 (by decide)) (lk_1i l91 (by decide)) (lk_1i l92 (by decide)) (lk_1i l93 (by decide)) lk_1s (lk_1i l96 (by decide)) (ed_some h)
            exact I42 n42 _ _ _ l33 l34 l35 l36 l37 l38 l39 l40 l41 hn42
      exact I20 n20 _ _ _ _ _ (lw_sI hM) (lk_1r (lk_1r (lk_1r l14 (by decide)) (by decide)) (by decide)) (lk_1i (lk_1i (lk_1i l15 (by decide)) (by decide)) (by decide)) (lk_1i (lk_1i (lk_1i l16 (by decide)) (by decide)) (by decide)) (lk_1i (lk_1i (lk_1i l17 (by decide)) (by decide)) (by decide)) (lk_1i (lk_1i (lk_1i l18 (by decide)) (by decide)) (by decide)) (lk_1i (lk_1i (lk_1i l19 (by decide)) (by decide)) (by decide)) (lk_1i (lk_1i lk_1s (by decide)) (by decide)) (lk_1i lk_1s (by decide)) lk_1s hn20
    · replace h := ed_neg q53 h
      refine iq_iconst hS 57 J_MDotRows_bars_d56 (v := 0) (by decide +kernel) rfl ?_
      exact iq_iret J_MDotRows_bars_d57 rfl rfl ⟨_, rfl, (lw_sI hM), ed_some h⟩
  obtain ⟨k3, Q3, hQ3, hk3, h⟩ := jn0_ed h
  have J3 : ∀  (L' : List (Nat × Value)), im_lk L' 0 = some (.ref 89) → im_lk L' 1 = some (.int p0) → im_lk L' 2 = some (.int p1) → im_lk L' 3 = some (.int p2) → im_lk L' 4 = some (.int p3) → im_lk L' 5 = some (.int p4) → Q3 () → ia (tb_G L xs) (dep + 4) J_MDotRows_bars (rwI w Q) (41, L', [.ref 89], M) := by
    intro  L' l7 l8 l9 l10 l11 l12 h
    replace h := hQ3  h
    refine iq_iconst hS 42 J_MDotRows_bars_d41 (v := 1) (by decide +kernel) rfl ?_
    refine iq_goto hS J_MDotRows_bars_d42 (t := 46) rfl ?_
    exact J2 _ _ l7 l8 l9 l10 l11 l12 (ed_some h)
  refine iq_if_ne hS 9 J_MDotRows_bars_d6 (t := 41) rfl (fun q6 => ?_) rfl (fun q6 => ?_)
  · replace h := ed_pos q6 h
    exact J3  _ l0 l1 l2 l3 l4 l5 (hk3  h)
  · replace h := ed_neg q6 h
    refine iq_iload_n hS 10 J_MDotRows_bars_d9 l3 rfl ?_
    refine iq_iconst hS 11 J_MDotRows_bars_d10 (v := 1) (by decide +kernel) rfl ?_
    refine iq_sipush hS 14 J_MDotRows_bars_d11 (v := 2048) (by decide +kernel) rfl ?_
    obtain ⟨Q4, hQ4, h⟩ := bd1_ed h
    refine iq_cpI hS 17 J_MDotRows_bars_d14 rfl (pr_stat (vs := [_, _, _]) lc_12_121 lT_273 rfl rfl (by decide) rfl (Nat.le_of_ble_eq_true rfl) (Nat.le_of_ble_eq_true rfl)) (f_MDotRows_isNot_ok (dep := dep + 3) hM h) rfl ?_
    intro x4 h
    replace h := hQ4 _ h
    refine iq_if_ne hS 20 J_MDotRows_bars_d17 (t := 41) rfl (fun q17 => ?_) rfl (fun q17 => ?_)
    · replace h := ed_pos q17 h
      exact J3  _ l0 l1 l2 l3 l4 l5 (hk3  h)
    · replace h := ed_neg q17 h
      refine iq_iload hS 22 J_MDotRows_bars_d20 l4 rfl ?_
      refine iq_iconst hS 23 J_MDotRows_bars_d22 (v := 1) (by decide +kernel) rfl ?_
      refine iq_bipush hS 25 J_MDotRows_bars_d23 (v := 50) (by decide +kernel) rfl ?_
      obtain ⟨Q5, hQ5, h⟩ := bd1_ed h
      refine iq_cpI hS 28 J_MDotRows_bars_d25 rfl (pr_stat (vs := [_, _, _]) lc_12_121 lT_273 rfl rfl (by decide) rfl (Nat.le_of_ble_eq_true rfl) (Nat.le_of_ble_eq_true rfl)) (f_MDotRows_isNot_ok (dep := dep + 3) hM h) rfl ?_
      intro x5 h
      replace h := hQ5 _ h
      refine iq_if_ne hS 31 J_MDotRows_bars_d28 (t := 41) rfl (fun q28 => ?_) rfl (fun q28 => ?_)
      · replace h := ed_pos q28 h
        exact J3  _ l0 l1 l2 l3 l4 l5 (hk3  h)
      · replace h := ed_neg q28 h
        refine iq_iload hS 33 J_MDotRows_bars_d31 l5 rfl ?_
        refine iq_iconst hS 34 J_MDotRows_bars_d33 (v := 0) (by decide +kernel) rfl ?_
        refine iq_iconst hS 35 J_MDotRows_bars_d34 (v := 3) (by decide +kernel) rfl ?_
        obtain ⟨Q6, hQ6, h⟩ := bd1_ed h
        refine iq_cpI hS 38 J_MDotRows_bars_d35 rfl (pr_stat (vs := [_, _, _]) lc_12_121 lT_273 rfl rfl (by decide) rfl (Nat.le_of_ble_eq_true rfl) (Nat.le_of_ble_eq_true rfl)) (f_MDotRows_isNot_ok (dep := dep + 3) hM h) rfl ?_
        intro x6 h
        replace h := hQ6 _ h
        refine iq_if_eq hS 41 J_MDotRows_bars_d38 (t := 45) rfl (fun q38 => ?_) rfl (fun q38 => ?_)
        · replace h := ed_pos q38 h
          refine iq_iconst hS 46 J_MDotRows_bars_d45 (v := 0) (by decide +kernel) rfl ?_
          exact J2 _ _ l0 l1 l2 l3 l4 l5 (ed_some h)
        · replace h := ed_neg q38 h
          exact J3  _ l0 l1 l2 l3 l4 l5 (hk3  h)
theorem f_MDotRows_bars_fr {p0 : Int32} {p1 : Int32} {p2 : Int32} {p3 : Int32} {p4 : Int32} {M : im_M} {r : Int32 × im_M} (h : f_MDotRows_bars p0 p1 p2 p3 p4 M = some r) : fr 40852021296417549071671099392 [(89, 0), (89, 10), (89, 11), (89, 12), (89, 13), (89, 14), (89, 15)] M r.2 := by
  replace h : ed (f_MDotRows_bars p0 p1 p2 p3 p4 M) (fun x => x = r) := ⟨r, h, rfl⟩
  unfold f_MDotRows_bars at h
  obtain ⟨Q1, hQ1, h⟩ := bd1_ed h
  obtain ⟨x1, e1, h⟩ := h
  replace h := hQ1 _ h
  obtain ⟨Q2, hQ2, h⟩ := bd1_ed h
  have J2 : ∀ (y13 : Int32), Q2 y13 → fr 40852021296417549071671099392 [(89, 0), (89, 10), (89, 11), (89, 12), (89, 13), (89, 14), (89, 15)] M r.2 := by
    intro y13 h
    replace h := hQ2 _ h
    by_cases q53 : (im_i (im_setI M 89 0 y13) 89 0) ≤ 0
    · replace h := ed_pos q53 h
      obtain ⟨Q20, hQ20, h⟩ := bd1_ed h
      have K20 : ∀ (M21 : im_M), fr 40852021296417549071671099392 [(89, 0), (89, 10), (89, 11), (89, 12), (89, 13), (89, 14), (89, 15)] M M21 → Q20 M21 → fr 40852021296417549071671099392 [(89, 0), (89, 10), (89, 11), (89, 12), (89, 13), (89, 14), (89, 15)] M r.2 := by
        intro M21 hM21 h
        replace h := hQ20 _ h
        obtain ⟨Q22, hQ22, h⟩ := bd1_ed h
        obtain ⟨M22, e22, h⟩ := h
        replace h := hQ22 _ h
        obtain ⟨Q23, hQ23, h⟩ := bd2_ed h
        obtain ⟨⟨x23, M23⟩, e23, h⟩ := h
        replace h := hQ23 _ _ h
        exact fr_ret h (fr_tr (fr_mono (by decide) (by decide +kernel) (f_MDotRows_draw_fr e23)) (fr_F (by decide) (fr_tr (fr_mono (by decide) (by decide +kernel) (f_MDotRows_at_fr e22)) hM21)))
      obtain ⟨r20, hr20, hq20⟩ := h
      obtain ⟨n20, hn20⟩ := lp_n hr20
      have I20 : ∀ (n : Nat) (x24 : Int32) (x25 : Int32) (x26 : Int32) (M27 : im_M), fr 40852021296417549071671099392 [(89, 0), (89, 10), (89, 11), (89, 12), (89, 13), (89, 14), (89, 15)] M M27 → lpn (uc4 (f_MDotRows_bars_L67 p0 p1 p2 p3 p4)) n (x24, x25, x26, M27) = some r20 → fr 40852021296417549071671099392 [(89, 0), (89, 10), (89, 11), (89, 12), (89, 13), (89, 14), (89, 15)] M r.2 := by
        intro n
        induction n with
        | zero => intro x24 x25 x26 M27 hM27 hn; exact (lpn_0 hn).elim
        | succ n ih =>
          intro x24 x25 x26 M27 hM27 hn
          have h := lpn_ed4 hn
          unfold f_MDotRows_bars_L67 at h
          by_cases q72 : 5200 ≤ x26
          · replace h := ed_pos q72 h
            exact K20 _ hM27 (lq_r h hq20)
          · replace h := ed_neg q72 h
            obtain ⟨Q28, hQ28, h⟩ := bd2_ed h
            have K28 : ∀ (y29 : Int32) (y30 : Int32), Q28 (y29, y30) → fr 40852021296417549071671099392 [(89, 0), (89, 10), (89, 11), (89, 12), (89, 13), (89, 14), (89, 15)] M r.2 := by
              intro y29 y30 h
              replace h := hQ28 _ _ h
              obtain ⟨Q31, hQ31, h⟩ := bd1_ed h
              have J31 : ∀ (y42 : Int32), Q31 y42 → fr 40852021296417549071671099392 [(89, 0), (89, 10), (89, 11), (89, 12), (89, 13), (89, 14), (89, 15)] M r.2 := by
                intro y42 h
                replace h := hQ31 _ h
                obtain ⟨g147, h⟩ := ed_gd h
                exact ih _ _ _ _ (fr_I (by decide) hM27) (lq_l h)
              obtain ⟨k32, Q32, hQ32, hk32, h⟩ := jn0_ed h
              have J32 : Q32 () → fr 40852021296417549071671099392 [(89, 0), (89, 10), (89, 11), (89, 12), (89, 13), (89, 14), (89, 15)] M r.2 := by
                intro  h
                replace h := hQ32  h
                exact J31 _ (ed_some h)
              by_cases q132 : (im_i M27 89 7) ≤ y29
              · replace h := ed_pos q132 h
                exact J32  (hk32  h)
              · replace h := ed_neg q132 h
                by_cases q139 : ¬ (y29 - y29 / 2 * 2) = 0
                · replace h := ed_pos q139 h
                  exact J32  (hk32  h)
                · replace h := ed_neg q139 h
                  exact J31 _ (ed_some h)
            obtain ⟨r28, hr28, hq28⟩ := h
            obtain ⟨n28, hn28⟩ := lp_n hr28
            have I28 : ∀ (n : Nat) (x53 : Int32) (x54 : Int32), lpn (uc2 (f_MDotRows_bars_L75 p0 p1 p2 p3 p4 x26 M27)) n (x53, x54) = some r28 → fr 40852021296417549071671099392 [(89, 0), (89, 10), (89, 11), (89, 12), (89, 13), (89, 14), (89, 15)] M r.2 := by
              intro n
              induction n with
              | zero => intro x53 x54 hn; exact (lpn_0 hn).elim
              | succ n ih =>
                intro x53 x54 hn
                have h := lpn_ed2 hn
                unfold f_MDotRows_bars_L75 at h
                by_cases q77 : ¬ x54 = 0
                · replace h := ed_pos q77 h
                  exact K28 _ _ (lq_r h hq28)
                · replace h := ed_neg q77 h
                  by_cases q86 : (im_i M27 89 7) ≤ x53
                  · replace h := ed_pos q86 h
                    exact K28 _ _ (lq_r h hq28)
                  · replace h := ed_neg q86 h
                    obtain ⟨Q55, hQ55, h⟩ := bd1_ed h
                    have J55 : ∀ (y56 : Int32), Q55 y56 → fr 40852021296417549071671099392 [(89, 0), (89, 10), (89, 11), (89, 12), (89, 13), (89, 14), (89, 15)] M r.2 := by
                      intro y56 h
                      replace h := hQ55 _ h
                      exact ih _ _ (lq_l h)
                    by_cases q98 : (im_i M27 89 7) ≤ (x53 + 1)
                    · replace h := ed_pos q98 h
                      exact J55 _ (ed_some h)
                    · replace h := ed_neg q98 h
                      obtain ⟨g109, h⟩ := ed_gd h
                      exact J55 _ (ed_some h)
            exact I28 n28 _ _ hn28
      exact I20 n20 _ _ _ _ (fr_F (by decide) fr_refl) hn20
    · replace h := ed_neg q53 h
      exact fr_ret h (fr_F (by decide) fr_refl)
  obtain ⟨k3, Q3, hQ3, hk3, h⟩ := jn0_ed h
  have J3 : Q3 () → fr 40852021296417549071671099392 [(89, 0), (89, 10), (89, 11), (89, 12), (89, 13), (89, 14), (89, 15)] M r.2 := by
    intro  h
    replace h := hQ3  h
    exact J2 _ (ed_some h)
  by_cases q6 : ¬ x1 = 0
  · replace h := ed_pos q6 h
    exact J3  (hk3  h)
  · replace h := ed_neg q6 h
    obtain ⟨Q4, hQ4, h⟩ := bd1_ed h
    obtain ⟨x4, e4, h⟩ := h
    replace h := hQ4 _ h
    by_cases q17 : ¬ x4 = 0
    · replace h := ed_pos q17 h
      exact J3  (hk3  h)
    · replace h := ed_neg q17 h
      obtain ⟨Q5, hQ5, h⟩ := bd1_ed h
      obtain ⟨x5, e5, h⟩ := h
      replace h := hQ5 _ h
      by_cases q28 : ¬ x5 = 0
      · replace h := ed_pos q28 h
        exact J3  (hk3  h)
      · replace h := ed_neg q28 h
        obtain ⟨Q6, hQ6, h⟩ := bd1_ed h
        obtain ⟨x6, e6, h⟩ := h
        replace h := hQ6 _ h
        by_cases q38 : x6 = 0
        · replace h := ed_pos q38 h
          exact J2 _ (ed_some h)
        · replace h := ed_neg q38 h
          exact J3  (hk3  h)
noncomputable def f_MLineRows_noTwelve (p0 : Int64) (M : im_M) : Option (Int32) := jn0 (fun (_ : Unit) => some 1) fun k1 => if (lg_cmp p0 0) < 0 then k1 () else if (lg_cmp p0 999999999999) ≤ 0 then some 0 else k1 ()
theorem J_MLineRows_noTwelve_d0 : decode J_MLineRows_noTwelve.2.1 0 = .ok (.lload_n 0, 1) := by decide +kernel
theorem J_MLineRows_noTwelve_d1 : decode J_MLineRows_noTwelve.2.1 1 = .ok (.lconst 0, 1) := by decide +kernel
theorem J_MLineRows_noTwelve_d2 : decode J_MLineRows_noTwelve.2.1 2 = .ok (.lcmp, 1) := by decide +kernel
theorem J_MLineRows_noTwelve_d3 : decode J_MLineRows_noTwelve.2.1 3 = .ok (.ifCond .lt 11, 3) := by decide +kernel
theorem J_MLineRows_noTwelve_d6 : decode J_MLineRows_noTwelve.2.1 6 = .ok (.lload_n 0, 1) := by decide +kernel
theorem J_MLineRows_noTwelve_d7 : decode J_MLineRows_noTwelve.2.1 7 = .ok (.ldc2_w 214, 3) := by decide +kernel
theorem J_MLineRows_noTwelve_d10 : decode J_MLineRows_noTwelve.2.1 10 = .ok (.lcmp, 1) := by decide +kernel
theorem J_MLineRows_noTwelve_d11 : decode J_MLineRows_noTwelve.2.1 11 = .ok (.ifCond .le 7, 3) := by decide +kernel
theorem J_MLineRows_noTwelve_d14 : decode J_MLineRows_noTwelve.2.1 14 = .ok (.iconst 1, 1) := by decide +kernel
theorem J_MLineRows_noTwelve_d15 : decode J_MLineRows_noTwelve.2.1 15 = .ok (.goto 4, 3) := by decide +kernel
theorem J_MLineRows_noTwelve_d18 : decode J_MLineRows_noTwelve.2.1 18 = .ok (.iconst 0, 1) := by decide +kernel
theorem J_MLineRows_noTwelve_d19 : decode J_MLineRows_noTwelve.2.1 19 = .ok (.ireturn, 1) := by decide +kernel
theorem f_MLineRows_noTwelve_ok {L : Nat} {xs : Nat → Int32} {dep : Nat} {w : Bool} {p0 : Int64} {M : im_M} {Q : Int32 → Prop} (hM : lw_S w M) (h : ed (f_MLineRows_noTwelve p0 M) Q) : ia (tb_G L xs) dep J_MLineRows_noTwelve (rpI M Q) (0, lv_args 0 [.long p0], [], M) := by
  have hS : im_St (tb_G L xs) dep J_MLineRows_noTwelve (ia (tb_G L xs) dep J_MLineRows_noTwelve (rpI M Q)) := ia_St
  unfold f_MLineRows_noTwelve at h
  have l0 : im_lk (lv_args 0 [.long p0]) 0 = some (.long p0) := rfl
  refine iq_lload_n hS 1 J_MLineRows_noTwelve_d0 l0 rfl ?_
  refine iq_lconst hS 2 J_MLineRows_noTwelve_d1 (v := 0) (by decide +kernel) rfl ?_
  refine iq_lcmp hS 3 J_MLineRows_noTwelve_d2 rfl ?_
  obtain ⟨k1, Q1, hQ1, hk1, h⟩ := jn0_ed h
  have J1 : ∀  (L' : List (Nat × Value)), Q1 () → ia (tb_G L xs) dep J_MLineRows_noTwelve (rpI M Q) (14, L', [], M) := by
    intro  L'  h
    replace h := hQ1  h
    refine iq_iconst hS 15 J_MLineRows_noTwelve_d14 (v := 1) (by decide +kernel) rfl ?_
    refine iq_goto hS J_MLineRows_noTwelve_d15 (t := 19) rfl ?_
    exact iq_iret J_MLineRows_noTwelve_d19 rfl rfl ⟨_, rfl, rfl, ed_some h⟩
  refine iq_if_lt hS 6 J_MLineRows_noTwelve_d3 (t := 14) rfl (fun q3 => ?_) rfl (fun q3 => ?_)
  · replace h := ed_pos q3 h
    exact J1  _  (hk1  h)
  · replace h := ed_neg q3 h
    refine iq_lload_n hS 7 J_MLineRows_noTwelve_d6 l0 rfl ?_
    refine iq_ldc2_w hS 10 J_MLineRows_noTwelve_d7 lk_13_214 rfl ?_
    refine iq_lcmp hS 11 J_MLineRows_noTwelve_d10 rfl ?_
    refine iq_if_le hS 14 J_MLineRows_noTwelve_d11 (t := 18) rfl (fun q11 => ?_) rfl (fun q11 => ?_)
    · replace h := ed_pos q11 h
      refine iq_iconst hS 19 J_MLineRows_noTwelve_d18 (v := 0) (by decide +kernel) rfl ?_
      exact iq_iret J_MLineRows_noTwelve_d19 rfl rfl ⟨_, rfl, rfl, ed_some h⟩
    · replace h := ed_neg q11 h
      exact J1  _  (hk1  h)
noncomputable def f_MLineRows_figure_L6 (v2 : Int32) (M5 : im_M) (x3 : Int64) (x4 : Int32) : Option ((Int64 × Int32) ⊕ (Int64)) := if x4 ≤ v2 then some (.inr x3) else some (.inl ((x3 / 10), (x4 + (-1))))
noncomputable def f_MLineRows_figure (p0 : Int64) (p1 : Int32) (M : im_M) : Option (Int32) := bd1 (lp (uc2 (f_MLineRows_figure_L6 p1 M)) (p0, 12)) fun (y6 : Int64) => some (Int64.toInt32 (y6 - y6 / 10 * 10))
theorem J_MLineRows_figure_d0 : decode J_MLineRows_figure.2.1 0 = .ok (.lload_n 0, 1) := by decide +kernel
theorem J_MLineRows_figure_d1 : decode J_MLineRows_figure.2.1 1 = .ok (.lstore_n 3, 1) := by decide +kernel
theorem J_MLineRows_figure_d2 : decode J_MLineRows_figure.2.1 2 = .ok (.bipush 12, 2) := by decide +kernel
theorem J_MLineRows_figure_d4 : decode J_MLineRows_figure.2.1 4 = .ok (.istore 5, 2) := by decide +kernel
theorem J_MLineRows_figure_d6 : decode J_MLineRows_figure.2.1 6 = .ok (.iload 5, 2) := by decide +kernel
theorem J_MLineRows_figure_d8 : decode J_MLineRows_figure.2.1 8 = .ok (.iload_n 2, 1) := by decide +kernel
theorem J_MLineRows_figure_d9 : decode J_MLineRows_figure.2.1 9 = .ok (.if_icmp .le 15, 3) := by decide +kernel
theorem J_MLineRows_figure_d12 : decode J_MLineRows_figure.2.1 12 = .ok (.lload_n 3, 1) := by decide +kernel
theorem J_MLineRows_figure_d13 : decode J_MLineRows_figure.2.1 13 = .ok (.ldc2_w 216, 3) := by decide +kernel
theorem J_MLineRows_figure_d16 : decode J_MLineRows_figure.2.1 16 = .ok (.ldiv, 1) := by decide +kernel
theorem J_MLineRows_figure_d17 : decode J_MLineRows_figure.2.1 17 = .ok (.lstore_n 3, 1) := by decide +kernel
theorem J_MLineRows_figure_d18 : decode J_MLineRows_figure.2.1 18 = .ok (.iinc 5 (-1), 3) := by decide +kernel
theorem J_MLineRows_figure_d21 : decode J_MLineRows_figure.2.1 21 = .ok (.goto (-15), 3) := by decide +kernel
theorem J_MLineRows_figure_d24 : decode J_MLineRows_figure.2.1 24 = .ok (.lload_n 3, 1) := by decide +kernel
theorem J_MLineRows_figure_d25 : decode J_MLineRows_figure.2.1 25 = .ok (.ldc2_w 216, 3) := by decide +kernel
theorem J_MLineRows_figure_d28 : decode J_MLineRows_figure.2.1 28 = .ok (.lrem, 1) := by decide +kernel
theorem J_MLineRows_figure_d29 : decode J_MLineRows_figure.2.1 29 = .ok (.l2i, 1) := by decide +kernel
theorem J_MLineRows_figure_d30 : decode J_MLineRows_figure.2.1 30 = .ok (.ireturn, 1) := by decide +kernel
theorem f_MLineRows_figure_ok {L : Nat} {xs : Nat → Int32} {dep : Nat} {w : Bool} {p0 : Int64} {p1 : Int32} {M : im_M} {Q : Int32 → Prop} (hM : lw_S w M) (h : ed (f_MLineRows_figure p0 p1 M) Q) : ia (tb_G L xs) dep J_MLineRows_figure (rpI M Q) (0, lv_args 0 [.long p0, .int p1], [], M) := by
  have hS : im_St (tb_G L xs) dep J_MLineRows_figure (ia (tb_G L xs) dep J_MLineRows_figure (rpI M Q)) := ia_St
  unfold f_MLineRows_figure at h
  have l0 : im_lk (lv_args 0 [.long p0, .int p1]) 0 = some (.long p0) := rfl
  have l2 : im_lk (lv_args 0 [.long p0, .int p1]) 2 = some (.int p1) := rfl
  refine iq_lload_n hS 1 J_MLineRows_figure_d0 l0 rfl ?_
  refine iq_lstore_n hS 2 J_MLineRows_figure_d1 (by decide) rfl ?_
  refine iq_bipush hS 4 J_MLineRows_figure_d2 (v := 12) (by decide +kernel) rfl ?_
  refine iq_istore hS 6 J_MLineRows_figure_d4 (by decide) rfl ?_
  obtain ⟨Q1, hQ1, h⟩ := bd1_ed h
  have K1 : ∀ (y2 : Int64) (L' : List (Nat × Value)), im_lk L' 3 = some (.long y2) → Q1 y2 → ia (tb_G L xs) dep J_MLineRows_figure (rpI M Q) (24, L', [], M) := by
    intro y2 L' l3 h
    replace h := hQ1 _ h
    refine iq_lload_n hS 25 J_MLineRows_figure_d24 l3 rfl ?_
    refine iq_ldc2_w hS 28 J_MLineRows_figure_d25 lk_13_216 rfl ?_
    refine iq_lrem hS 29 J_MLineRows_figure_d28 (by decide) rfl ?_
    refine iq_l2i hS 30 J_MLineRows_figure_d29 rfl ?_
    exact iq_iret J_MLineRows_figure_d30 rfl rfl ⟨_, rfl, rfl, ed_some h⟩
  obtain ⟨r1, hr1, hq1⟩ := h
  obtain ⟨n1, hn1⟩ := lp_n hr1
  have I1 : ∀ (n : Nat) (x4 : Int64) (x5 : Int32) (L' : List (Nat × Value)), im_lk L' 2 = some (.int p1) → im_lk L' 3 = some (.long x4) → im_lk L' 5 = some (.int x5) → lpn (uc2 (f_MLineRows_figure_L6 p1 M)) n (x4, x5) = some r1 → ia (tb_G L xs) dep J_MLineRows_figure (rpI M Q) (6, L', [], M) := by
    intro n
    induction n with
    | zero => intro x4 x5 L' l6 l7 l8 hn; exact (lpn_0 hn).elim
    | succ n ih =>
      intro x4 x5 L' l6 l7 l8 hn
      have h := lpn_ed2 hn
      unfold f_MLineRows_figure_L6 at h
      refine iq_iload hS 8 J_MLineRows_figure_d6 l8 rfl ?_
      refine iq_iload_n hS 9 J_MLineRows_figure_d8 l6 rfl ?_
      refine iq_icmp_le hS 12 J_MLineRows_figure_d9 (t := 24) rfl (fun q9 => ?_) rfl (fun q9 => ?_)
      · replace h := ed_pos q9 h
        exact K1 _ _ l7 (lq_r h hq1)
      · replace h := ed_neg q9 h
        refine iq_lload_n hS 13 J_MLineRows_figure_d12 l7 rfl ?_
        refine iq_ldc2_w hS 16 J_MLineRows_figure_d13 lk_13_216 rfl ?_
        refine iq_ldiv hS 17 J_MLineRows_figure_d16 (by decide) rfl ?_
        refine iq_lstore_n hS 18 J_MLineRows_figure_d17 (by decide) rfl ?_
        refine iq_iincv hS 21 J_MLineRows_figure_d18 (c := (-1)) (by decide +kernel) (lk_2i l8 (by decide) (by decide)) (by decide) rfl ?_
        refine iq_goto hS J_MLineRows_figure_d21 (t := 6) rfl ?_
        exact ih _ _ _ (lk_1i (lk_2i l6 (by decide) (by decide)) (by decide)) (lk_1l lk_2s (by decide) (by decide)) lk_1s (lq_l h)
  exact I1 n1 _ _ _ (lk_1i (lk_2i l2 (by decide) (by decide)) (by decide)) (lk_1l lk_2s (by decide) (by decide)) lk_1s hn1
noncomputable def f_MLineRows_checkFigure_L30 (v4 : Int64) (M7 : im_M) (x5 : Int32) (x6 : Int32) : Option ((Int32 × Int32) ⊕ (Int32)) := if 12 < x6 then some (.inr x5) else bd1 (f_MLineRows_figure v4 x6 M7) fun (x9 : Int32) => some (.inl ((x5 + (((if ¬ (x6 - x6 / 2 * 2) = 1 then 3 else 1) : Int32) * x9)), (x6 + 1)))
noncomputable def f_MLineRows_checkFigure_L69 (v12 : Int32) (M14 : im_M) (x13 : Int32) : Option ((Int32) ⊕ (Int32)) := if ((v12 + x13) - (v12 + x13) / 10 * 10) = 0 then some (.inr x13) else some (.inl (x13 + 1))
noncomputable def f_MLineRows_checkFigure (p0 : Int64) (M : im_M) : Option (Int32 × im_M) := bd1 (f_MLineRows_noTwelve p0 M) fun (x1 : Int32) => if (im_i (im_setI M 96 3 ((if x1 = 0 then 0 else 1) : Int32)) 96 3) ≤ 0 then bd1 (lp (uc2 (f_MLineRows_checkFigure_L30 p0 (im_setI M 96 3 ((if x1 = 0 then 0 else 1) : Int32)))) (0, 1)) fun (y10 : Int32) => bd1 (lp (uc1 (f_MLineRows_checkFigure_L69 y10 (im_setI M 96 3 ((if x1 = 0 then 0 else 1) : Int32)))) 0) fun (y15 : Int32) => some (y15, (im_setI M 96 3 ((if x1 = 0 then 0 else 1) : Int32))) else some (0, (im_setI M 96 3 ((if x1 = 0 then 0 else 1) : Int32)))
theorem J_MLineRows_checkFigure_d0 : decode J_MLineRows_checkFigure.2.1 0 = .ok (.aload_n 0, 1) := by decide +kernel
theorem J_MLineRows_checkFigure_d1 : decode J_MLineRows_checkFigure.2.1 1 = .ok (.lload_n 1, 1) := by decide +kernel
theorem J_MLineRows_checkFigure_d2 : decode J_MLineRows_checkFigure.2.1 2 = .ok (.invokestatic 218, 3) := by decide +kernel
theorem J_MLineRows_checkFigure_d5 : decode J_MLineRows_checkFigure.2.1 5 = .ok (.ifCond .eq 7, 3) := by decide +kernel
theorem J_MLineRows_checkFigure_d8 : decode J_MLineRows_checkFigure.2.1 8 = .ok (.iconst 1, 1) := by decide +kernel
theorem J_MLineRows_checkFigure_d9 : decode J_MLineRows_checkFigure.2.1 9 = .ok (.goto 4, 3) := by decide +kernel
theorem J_MLineRows_checkFigure_d12 : decode J_MLineRows_checkFigure.2.1 12 = .ok (.iconst 0, 1) := by decide +kernel
theorem J_MLineRows_checkFigure_d13 : decode J_MLineRows_checkFigure.2.1 13 = .ok (.putfield 149, 3) := by decide +kernel
theorem J_MLineRows_checkFigure_d16 : decode J_MLineRows_checkFigure.2.1 16 = .ok (.aload_n 0, 1) := by decide +kernel
theorem J_MLineRows_checkFigure_d17 : decode J_MLineRows_checkFigure.2.1 17 = .ok (.getfield 149, 3) := by decide +kernel
theorem J_MLineRows_checkFigure_d20 : decode J_MLineRows_checkFigure.2.1 20 = .ok (.ifCond .le 5, 3) := by decide +kernel
theorem J_MLineRows_checkFigure_d23 : decode J_MLineRows_checkFigure.2.1 23 = .ok (.iconst 0, 1) := by decide +kernel
theorem J_MLineRows_checkFigure_d24 : decode J_MLineRows_checkFigure.2.1 24 = .ok (.ireturn, 1) := by decide +kernel
theorem J_MLineRows_checkFigure_d25 : decode J_MLineRows_checkFigure.2.1 25 = .ok (.iconst 0, 1) := by decide +kernel
theorem J_MLineRows_checkFigure_d26 : decode J_MLineRows_checkFigure.2.1 26 = .ok (.istore_n 3, 1) := by decide +kernel
theorem J_MLineRows_checkFigure_d27 : decode J_MLineRows_checkFigure.2.1 27 = .ok (.iconst 1, 1) := by decide +kernel
theorem J_MLineRows_checkFigure_d28 : decode J_MLineRows_checkFigure.2.1 28 = .ok (.istore 4, 2) := by decide +kernel
theorem J_MLineRows_checkFigure_d30 : decode J_MLineRows_checkFigure.2.1 30 = .ok (.iload 4, 2) := by decide +kernel
theorem J_MLineRows_checkFigure_d32 : decode J_MLineRows_checkFigure.2.1 32 = .ok (.bipush 12, 2) := by decide +kernel
theorem J_MLineRows_checkFigure_d34 : decode J_MLineRows_checkFigure.2.1 34 = .ok (.if_icmp .gt 32, 3) := by decide +kernel
theorem J_MLineRows_checkFigure_d37 : decode J_MLineRows_checkFigure.2.1 37 = .ok (.iload_n 3, 1) := by decide +kernel
theorem J_MLineRows_checkFigure_d38 : decode J_MLineRows_checkFigure.2.1 38 = .ok (.iload 4, 2) := by decide +kernel
theorem J_MLineRows_checkFigure_d40 : decode J_MLineRows_checkFigure.2.1 40 = .ok (.iconst 2, 1) := by decide +kernel
theorem J_MLineRows_checkFigure_d41 : decode J_MLineRows_checkFigure.2.1 41 = .ok (.irem, 1) := by decide +kernel
theorem J_MLineRows_checkFigure_d42 : decode J_MLineRows_checkFigure.2.1 42 = .ok (.iconst 1, 1) := by decide +kernel
theorem J_MLineRows_checkFigure_d43 : decode J_MLineRows_checkFigure.2.1 43 = .ok (.if_icmp .ne 7, 3) := by decide +kernel
theorem J_MLineRows_checkFigure_d46 : decode J_MLineRows_checkFigure.2.1 46 = .ok (.iconst 1, 1) := by decide +kernel
theorem J_MLineRows_checkFigure_d47 : decode J_MLineRows_checkFigure.2.1 47 = .ok (.goto 4, 3) := by decide +kernel
theorem J_MLineRows_checkFigure_d50 : decode J_MLineRows_checkFigure.2.1 50 = .ok (.iconst 3, 1) := by decide +kernel
theorem J_MLineRows_checkFigure_d51 : decode J_MLineRows_checkFigure.2.1 51 = .ok (.lload_n 1, 1) := by decide +kernel
theorem J_MLineRows_checkFigure_d52 : decode J_MLineRows_checkFigure.2.1 52 = .ok (.iload 4, 2) := by decide +kernel
theorem J_MLineRows_checkFigure_d54 : decode J_MLineRows_checkFigure.2.1 54 = .ok (.invokestatic 222, 3) := by decide +kernel
theorem J_MLineRows_checkFigure_d57 : decode J_MLineRows_checkFigure.2.1 57 = .ok (.imul, 1) := by decide +kernel
theorem J_MLineRows_checkFigure_d58 : decode J_MLineRows_checkFigure.2.1 58 = .ok (.iadd, 1) := by decide +kernel
theorem J_MLineRows_checkFigure_d59 : decode J_MLineRows_checkFigure.2.1 59 = .ok (.istore_n 3, 1) := by decide +kernel
theorem J_MLineRows_checkFigure_d60 : decode J_MLineRows_checkFigure.2.1 60 = .ok (.iinc 4 1, 3) := by decide +kernel
theorem J_MLineRows_checkFigure_d63 : decode J_MLineRows_checkFigure.2.1 63 = .ok (.goto (-33), 3) := by decide +kernel
theorem J_MLineRows_checkFigure_d66 : decode J_MLineRows_checkFigure.2.1 66 = .ok (.iconst 0, 1) := by decide +kernel
theorem J_MLineRows_checkFigure_d67 : decode J_MLineRows_checkFigure.2.1 67 = .ok (.istore 4, 2) := by decide +kernel
theorem J_MLineRows_checkFigure_d69 : decode J_MLineRows_checkFigure.2.1 69 = .ok (.iload_n 3, 1) := by decide +kernel
theorem J_MLineRows_checkFigure_d70 : decode J_MLineRows_checkFigure.2.1 70 = .ok (.iload 4, 2) := by decide +kernel
theorem J_MLineRows_checkFigure_d72 : decode J_MLineRows_checkFigure.2.1 72 = .ok (.iadd, 1) := by decide +kernel
theorem J_MLineRows_checkFigure_d73 : decode J_MLineRows_checkFigure.2.1 73 = .ok (.bipush 10, 2) := by decide +kernel
theorem J_MLineRows_checkFigure_d75 : decode J_MLineRows_checkFigure.2.1 75 = .ok (.irem, 1) := by decide +kernel
theorem J_MLineRows_checkFigure_d76 : decode J_MLineRows_checkFigure.2.1 76 = .ok (.ifCond .eq 9, 3) := by decide +kernel
theorem J_MLineRows_checkFigure_d79 : decode J_MLineRows_checkFigure.2.1 79 = .ok (.iinc 4 1, 3) := by decide +kernel
theorem J_MLineRows_checkFigure_d82 : decode J_MLineRows_checkFigure.2.1 82 = .ok (.goto (-13), 3) := by decide +kernel
theorem J_MLineRows_checkFigure_d85 : decode J_MLineRows_checkFigure.2.1 85 = .ok (.iload 4, 2) := by decide +kernel
theorem J_MLineRows_checkFigure_d87 : decode J_MLineRows_checkFigure.2.1 87 = .ok (.ireturn, 1) := by decide +kernel
theorem f_MLineRows_checkFigure_ok {L : Nat} {xs : Nat → Int32} {dep : Nat} {w : Bool} {p0 : Int64} {M : im_M} {Q : Int32 × im_M → Prop} (hM : lw_S w M) (h : ed (f_MLineRows_checkFigure p0 M) Q) : ia (tb_G L xs) (dep + 1) J_MLineRows_checkFigure (rwI w Q) (0, lv_args 0 [.ref 96, .long p0], [], M) := by
  have hS : im_St (tb_G L xs) (dep + 1) J_MLineRows_checkFigure (ia (tb_G L xs) (dep + 1) J_MLineRows_checkFigure (rwI w Q)) := ia_St
  unfold f_MLineRows_checkFigure at h
  have l0 : im_lk (lv_args 0 [.ref 96, .long p0]) 0 = some (.ref 96) := rfl
  have l1 : im_lk (lv_args 0 [.ref 96, .long p0]) 1 = some (.long p0) := rfl
  refine iq_aload_n hS 1 J_MLineRows_checkFigure_d0 l0 rfl ?_
  refine iq_lload_n hS 2 J_MLineRows_checkFigure_d1 l1 rfl ?_
  obtain ⟨Q1, hQ1, h⟩ := bd1_ed h
  refine iq_cpI hS 5 J_MLineRows_checkFigure_d2 rfl (pr_stat (vs := [_]) lc_13_218 lT_380 rfl rfl (by decide) rfl (Nat.le_of_ble_eq_true rfl) (Nat.le_of_ble_eq_true rfl)) (f_MLineRows_noTwelve_ok (dep := dep + 0) hM h) rfl ?_
  intro x1 h
  replace h := hQ1 _ h
  have J2 : ∀ (z3 : Int32) (L' : List (Nat × Value)), z3 = ((if x1 = 0 then 0 else 1) : Int32) → im_lk L' 0 = some (.ref 96) → im_lk L' 1 = some (.long p0) → ia (tb_G L xs) (dep + 1) J_MLineRows_checkFigure (rwI w Q) (13, L', [.int z3, .ref 96], M) := by
    intro z3 L' e4 l5 l6
    subst e4
    refine iq_putI hS 16 J_MLineRows_checkFigure_d13 lf_13_149 (Or.inl rfl) rfl (ka_96 hM) rfl ?_
    refine iq_aload_n hS 17 J_MLineRows_checkFigure_d16 l5 rfl ?_
    refine iq_getI hS 20 J_MLineRows_checkFigure_d17 lf_13_149 (Or.inl rfl) (ka_96 (lw_sI hM)) rfl ?_
    refine iq_if_le hS 23 J_MLineRows_checkFigure_d20 (t := 25) rfl (fun q20 => ?_) rfl (fun q20 => ?_)
    · replace h := ed_pos q20 h
      refine iq_iconst hS 26 J_MLineRows_checkFigure_d25 (v := 0) (by decide +kernel) rfl ?_
      refine iq_istore_n hS 27 J_MLineRows_checkFigure_d26 (by decide) rfl ?_
      refine iq_iconst hS 28 J_MLineRows_checkFigure_d27 (v := 1) (by decide +kernel) rfl ?_
      refine iq_istore hS 30 J_MLineRows_checkFigure_d28 (by decide) rfl ?_
      obtain ⟨Q7, hQ7, h⟩ := bd1_ed h
      have K7 : ∀ (y8 : Int32) (L' : List (Nat × Value)), im_lk L' 3 = some (.int y8) → Q7 y8 → ia (tb_G L xs) (dep + 1) J_MLineRows_checkFigure (rwI w Q) (66, L', [], (im_setI M 96 3 ((if x1 = 0 then 0 else 1) : Int32))) := by
        intro y8 L' l9 h
        replace h := hQ7 _ h
        refine iq_iconst hS 67 J_MLineRows_checkFigure_d66 (v := 0) (by decide +kernel) rfl ?_
        refine iq_istore hS 69 J_MLineRows_checkFigure_d67 (by decide) rfl ?_
        obtain ⟨Q10, hQ10, h⟩ := bd1_ed h
        have K10 : ∀ (y11 : Int32) (L' : List (Nat × Value)), im_lk L' 4 = some (.int y11) → Q10 y11 → ia (tb_G L xs) (dep + 1) J_MLineRows_checkFigure (rwI w Q) (85, L', [], (im_setI M 96 3 ((if x1 = 0 then 0 else 1) : Int32))) := by
          intro y11 L' l12 h
          replace h := hQ10 _ h
          refine iq_iload hS 87 J_MLineRows_checkFigure_d85 l12 rfl ?_
          exact iq_iret J_MLineRows_checkFigure_d87 rfl rfl ⟨_, rfl, (lw_sI hM), ed_some h⟩
        obtain ⟨r10, hr10, hq10⟩ := h
        obtain ⟨n10, hn10⟩ := lp_n hr10
        have I10 : ∀ (n : Nat) (x13 : Int32) (L' : List (Nat × Value)), im_lk L' 3 = some (.int y8) → im_lk L' 4 = some (.int x13) → lpn (uc1 (f_MLineRows_checkFigure_L69 y8 (im_setI M 96 3 ((if x1 = 0 then 0 else 1) : Int32)))) n x13 = some r10 → ia (tb_G L xs) (dep + 1) J_MLineRows_checkFigure (rwI w Q) (69, L', [], (im_setI M 96 3 ((if x1 = 0 then 0 else 1) : Int32))) := by
          intro n
          induction n with
          | zero => intro x13 L' l14 l15 hn; exact (lpn_0 hn).elim
          | succ n ih =>
            intro x13 L' l14 l15 hn
            have h := lpn_ed1 hn
            unfold f_MLineRows_checkFigure_L69 at h
            refine iq_iload_n hS 70 J_MLineRows_checkFigure_d69 l14 rfl ?_
            refine iq_iload hS 72 J_MLineRows_checkFigure_d70 l15 rfl ?_
            refine iq_iadd hS 73 J_MLineRows_checkFigure_d72 rfl ?_
            refine iq_bipush hS 75 J_MLineRows_checkFigure_d73 (v := 10) (by decide +kernel) rfl ?_
            refine iq_irem hS 76 J_MLineRows_checkFigure_d75 (by decide) rfl ?_
            refine iq_if_eq hS 79 J_MLineRows_checkFigure_d76 (t := 85) rfl (fun q76 => ?_) rfl (fun q76 => ?_)
            · replace h := ed_pos q76 h
              exact K10 _ _ l15 (lq_r h hq10)
            · replace h := ed_neg q76 h
              refine iq_iincv hS 82 J_MLineRows_checkFigure_d79 (c := 1) (by decide +kernel) l15 (by decide) rfl ?_
              refine iq_goto hS J_MLineRows_checkFigure_d82 (t := 69) rfl ?_
              exact ih _ _ (lk_1i l14 (by decide)) lk_1s (lq_l h)
        exact I10 n10 _ _ (lk_1i l9 (by decide)) lk_1s hn10
      obtain ⟨r7, hr7, hq7⟩ := h
      obtain ⟨n7, hn7⟩ := lp_n hr7
      have I7 : ∀ (n : Nat) (x16 : Int32) (x17 : Int32) (L' : List (Nat × Value)), im_lk L' 1 = some (.long p0) → im_lk L' 3 = some (.int x16) → im_lk L' 4 = some (.int x17) → lpn (uc2 (f_MLineRows_checkFigure_L30 p0 (im_setI M 96 3 ((if x1 = 0 then 0 else 1) : Int32)))) n (x16, x17) = some r7 → ia (tb_G L xs) (dep + 1) J_MLineRows_checkFigure (rwI w Q) (30, L', [], (im_setI M 96 3 ((if x1 = 0 then 0 else 1) : Int32))) := by
        intro n
        induction n with
        | zero => intro x16 x17 L' l18 l19 l20 hn; exact (lpn_0 hn).elim
        | succ n ih =>
          intro x16 x17 L' l18 l19 l20 hn
          have h := lpn_ed2 hn
          unfold f_MLineRows_checkFigure_L30 at h
          refine iq_iload hS 32 J_MLineRows_checkFigure_d30 l20 rfl ?_
          refine iq_bipush hS 34 J_MLineRows_checkFigure_d32 (v := 12) (by decide +kernel) rfl ?_
          refine iq_icmp_gt hS 37 J_MLineRows_checkFigure_d34 (t := 66) rfl (fun q34 => ?_) rfl (fun q34 => ?_)
          · replace h := ed_pos q34 h
            exact K7 _ _ l19 (lq_r h hq7)
          · replace h := ed_neg q34 h
            refine iq_iload_n hS 38 J_MLineRows_checkFigure_d37 l19 rfl ?_
            refine iq_iload hS 40 J_MLineRows_checkFigure_d38 l20 rfl ?_
            refine iq_iconst hS 41 J_MLineRows_checkFigure_d40 (v := 2) (by decide +kernel) rfl ?_
            refine iq_irem hS 42 J_MLineRows_checkFigure_d41 (by decide) rfl ?_
            refine iq_iconst hS 43 J_MLineRows_checkFigure_d42 (v := 1) (by decide +kernel) rfl ?_
            have J21 : ∀ (z22 : Int32) (L' : List (Nat × Value)), z22 = ((if ¬ (x17 - x17 / 2 * 2) = 1 then 3 else 1) : Int32) → im_lk L' 1 = some (.long p0) → im_lk L' 4 = some (.int x17) → ia (tb_G L xs) (dep + 1) J_MLineRows_checkFigure (rwI w Q) (51, L', [.int z22, .int x16], (im_setI M 96 3 ((if x1 = 0 then 0 else 1) : Int32))) := by
              intro z22 L' e23 l24 l25
              subst e23
              refine iq_lload_n hS 52 J_MLineRows_checkFigure_d51 l24 rfl ?_
              refine iq_iload hS 54 J_MLineRows_checkFigure_d52 l25 rfl ?_
              obtain ⟨Q26, hQ26, h⟩ := bd1_ed h
              refine iq_cpI hS 57 J_MLineRows_checkFigure_d54 rfl (pr_stat (vs := [_, _]) lc_13_222 lT_382 rfl rfl (by decide) rfl (Nat.le_of_ble_eq_true rfl) (Nat.le_of_ble_eq_true rfl)) (f_MLineRows_figure_ok (dep := dep + 0) (lw_sI hM) h) rfl ?_
              intro x26 h
              replace h := hQ26 _ h
              refine iq_imul hS 58 J_MLineRows_checkFigure_d57 rfl ?_
              refine iq_iadd hS 59 J_MLineRows_checkFigure_d58 rfl ?_
              refine iq_istore_n hS 60 J_MLineRows_checkFigure_d59 (by decide) rfl ?_
              refine iq_iincv hS 63 J_MLineRows_checkFigure_d60 (c := 1) (by decide +kernel) (lk_1i l25 (by decide)) (by decide) rfl ?_
              refine iq_goto hS J_MLineRows_checkFigure_d63 (t := 30) rfl ?_
              exact ih _ _ _ (lk_1l (lk_1l l24 (by decide) (by decide)) (by decide) (by decide)) (lk_1i lk_1s (by decide)) lk_1s (lq_l h)
            refine iq_icmp_ne hS 46 J_MLineRows_checkFigure_d43 (t := 50) rfl (fun q43 => ?_) rfl (fun q43 => ?_)
            · refine iq_iconst hS 51 J_MLineRows_checkFigure_d50 (v := 3) (by decide +kernel) rfl ?_
              exact J21 _ _ (by simp only [if_pos q43]) l18 l20
            · refine iq_iconst hS 47 J_MLineRows_checkFigure_d46 (v := 1) (by decide +kernel) rfl ?_
              refine iq_goto hS J_MLineRows_checkFigure_d47 (t := 51) rfl ?_
              exact J21 _ _ (by simp only [if_neg q43]) l18 l20
      exact I7 n7 _ _ _ (lk_1l (lk_1l l6 (by decide) (by decide)) (by decide) (by decide)) (lk_1i lk_1s (by decide)) lk_1s hn7
    · replace h := ed_neg q20 h
      refine iq_iconst hS 24 J_MLineRows_checkFigure_d23 (v := 0) (by decide +kernel) rfl ?_
      exact iq_iret J_MLineRows_checkFigure_d24 rfl rfl ⟨_, rfl, (lw_sI hM), ed_some h⟩
  refine iq_if_eq hS 8 J_MLineRows_checkFigure_d5 (t := 12) rfl (fun q5 => ?_) rfl (fun q5 => ?_)
  · refine iq_iconst hS 13 J_MLineRows_checkFigure_d12 (v := 0) (by decide +kernel) rfl ?_
    exact J2 _ _ (by simp only [if_pos q5]) l0 l1
  · refine iq_iconst hS 9 J_MLineRows_checkFigure_d8 (v := 1) (by decide +kernel) rfl ?_
    refine iq_goto hS J_MLineRows_checkFigure_d9 (t := 13) rfl ?_
    exact J2 _ _ (by simp only [if_neg q5]) l0 l1
theorem f_MLineRows_checkFigure_fr {p0 : Int64} {M : im_M} {r : Int32 × im_M} (h : f_MLineRows_checkFigure p0 M = some r) : fr 0 [(96, 3)] M r.2 := by
  replace h : ed (f_MLineRows_checkFigure p0 M) (fun x => x = r) := ⟨r, h, rfl⟩
  unfold f_MLineRows_checkFigure at h
  obtain ⟨Q1, hQ1, h⟩ := bd1_ed h
  obtain ⟨x1, e1, h⟩ := h
  replace h := hQ1 _ h
  by_cases q20 : (im_i (im_setI M 96 3 ((if x1 = 0 then 0 else 1) : Int32)) 96 3) ≤ 0
  · replace h := ed_pos q20 h
    obtain ⟨Q3, hQ3, h⟩ := bd1_ed h
    have K3 : ∀ (y4 : Int32), Q3 y4 → fr 0 [(96, 3)] M r.2 := by
      intro y4 h
      replace h := hQ3 _ h
      obtain ⟨Q5, hQ5, h⟩ := bd1_ed h
      have K5 : ∀ (y6 : Int32), Q5 y6 → fr 0 [(96, 3)] M r.2 := by
        intro y6 h
        replace h := hQ5 _ h
        exact fr_ret h (fr_F (by decide) fr_refl)
      obtain ⟨r5, hr5, hq5⟩ := h
      obtain ⟨n5, hn5⟩ := lp_n hr5
      have I5 : ∀ (n : Nat) (x7 : Int32), lpn (uc1 (f_MLineRows_checkFigure_L69 y4 (im_setI M 96 3 ((if x1 = 0 then 0 else 1) : Int32)))) n x7 = some r5 → fr 0 [(96, 3)] M r.2 := by
        intro n
        induction n with
        | zero => intro x7 hn; exact (lpn_0 hn).elim
        | succ n ih =>
          intro x7 hn
          have h := lpn_ed1 hn
          unfold f_MLineRows_checkFigure_L69 at h
          by_cases q76 : ((y4 + x7) - (y4 + x7) / 10 * 10) = 0
          · replace h := ed_pos q76 h
            exact K5 _ (lq_r h hq5)
          · replace h := ed_neg q76 h
            exact ih _ (lq_l h)
      exact I5 n5 _ hn5
    obtain ⟨r3, hr3, hq3⟩ := h
    obtain ⟨n3, hn3⟩ := lp_n hr3
    have I3 : ∀ (n : Nat) (x8 : Int32) (x9 : Int32), lpn (uc2 (f_MLineRows_checkFigure_L30 p0 (im_setI M 96 3 ((if x1 = 0 then 0 else 1) : Int32)))) n (x8, x9) = some r3 → fr 0 [(96, 3)] M r.2 := by
      intro n
      induction n with
      | zero => intro x8 x9 hn; exact (lpn_0 hn).elim
      | succ n ih =>
        intro x8 x9 hn
        have h := lpn_ed2 hn
        unfold f_MLineRows_checkFigure_L30 at h
        by_cases q34 : 12 < x9
        · replace h := ed_pos q34 h
          exact K3 _ (lq_r h hq3)
        · replace h := ed_neg q34 h
          obtain ⟨Q11, hQ11, h⟩ := bd1_ed h
          obtain ⟨x11, e11, h⟩ := h
          replace h := hQ11 _ h
          exact ih _ _ (lq_l h)
    exact I3 n3 _ _ hn3
  · replace h := ed_neg q20 h
    exact fr_ret h (fr_F (by decide) fr_refl)
noncomputable def f_MLineRows_isTurned (p0 : Int32) (p1 : Int32) (M : im_M) : Option (Int32) := gd (inb p0 10) <| if ¬ (((im_i M 99 (Int32.toNatClampNeg p0)) >>> (((7 : Int32) - p1) &&& 31 : Int32) : Int32) &&& 1) = 1 then some 0 else some 1
theorem J_MLineRows_isTurned_d0 : decode J_MLineRows_isTurned.2.1 0 = .ok (.aload_n 0, 1) := by decide +kernel
theorem J_MLineRows_isTurned_d1 : decode J_MLineRows_isTurned.2.1 1 = .ok (.getfield 122, 3) := by decide +kernel
theorem J_MLineRows_isTurned_d4 : decode J_MLineRows_isTurned.2.1 4 = .ok (.iload_n 1, 1) := by decide +kernel
theorem J_MLineRows_isTurned_d5 : decode J_MLineRows_isTurned.2.1 5 = .ok (.iaload, 1) := by decide +kernel
theorem J_MLineRows_isTurned_d6 : decode J_MLineRows_isTurned.2.1 6 = .ok (.bipush 7, 2) := by decide +kernel
theorem J_MLineRows_isTurned_d8 : decode J_MLineRows_isTurned.2.1 8 = .ok (.iload_n 2, 1) := by decide +kernel
theorem J_MLineRows_isTurned_d9 : decode J_MLineRows_isTurned.2.1 9 = .ok (.isub, 1) := by decide +kernel
theorem J_MLineRows_isTurned_d10 : decode J_MLineRows_isTurned.2.1 10 = .ok (.ishr, 1) := by decide +kernel
theorem J_MLineRows_isTurned_d11 : decode J_MLineRows_isTurned.2.1 11 = .ok (.iconst 1, 1) := by decide +kernel
theorem J_MLineRows_isTurned_d12 : decode J_MLineRows_isTurned.2.1 12 = .ok (.iand, 1) := by decide +kernel
theorem J_MLineRows_isTurned_d13 : decode J_MLineRows_isTurned.2.1 13 = .ok (.iconst 1, 1) := by decide +kernel
theorem J_MLineRows_isTurned_d14 : decode J_MLineRows_isTurned.2.1 14 = .ok (.if_icmp .ne 7, 3) := by decide +kernel
theorem J_MLineRows_isTurned_d17 : decode J_MLineRows_isTurned.2.1 17 = .ok (.iconst 1, 1) := by decide +kernel
theorem J_MLineRows_isTurned_d18 : decode J_MLineRows_isTurned.2.1 18 = .ok (.goto 4, 3) := by decide +kernel
theorem J_MLineRows_isTurned_d21 : decode J_MLineRows_isTurned.2.1 21 = .ok (.iconst 0, 1) := by decide +kernel
theorem J_MLineRows_isTurned_d22 : decode J_MLineRows_isTurned.2.1 22 = .ok (.ireturn, 1) := by decide +kernel
theorem f_MLineRows_isTurned_ok {L : Nat} {xs : Nat → Int32} {dep : Nat} {w : Bool} {p0 : Int32} {p1 : Int32} {M : im_M} {Q : Int32 → Prop} (hM : lw_S w M) (h : ed (f_MLineRows_isTurned p0 p1 M) Q) : ia (tb_G L xs) dep J_MLineRows_isTurned (rpI M Q) (0, lv_args 0 [.ref 96, .int p0, .int p1], [], M) := by
  have hS : im_St (tb_G L xs) dep J_MLineRows_isTurned (ia (tb_G L xs) dep J_MLineRows_isTurned (rpI M Q)) := ia_St
  unfold f_MLineRows_isTurned at h
  have l0 : im_lk (lv_args 0 [.ref 96, .int p0, .int p1]) 0 = some (.ref 96) := rfl
  have l1 : im_lk (lv_args 0 [.ref 96, .int p0, .int p1]) 1 = some (.int p0) := rfl
  have l2 : im_lk (lv_args 0 [.ref 96, .int p0, .int p1]) 2 = some (.int p1) := rfl
  refine iq_aload_n hS 1 J_MLineRows_isTurned_d0 l0 rfl ?_
  refine iq_getR hS 4 J_MLineRows_isTurned_d1 lf_13_122 (Or.inr ⟨_, rfl⟩) (ka_96 hM) (ra_96_2 hM) rfl ?_
  refine iq_iload_n hS 5 J_MLineRows_isTurned_d4 l1 rfl ?_
  obtain ⟨g5, h⟩ := ed_gd h
  refine iq_iaload hS 6 J_MLineRows_isTurned_d5 ⟨(ka_99 hM).1, (ka_99 hM).2, g5.1, ix_lt (kl_99 hM) g5.2⟩ rfl ?_
  refine iq_bipush hS 8 J_MLineRows_isTurned_d6 (v := 7) (by decide +kernel) rfl ?_
  refine iq_iload_n hS 9 J_MLineRows_isTurned_d8 l2 rfl ?_
  refine iq_isub hS 10 J_MLineRows_isTurned_d9 rfl ?_
  refine iq_ishr hS 11 J_MLineRows_isTurned_d10 rfl ?_
  refine iq_iconst hS 12 J_MLineRows_isTurned_d11 (v := 1) (by decide +kernel) rfl ?_
  refine iq_iand hS 13 J_MLineRows_isTurned_d12 rfl ?_
  refine iq_iconst hS 14 J_MLineRows_isTurned_d13 (v := 1) (by decide +kernel) rfl ?_
  refine iq_icmp_ne hS 17 J_MLineRows_isTurned_d14 (t := 21) rfl (fun q14 => ?_) rfl (fun q14 => ?_)
  · replace h := ed_pos q14 h
    refine iq_iconst hS 22 J_MLineRows_isTurned_d21 (v := 0) (by decide +kernel) rfl ?_
    exact iq_iret J_MLineRows_isTurned_d22 rfl rfl ⟨_, rfl, rfl, ed_some h⟩
  · replace h := ed_neg q14 h
    refine iq_iconst hS 18 J_MLineRows_isTurned_d17 (v := 1) (by decide +kernel) rfl ?_
    refine iq_goto hS J_MLineRows_isTurned_d18 (t := 22) rfl ?_
    exact iq_iret J_MLineRows_isTurned_d22 rfl rfl ⟨_, rfl, rfl, ed_some h⟩
noncomputable def f_MLineRows_reversed (p0 : Int32) (M : im_M) : Option (Int32) := some (((((p0 - p0 / 10 * 10) * 1000) + (((p0 / 10) - (p0 / 10) / 10 * 10) * 100)) + (((p0 / 100) - (p0 / 100) / 10 * 10) * 10)) + (p0 / 1000))
theorem J_MLineRows_reversed_d0 : decode J_MLineRows_reversed.2.1 0 = .ok (.iload_n 0, 1) := by decide +kernel
theorem J_MLineRows_reversed_d1 : decode J_MLineRows_reversed.2.1 1 = .ok (.bipush 10, 2) := by decide +kernel
theorem J_MLineRows_reversed_d3 : decode J_MLineRows_reversed.2.1 3 = .ok (.irem, 1) := by decide +kernel
theorem J_MLineRows_reversed_d4 : decode J_MLineRows_reversed.2.1 4 = .ok (.sipush 1000, 3) := by decide +kernel
theorem J_MLineRows_reversed_d7 : decode J_MLineRows_reversed.2.1 7 = .ok (.imul, 1) := by decide +kernel
theorem J_MLineRows_reversed_d8 : decode J_MLineRows_reversed.2.1 8 = .ok (.iload_n 0, 1) := by decide +kernel
theorem J_MLineRows_reversed_d9 : decode J_MLineRows_reversed.2.1 9 = .ok (.bipush 10, 2) := by decide +kernel
theorem J_MLineRows_reversed_d11 : decode J_MLineRows_reversed.2.1 11 = .ok (.idiv, 1) := by decide +kernel
theorem J_MLineRows_reversed_d12 : decode J_MLineRows_reversed.2.1 12 = .ok (.bipush 10, 2) := by decide +kernel
theorem J_MLineRows_reversed_d14 : decode J_MLineRows_reversed.2.1 14 = .ok (.irem, 1) := by decide +kernel
theorem J_MLineRows_reversed_d15 : decode J_MLineRows_reversed.2.1 15 = .ok (.bipush 100, 2) := by decide +kernel
theorem J_MLineRows_reversed_d17 : decode J_MLineRows_reversed.2.1 17 = .ok (.imul, 1) := by decide +kernel
theorem J_MLineRows_reversed_d18 : decode J_MLineRows_reversed.2.1 18 = .ok (.iadd, 1) := by decide +kernel
theorem J_MLineRows_reversed_d19 : decode J_MLineRows_reversed.2.1 19 = .ok (.iload_n 0, 1) := by decide +kernel
theorem J_MLineRows_reversed_d20 : decode J_MLineRows_reversed.2.1 20 = .ok (.bipush 100, 2) := by decide +kernel
theorem J_MLineRows_reversed_d22 : decode J_MLineRows_reversed.2.1 22 = .ok (.idiv, 1) := by decide +kernel
theorem J_MLineRows_reversed_d23 : decode J_MLineRows_reversed.2.1 23 = .ok (.bipush 10, 2) := by decide +kernel
theorem J_MLineRows_reversed_d25 : decode J_MLineRows_reversed.2.1 25 = .ok (.irem, 1) := by decide +kernel
theorem J_MLineRows_reversed_d26 : decode J_MLineRows_reversed.2.1 26 = .ok (.bipush 10, 2) := by decide +kernel
theorem J_MLineRows_reversed_d28 : decode J_MLineRows_reversed.2.1 28 = .ok (.imul, 1) := by decide +kernel
theorem J_MLineRows_reversed_d29 : decode J_MLineRows_reversed.2.1 29 = .ok (.iadd, 1) := by decide +kernel
theorem J_MLineRows_reversed_d30 : decode J_MLineRows_reversed.2.1 30 = .ok (.iload_n 0, 1) := by decide +kernel
theorem J_MLineRows_reversed_d31 : decode J_MLineRows_reversed.2.1 31 = .ok (.sipush 1000, 3) := by decide +kernel
theorem J_MLineRows_reversed_d34 : decode J_MLineRows_reversed.2.1 34 = .ok (.idiv, 1) := by decide +kernel
theorem J_MLineRows_reversed_d35 : decode J_MLineRows_reversed.2.1 35 = .ok (.iadd, 1) := by decide +kernel
theorem J_MLineRows_reversed_d36 : decode J_MLineRows_reversed.2.1 36 = .ok (.ireturn, 1) := by decide +kernel
theorem f_MLineRows_reversed_ok {L : Nat} {xs : Nat → Int32} {dep : Nat} {w : Bool} {p0 : Int32} {M : im_M} {Q : Int32 → Prop} (hM : lw_S w M) (h : ed (f_MLineRows_reversed p0 M) Q) : ia (tb_G L xs) dep J_MLineRows_reversed (rpI M Q) (0, lv_args 0 [.int p0], [], M) := by
  have hS : im_St (tb_G L xs) dep J_MLineRows_reversed (ia (tb_G L xs) dep J_MLineRows_reversed (rpI M Q)) := ia_St
  unfold f_MLineRows_reversed at h
  have l0 : im_lk (lv_args 0 [.int p0]) 0 = some (.int p0) := rfl
  refine iq_iload_n hS 1 J_MLineRows_reversed_d0 l0 rfl ?_
  refine iq_bipush hS 3 J_MLineRows_reversed_d1 (v := 10) (by decide +kernel) rfl ?_
  refine iq_irem hS 4 J_MLineRows_reversed_d3 (by decide) rfl ?_
  refine iq_sipush hS 7 J_MLineRows_reversed_d4 (v := 1000) (by decide +kernel) rfl ?_
  refine iq_imul hS 8 J_MLineRows_reversed_d7 rfl ?_
  refine iq_iload_n hS 9 J_MLineRows_reversed_d8 l0 rfl ?_
  refine iq_bipush hS 11 J_MLineRows_reversed_d9 (v := 10) (by decide +kernel) rfl ?_
  refine iq_idiv hS 12 J_MLineRows_reversed_d11 (by decide) rfl ?_
  refine iq_bipush hS 14 J_MLineRows_reversed_d12 (v := 10) (by decide +kernel) rfl ?_
  refine iq_irem hS 15 J_MLineRows_reversed_d14 (by decide) rfl ?_
  refine iq_bipush hS 17 J_MLineRows_reversed_d15 (v := 100) (by decide +kernel) rfl ?_
  refine iq_imul hS 18 J_MLineRows_reversed_d17 rfl ?_
  refine iq_iadd hS 19 J_MLineRows_reversed_d18 rfl ?_
  refine iq_iload_n hS 20 J_MLineRows_reversed_d19 l0 rfl ?_
  refine iq_bipush hS 22 J_MLineRows_reversed_d20 (v := 100) (by decide +kernel) rfl ?_
  refine iq_idiv hS 23 J_MLineRows_reversed_d22 (by decide) rfl ?_
  refine iq_bipush hS 25 J_MLineRows_reversed_d23 (v := 10) (by decide +kernel) rfl ?_
  refine iq_irem hS 26 J_MLineRows_reversed_d25 (by decide) rfl ?_
  refine iq_bipush hS 28 J_MLineRows_reversed_d26 (v := 10) (by decide +kernel) rfl ?_
  refine iq_imul hS 29 J_MLineRows_reversed_d28 rfl ?_
  refine iq_iadd hS 30 J_MLineRows_reversed_d29 rfl ?_
  refine iq_iload_n hS 31 J_MLineRows_reversed_d30 l0 rfl ?_
  refine iq_sipush hS 34 J_MLineRows_reversed_d31 (v := 1000) (by decide +kernel) rfl ?_
  refine iq_idiv hS 35 J_MLineRows_reversed_d34 (by decide) rfl ?_
  refine iq_iadd hS 36 J_MLineRows_reversed_d35 rfl ?_
  exact iq_iret J_MLineRows_reversed_d36 rfl rfl ⟨_, rfl, rfl, ed_some h⟩
noncomputable def f_MLineRows_thirteen_L55 (v15 : Int64) (v16 : Int32) (v17 : Int32) (x18 : Int32) (M19 : im_M) : Option ((Int32 × im_M) ⊕ (im_M)) := if 13 < x18 then some (.inr M19) else bd1 (if ¬ x18 = 13 then bd1 (f_MLineRows_figure v15 x18 M19) fun (x21 : Int32) => some x21 else some v17) fun (y22 : Int32) => gd (inb y22 10) <| bd1 (jn0 (fun (_ : Unit) => some (im_i M19 98 (Int32.toNatClampNeg y22))) fun k29 => if 8 ≤ x18 then k29 () else bd1 (f_MLineRows_figure v15 1 M19) fun (x30 : Int32) => bd1 (f_MLineRows_isTurned x30 x18 M19) fun (x31 : Int32) => if x31 = 0 then k29 () else bd1 (f_MLineRows_reversed (im_i M19 98 (Int32.toNatClampNeg y22)) M19) fun (x32 : Int32) => some x32) fun (y39 : Int32) => bd1 (f_MLineRows_lay y39 4 v16 M19) fun (M45 : im_M) => bd1 (if ¬ x18 = 7 then some M45 else bd1 (f_MLineRows_lay 11111 5 v16 M45) fun (M47 : im_M) => some M47) fun (M48 : im_M) => some (.inl ((x18 + 1), M48))
noncomputable def f_MLineRows_thirteen (p0 : Int64) (p1 : Int32) (M : im_M) : Option (Int32 × im_M) := bd1 (f_MLineRows_noTwelve p0 M) fun (x1 : Int32) => bd1 (jn0 (fun (_ : Unit) => some 1) fun k3 => if ¬ x1 = 0 then k3 () else bd1 (f_MLineRows_noModule p1 M) fun (x4 : Int32) => if x4 = 0 then some 0 else k3 ()) fun (y8 : Int32) => if (im_i (im_setI M 96 3 y8) 96 3) ≤ 0 then bd2 (f_MLineRows_checkFigure p0 (im_setI M 96 3 y8)) fun (x12 : Int32) (M12 : im_M) => bd1 (f_MLineRows_lay 111 3 p1 (im_setI M12 96 10 0)) fun (M13 : im_M) => bd1 (lp (uc2 (f_MLineRows_thirteen_L55 p0 p1 x12)) (2, M13)) fun (M54 : im_M) => bd1 (f_MLineRows_lay 111 3 p1 M54) fun (M55 : im_M) => some ((im_i M55 96 10), M55) else some (0, (im_setI M 96 3 y8))
theorem J_MLineRows_thirteen_d0 : decode J_MLineRows_thirteen.2.1 0 = .ok (.aload_n 0, 1) := by decide +kernel
theorem J_MLineRows_thirteen_d1 : decode J_MLineRows_thirteen.2.1 1 = .ok (.lload_n 1, 1) := by decide +kernel
theorem J_MLineRows_thirteen_d2 : decode J_MLineRows_thirteen.2.1 2 = .ok (.invokestatic 218, 3) := by decide +kernel
theorem J_MLineRows_thirteen_d5 : decode J_MLineRows_thirteen.2.1 5 = .ok (.ifCond .ne 10, 3) := by decide +kernel
theorem J_MLineRows_thirteen_d8 : decode J_MLineRows_thirteen.2.1 8 = .ok (.iload_n 3, 1) := by decide +kernel
theorem J_MLineRows_thirteen_d9 : decode J_MLineRows_thirteen.2.1 9 = .ok (.invokestatic 205, 3) := by decide +kernel
theorem J_MLineRows_thirteen_d12 : decode J_MLineRows_thirteen.2.1 12 = .ok (.ifCond .eq 7, 3) := by decide +kernel
theorem J_MLineRows_thirteen_d15 : decode J_MLineRows_thirteen.2.1 15 = .ok (.iconst 1, 1) := by decide +kernel
theorem J_MLineRows_thirteen_d16 : decode J_MLineRows_thirteen.2.1 16 = .ok (.goto 4, 3) := by decide +kernel
theorem J_MLineRows_thirteen_d19 : decode J_MLineRows_thirteen.2.1 19 = .ok (.iconst 0, 1) := by decide +kernel
theorem J_MLineRows_thirteen_d20 : decode J_MLineRows_thirteen.2.1 20 = .ok (.putfield 149, 3) := by decide +kernel
theorem J_MLineRows_thirteen_d23 : decode J_MLineRows_thirteen.2.1 23 = .ok (.aload_n 0, 1) := by decide +kernel
theorem J_MLineRows_thirteen_d24 : decode J_MLineRows_thirteen.2.1 24 = .ok (.getfield 149, 3) := by decide +kernel
theorem J_MLineRows_thirteen_d27 : decode J_MLineRows_thirteen.2.1 27 = .ok (.ifCond .le 5, 3) := by decide +kernel
theorem J_MLineRows_thirteen_d30 : decode J_MLineRows_thirteen.2.1 30 = .ok (.iconst 0, 1) := by decide +kernel
theorem J_MLineRows_thirteen_d31 : decode J_MLineRows_thirteen.2.1 31 = .ok (.ireturn, 1) := by decide +kernel
theorem J_MLineRows_thirteen_d32 : decode J_MLineRows_thirteen.2.1 32 = .ok (.aload_n 0, 1) := by decide +kernel
theorem J_MLineRows_thirteen_d33 : decode J_MLineRows_thirteen.2.1 33 = .ok (.lload_n 1, 1) := by decide +kernel
theorem J_MLineRows_thirteen_d34 : decode J_MLineRows_thirteen.2.1 34 = .ok (.invokevirtual 226, 3) := by decide +kernel
theorem J_MLineRows_thirteen_d37 : decode J_MLineRows_thirteen.2.1 37 = .ok (.istore 4, 2) := by decide +kernel
theorem J_MLineRows_thirteen_d39 : decode J_MLineRows_thirteen.2.1 39 = .ok (.aload_n 0, 1) := by decide +kernel
theorem J_MLineRows_thirteen_d40 : decode J_MLineRows_thirteen.2.1 40 = .ok (.iconst 0, 1) := by decide +kernel
theorem J_MLineRows_thirteen_d41 : decode J_MLineRows_thirteen.2.1 41 = .ok (.putfield 202, 3) := by decide +kernel
theorem J_MLineRows_thirteen_d44 : decode J_MLineRows_thirteen.2.1 44 = .ok (.aload_n 0, 1) := by decide +kernel
theorem J_MLineRows_thirteen_d45 : decode J_MLineRows_thirteen.2.1 45 = .ok (.bipush 111, 2) := by decide +kernel
theorem J_MLineRows_thirteen_d47 : decode J_MLineRows_thirteen.2.1 47 = .ok (.iconst 3, 1) := by decide +kernel
theorem J_MLineRows_thirteen_d48 : decode J_MLineRows_thirteen.2.1 48 = .ok (.iload_n 3, 1) := by decide +kernel
theorem J_MLineRows_thirteen_d49 : decode J_MLineRows_thirteen.2.1 49 = .ok (.invokevirtual 209, 3) := by decide +kernel
theorem J_MLineRows_thirteen_d52 : decode J_MLineRows_thirteen.2.1 52 = .ok (.iconst 2, 1) := by decide +kernel
theorem J_MLineRows_thirteen_d53 : decode J_MLineRows_thirteen.2.1 53 = .ok (.istore 5, 2) := by decide +kernel
theorem J_MLineRows_thirteen_d55 : decode J_MLineRows_thirteen.2.1 55 = .ok (.iload 5, 2) := by decide +kernel
theorem J_MLineRows_thirteen_d57 : decode J_MLineRows_thirteen.2.1 57 = .ok (.bipush 13, 2) := by decide +kernel
theorem J_MLineRows_thirteen_d59 : decode J_MLineRows_thirteen.2.1 59 = .ok (.if_icmp .gt 87, 3) := by decide +kernel
theorem J_MLineRows_thirteen_d62 : decode J_MLineRows_thirteen.2.1 62 = .ok (.aload_n 0, 1) := by decide +kernel
theorem J_MLineRows_thirteen_d63 : decode J_MLineRows_thirteen.2.1 63 = .ok (.getfield 119, 3) := by decide +kernel
theorem J_MLineRows_thirteen_d66 : decode J_MLineRows_thirteen.2.1 66 = .ok (.iload 5, 2) := by decide +kernel
theorem J_MLineRows_thirteen_d68 : decode J_MLineRows_thirteen.2.1 68 = .ok (.bipush 13, 2) := by decide +kernel
theorem J_MLineRows_thirteen_d70 : decode J_MLineRows_thirteen.2.1 70 = .ok (.if_icmp .ne 8, 3) := by decide +kernel
theorem J_MLineRows_thirteen_d73 : decode J_MLineRows_thirteen.2.1 73 = .ok (.iload 4, 2) := by decide +kernel
theorem J_MLineRows_thirteen_d75 : decode J_MLineRows_thirteen.2.1 75 = .ok (.goto 9, 3) := by decide +kernel
theorem J_MLineRows_thirteen_d78 : decode J_MLineRows_thirteen.2.1 78 = .ok (.lload_n 1, 1) := by decide +kernel
theorem J_MLineRows_thirteen_d79 : decode J_MLineRows_thirteen.2.1 79 = .ok (.iload 5, 2) := by decide +kernel
theorem J_MLineRows_thirteen_d81 : decode J_MLineRows_thirteen.2.1 81 = .ok (.invokestatic 222, 3) := by decide +kernel
theorem J_MLineRows_thirteen_d84 : decode J_MLineRows_thirteen.2.1 84 = .ok (.iaload, 1) := by decide +kernel
theorem J_MLineRows_thirteen_d85 : decode J_MLineRows_thirteen.2.1 85 = .ok (.istore 6, 2) := by decide +kernel
theorem J_MLineRows_thirteen_d87 : decode J_MLineRows_thirteen.2.1 87 = .ok (.aload_n 0, 1) := by decide +kernel
theorem J_MLineRows_thirteen_d88 : decode J_MLineRows_thirteen.2.1 88 = .ok (.iload 5, 2) := by decide +kernel
theorem J_MLineRows_thirteen_d90 : decode J_MLineRows_thirteen.2.1 90 = .ok (.bipush 8, 2) := by decide +kernel
theorem J_MLineRows_thirteen_d92 : decode J_MLineRows_thirteen.2.1 92 = .ok (.if_icmp .ge 25, 3) := by decide +kernel
theorem J_MLineRows_thirteen_d95 : decode J_MLineRows_thirteen.2.1 95 = .ok (.aload_n 0, 1) := by decide +kernel
theorem J_MLineRows_thirteen_d96 : decode J_MLineRows_thirteen.2.1 96 = .ok (.lload_n 1, 1) := by decide +kernel
theorem J_MLineRows_thirteen_d97 : decode J_MLineRows_thirteen.2.1 97 = .ok (.iconst 1, 1) := by decide +kernel
theorem J_MLineRows_thirteen_d98 : decode J_MLineRows_thirteen.2.1 98 = .ok (.invokestatic 222, 3) := by decide +kernel
theorem J_MLineRows_thirteen_d101 : decode J_MLineRows_thirteen.2.1 101 = .ok (.iload 5, 2) := by decide +kernel
theorem J_MLineRows_thirteen_d103 : decode J_MLineRows_thirteen.2.1 103 = .ok (.invokevirtual 230, 3) := by decide +kernel
theorem J_MLineRows_thirteen_d106 : decode J_MLineRows_thirteen.2.1 106 = .ok (.ifCond .eq 11, 3) := by decide +kernel
theorem J_MLineRows_thirteen_d109 : decode J_MLineRows_thirteen.2.1 109 = .ok (.iload 6, 2) := by decide +kernel
theorem J_MLineRows_thirteen_d111 : decode J_MLineRows_thirteen.2.1 111 = .ok (.invokestatic 233, 3) := by decide +kernel
theorem J_MLineRows_thirteen_d114 : decode J_MLineRows_thirteen.2.1 114 = .ok (.goto 5, 3) := by decide +kernel
theorem J_MLineRows_thirteen_d117 : decode J_MLineRows_thirteen.2.1 117 = .ok (.iload 6, 2) := by decide +kernel
theorem J_MLineRows_thirteen_d119 : decode J_MLineRows_thirteen.2.1 119 = .ok (.iconst 4, 1) := by decide +kernel
theorem J_MLineRows_thirteen_d120 : decode J_MLineRows_thirteen.2.1 120 = .ok (.iload_n 3, 1) := by decide +kernel
theorem J_MLineRows_thirteen_d121 : decode J_MLineRows_thirteen.2.1 121 = .ok (.invokevirtual 209, 3) := by decide +kernel
theorem J_MLineRows_thirteen_d124 : decode J_MLineRows_thirteen.2.1 124 = .ok (.iload 5, 2) := by decide +kernel
theorem J_MLineRows_thirteen_d126 : decode J_MLineRows_thirteen.2.1 126 = .ok (.bipush 7, 2) := by decide +kernel
theorem J_MLineRows_thirteen_d128 : decode J_MLineRows_thirteen.2.1 128 = .ok (.if_icmp .ne 12, 3) := by decide +kernel
theorem J_MLineRows_thirteen_d131 : decode J_MLineRows_thirteen.2.1 131 = .ok (.aload_n 0, 1) := by decide +kernel
theorem J_MLineRows_thirteen_d132 : decode J_MLineRows_thirteen.2.1 132 = .ok (.sipush 11111, 3) := by decide +kernel
theorem J_MLineRows_thirteen_d135 : decode J_MLineRows_thirteen.2.1 135 = .ok (.iconst 5, 1) := by decide +kernel
theorem J_MLineRows_thirteen_d136 : decode J_MLineRows_thirteen.2.1 136 = .ok (.iload_n 3, 1) := by decide +kernel
theorem J_MLineRows_thirteen_d137 : decode J_MLineRows_thirteen.2.1 137 = .ok (.invokevirtual 209, 3) := by decide +kernel
theorem J_MLineRows_thirteen_d140 : decode J_MLineRows_thirteen.2.1 140 = .ok (.iinc 5 1, 3) := by decide +kernel
theorem J_MLineRows_thirteen_d143 : decode J_MLineRows_thirteen.2.1 143 = .ok (.goto (-88), 3) := by decide +kernel
theorem J_MLineRows_thirteen_d146 : decode J_MLineRows_thirteen.2.1 146 = .ok (.aload_n 0, 1) := by decide +kernel
theorem J_MLineRows_thirteen_d147 : decode J_MLineRows_thirteen.2.1 147 = .ok (.bipush 111, 2) := by decide +kernel
theorem J_MLineRows_thirteen_d149 : decode J_MLineRows_thirteen.2.1 149 = .ok (.iconst 3, 1) := by decide +kernel
theorem J_MLineRows_thirteen_d150 : decode J_MLineRows_thirteen.2.1 150 = .ok (.iload_n 3, 1) := by decide +kernel
theorem J_MLineRows_thirteen_d151 : decode J_MLineRows_thirteen.2.1 151 = .ok (.invokevirtual 209, 3) := by decide +kernel
theorem J_MLineRows_thirteen_d154 : decode J_MLineRows_thirteen.2.1 154 = .ok (.aload_n 0, 1) := by decide +kernel
theorem J_MLineRows_thirteen_d155 : decode J_MLineRows_thirteen.2.1 155 = .ok (.getfield 202, 3) := by decide +kernel
theorem J_MLineRows_thirteen_d158 : decode J_MLineRows_thirteen.2.1 158 = .ok (.ireturn, 1) := by decide +kernel
theorem f_MLineRows_thirteen_ok {L : Nat} {xs : Nat → Int32} {dep : Nat} {w : Bool} {p0 : Int64} {p1 : Int32} {M : im_M} {Q : Int32 × im_M → Prop} (hM : lw_S w M) (h : ed (f_MLineRows_thirteen p0 p1 M) Q) : ia (tb_G L xs) (dep + 2) J_MLineRows_thirteen (rwI w Q) (0, lv_args 0 [.ref 96, .long p0, .int p1], [], M) := by
  have hS : im_St (tb_G L xs) (dep + 2) J_MLineRows_thirteen (ia (tb_G L xs) (dep + 2) J_MLineRows_thirteen (rwI w Q)) := ia_St
  unfold f_MLineRows_thirteen at h
  have l0 : im_lk (lv_args 0 [.ref 96, .long p0, .int p1]) 0 = some (.ref 96) := rfl
  have l1 : im_lk (lv_args 0 [.ref 96, .long p0, .int p1]) 1 = some (.long p0) := rfl
  have l3 : im_lk (lv_args 0 [.ref 96, .long p0, .int p1]) 3 = some (.int p1) := rfl
  refine iq_aload_n hS 1 J_MLineRows_thirteen_d0 l0 rfl ?_
  refine iq_lload_n hS 2 J_MLineRows_thirteen_d1 l1 rfl ?_
  obtain ⟨Q1, hQ1, h⟩ := bd1_ed h
  refine iq_cpI hS 5 J_MLineRows_thirteen_d2 rfl (pr_stat (vs := [_]) lc_13_218 lT_380 rfl rfl (by decide) rfl (Nat.le_of_ble_eq_true rfl) (Nat.le_of_ble_eq_true rfl)) (f_MLineRows_noTwelve_ok (dep := dep + 1) hM h) rfl ?_
  intro x1 h
  replace h := hQ1 _ h
  obtain ⟨Q2, hQ2, h⟩ := bd1_ed h
  have J2 : ∀ (y8 : Int32) (L' : List (Nat × Value)), im_lk L' 0 = some (.ref 96) → im_lk L' 1 = some (.long p0) → im_lk L' 3 = some (.int p1) → Q2 y8 → ia (tb_G L xs) (dep + 2) J_MLineRows_thirteen (rwI w Q) (20, L', [.int y8, .ref 96], M) := by
    intro y8 L' l9 l10 l11 h
    replace h := hQ2 _ h
    refine iq_putI hS 23 J_MLineRows_thirteen_d20 lf_13_149 (Or.inl rfl) rfl (ka_96 hM) rfl ?_
    refine iq_aload_n hS 24 J_MLineRows_thirteen_d23 l9 rfl ?_
    refine iq_getI hS 27 J_MLineRows_thirteen_d24 lf_13_149 (Or.inl rfl) (ka_96 (lw_sI hM)) rfl ?_
    refine iq_if_le hS 30 J_MLineRows_thirteen_d27 (t := 32) rfl (fun q27 => ?_) rfl (fun q27 => ?_)
    · replace h := ed_pos q27 h
      refine iq_aload_n hS 33 J_MLineRows_thirteen_d32 l9 rfl ?_
      refine iq_lload_n hS 34 J_MLineRows_thirteen_d33 l10 rfl ?_
      obtain ⟨Q12, hQ12, h⟩ := bd2_ed h
      refine iq_cwI hS 37 J_MLineRows_thirteen_d34 rfl (pr_inst (vs := [_]) lc_13_226 lT_381 rfl rfl (by decide) (by decide) rfl (Nat.le_of_ble_eq_true rfl) (Nat.le_of_ble_eq_true rfl) (fun _ => Or.inl (pr_b (ka_96 (lw_sI hM)) (by decide) rfl))) (f_MLineRows_checkFigure_ok (dep := dep + 0) (lw_sI hM) h) rfl ?_
      intro x12 M12 hM12 h
      replace h := hQ12 _ _ h
      refine iq_istore hS 39 J_MLineRows_thirteen_d37 (by decide) rfl ?_
      refine iq_aload_n hS 40 J_MLineRows_thirteen_d39 (lk_1r l9 (by decide)) rfl ?_
      refine iq_iconst hS 41 J_MLineRows_thirteen_d40 (v := 0) (by decide +kernel) rfl ?_
      refine iq_putI hS 44 J_MLineRows_thirteen_d41 lf_13_202 (Or.inl rfl) rfl (ka_96 hM12) rfl ?_
      refine iq_aload_n hS 45 J_MLineRows_thirteen_d44 (lk_1r l9 (by decide)) rfl ?_
      refine iq_bipush hS 47 J_MLineRows_thirteen_d45 (v := 111) (by decide +kernel) rfl ?_
      refine iq_iconst hS 48 J_MLineRows_thirteen_d47 (v := 3) (by decide +kernel) rfl ?_
      refine iq_iload_n hS 49 J_MLineRows_thirteen_d48 (lk_1i l11 (by decide)) rfl ?_
      obtain ⟨Q13, hQ13, h⟩ := bd1_ed h
      refine iq_cwV hS 52 J_MLineRows_thirteen_d49 rfl (pr_inst (vs := [_, _, _]) lc_13_209 lT_374 rfl rfl (by decide) (by decide) rfl (Nat.le_of_ble_eq_true rfl) (Nat.le_of_ble_eq_true rfl) (fun _ => Or.inl (pr_b (ka_96 (lw_sI hM12)) (by decide) rfl))) (f_MLineRows_lay_ok (dep := dep + 1) (lw_sI hM12) h) rfl ?_
      intro M13 hM13 h
      replace h := hQ13 _ h
      refine iq_iconst hS 53 J_MLineRows_thirteen_d52 (v := 2) (by decide +kernel) rfl ?_
      refine iq_istore hS 55 J_MLineRows_thirteen_d53 (by decide) rfl ?_
      obtain ⟨Q14, hQ14, h⟩ := bd1_ed h
      have K14 : ∀ (M15 : im_M) (L' : List (Nat × Value)), lw_S w M15 → im_lk L' 0 = some (.ref 96) → im_lk L' 3 = some (.int p1) → Q14 M15 → ia (tb_G L xs) (dep + 2) J_MLineRows_thirteen (rwI w Q) (146, L', [], M15) := by
        intro M15 L' hM15 l16 l17 h
        replace h := hQ14 _ h
        refine iq_aload_n hS 147 J_MLineRows_thirteen_d146 l16 rfl ?_
        refine iq_bipush hS 149 J_MLineRows_thirteen_d147 (v := 111) (by decide +kernel) rfl ?_
        refine iq_iconst hS 150 J_MLineRows_thirteen_d149 (v := 3) (by decide +kernel) rfl ?_
        refine iq_iload_n hS 151 J_MLineRows_thirteen_d150 l17 rfl ?_
        obtain ⟨Q18, hQ18, h⟩ := bd1_ed h
        refine iq_cwV hS 154 J_MLineRows_thirteen_d151 rfl (pr_inst (vs := [_, _, _]) lc_13_209 lT_374 rfl rfl (by decide) (by decide) rfl (Nat.le_of_ble_eq_true rfl) (Nat.le_of_ble_eq_true rfl) (fun _ => Or.inl (pr_b (ka_96 hM15) (by decide) rfl))) (f_MLineRows_lay_ok (dep := dep + 1) hM15 h) rfl ?_
        intro M18 hM18 h
        replace h := hQ18 _ h
        refine iq_aload_n hS 155 J_MLineRows_thirteen_d154 l16 rfl ?_
        refine iq_getI hS 158 J_MLineRows_thirteen_d155 lf_13_202 (Or.inl rfl) (ka_96 hM18) rfl ?_
        exact iq_iret J_MLineRows_thirteen_d158 rfl rfl ⟨_, rfl, hM18, ed_some h⟩
      obtain ⟨r14, hr14, hq14⟩ := h
      obtain ⟨n14, hn14⟩ := lp_n hr14
      have I14 : ∀ (n : Nat) (x19 : Int32) (M20 : im_M) (L' : List (Nat × Value)), lw_S w M20 → im_lk L' 0 = some (.ref 96) → im_lk L' 1 = some (.long p0) → im_lk L' 3 = some (.int p1) → im_lk L' 4 = some (.int x12) → im_lk L' 5 = some (.int x19) → lpn (uc2 (f_MLineRows_thirteen_L55 p0 p1 x12)) n (x19, M20) = some r14 → ia (tb_G L xs) (dep + 2) J_MLineRows_thirteen (rwI w Q) (55, L', [], M20) := by
        intro n
        induction n with
        | zero => intro x19 M20 L' hM20 l21 l22 l23 l24 l25 hn; exact (lpn_0 hn).elim
        | succ n ih =>
          intro x19 M20 L' hM20 l21 l22 l23 l24 l25 hn
          have h := lpn_ed2 hn
          unfold f_MLineRows_thirteen_L55 at h
          refine iq_iload hS 57 J_MLineRows_thirteen_d55 l25 rfl ?_
          refine iq_bipush hS 59 J_MLineRows_thirteen_d57 (v := 13) (by decide +kernel) rfl ?_
          refine iq_icmp_gt hS 62 J_MLineRows_thirteen_d59 (t := 146) rfl (fun q59 => ?_) rfl (fun q59 => ?_)
          · replace h := ed_pos q59 h
            exact K14 _ _ hM20 l21 l23 (lq_r h hq14)
          · replace h := ed_neg q59 h
            refine iq_aload_n hS 63 J_MLineRows_thirteen_d62 l21 rfl ?_
            refine iq_getR hS 66 J_MLineRows_thirteen_d63 lf_13_119 (Or.inr ⟨_, rfl⟩) (ka_96 hM20) (ra_96_1 hM20) rfl ?_
            refine iq_iload hS 68 J_MLineRows_thirteen_d66 l25 rfl ?_
            refine iq_bipush hS 70 J_MLineRows_thirteen_d68 (v := 13) (by decide +kernel) rfl ?_
            obtain ⟨Q26, hQ26, h⟩ := bd1_ed h
            have J26 : ∀ (y28 : Int32) (L' : List (Nat × Value)), im_lk L' 0 = some (.ref 96) → im_lk L' 1 = some (.long p0) → im_lk L' 3 = some (.int p1) → im_lk L' 4 = some (.int x12) → im_lk L' 5 = some (.int x19) → Q26 y28 → ia (tb_G L xs) (dep + 2) J_MLineRows_thirteen (rwI w Q) (84, L', [.int y28, .ref 98], M20) := by
              intro y28 L' l29 l30 l31 l32 l33 h
              replace h := hQ26 _ h
              obtain ⟨g84, h⟩ := ed_gd h
              refine iq_iaload hS 85 J_MLineRows_thirteen_d84 ⟨(ka_98 hM20).1, (ka_98 hM20).2, g84.1, ix_lt (kl_98 hM20) g84.2⟩ rfl ?_
              refine iq_istore hS 87 J_MLineRows_thirteen_d85 (by decide) rfl ?_
              refine iq_aload_n hS 88 J_MLineRows_thirteen_d87 (lk_1r l29 (by decide)) rfl ?_
              refine iq_iload hS 90 J_MLineRows_thirteen_d88 (lk_1i l33 (by decide)) rfl ?_
              refine iq_bipush hS 92 J_MLineRows_thirteen_d90 (v := 8) (by decide +kernel) rfl ?_
              obtain ⟨Q34, hQ34, h⟩ := bd1_ed h
              have J34 : ∀ (y45 : Int32) (L' : List (Nat × Value)), im_lk L' 0 = some (.ref 96) → im_lk L' 1 = some (.long p0) → im_lk L' 3 = some (.int p1) → im_lk L' 4 = some (.int x12) → im_lk L' 5 = some (.int x19) → Q34 y45 → ia (tb_G L xs) (dep + 2) J_MLineRows_thirteen (rwI w Q) (119, L', [.int y45, .ref 96], M20) := by
                intro y45 L' l46 l47 l48 l49 l50 h
                replace h := hQ34 _ h
                refine iq_iconst hS 120 J_MLineRows_thirteen_d119 (v := 4) (by decide +kernel) rfl ?_
                refine iq_iload_n hS 121 J_MLineRows_thirteen_d120 l48 rfl ?_
                obtain ⟨Q51, hQ51, h⟩ := bd1_ed h
                refine iq_cwV hS 124 J_MLineRows_thirteen_d121 rfl (pr_inst (vs := [_, _, _]) lc_13_209 lT_374 rfl rfl (by decide) (by decide) rfl (Nat.le_of_ble_eq_true rfl) (Nat.le_of_ble_eq_true rfl) (fun _ => Or.inl (pr_b (ka_96 hM20) (by decide) rfl))) (f_MLineRows_lay_ok (dep := dep + 1) hM20 h) rfl ?_
                intro M51 hM51 h
                replace h := hQ51 _ h
                refine iq_iload hS 126 J_MLineRows_thirteen_d124 l50 rfl ?_
                refine iq_bipush hS 128 J_MLineRows_thirteen_d126 (v := 7) (by decide +kernel) rfl ?_
                obtain ⟨Q52, hQ52, h⟩ := bd1_ed h
                have J52 : ∀ (M54 : im_M) (L' : List (Nat × Value)), lw_S w M54 → im_lk L' 0 = some (.ref 96) → im_lk L' 1 = some (.long p0) → im_lk L' 3 = some (.int p1) → im_lk L' 4 = some (.int x12) → im_lk L' 5 = some (.int x19) → Q52 M54 → ia (tb_G L xs) (dep + 2) J_MLineRows_thirteen (rwI w Q) (140, L', [], M54) := by
                  intro M54 L' hM54 l55 l56 l57 l58 l59 h
                  replace h := hQ52 _ h
                  refine iq_iincv hS 143 J_MLineRows_thirteen_d140 (c := 1) (by decide +kernel) l59 (by decide) rfl ?_
                  refine iq_goto hS J_MLineRows_thirteen_d143 (t := 55) rfl ?_
                  exact ih _ _ _ hM54 (lk_1r l55 (by decide)) (lk_1l l56 (by decide) (by decide)) (lk_1i l57 (by decide)) (lk_1i l58 (by decide)) lk_1s (lq_l h)
                refine iq_icmp_ne hS 131 J_MLineRows_thirteen_d128 (t := 140) rfl (fun q128 => ?_) rfl (fun q128 => ?_)
                · replace h := ed_pos q128 h
                  exact J52 _ _ hM51 l46 l47 l48 l49 l50 (ed_some h)
                · replace h := ed_neg q128 h
                  refine iq_aload_n hS 132 J_MLineRows_thirteen_d131 l46 rfl ?_
                  refine iq_sipush hS 135 J_MLineRows_thirteen_d132 (v := 11111) (by decide +kernel) rfl ?_
                  refine iq_iconst hS 136 J_MLineRows_thirteen_d135 (v := 5) (by decide +kernel) rfl ?_
                  refine iq_iload_n hS 137 J_MLineRows_thirteen_d136 l48 rfl ?_
                  obtain ⟨Q53, hQ53, h⟩ := bd1_ed h
                  refine iq_cwV hS 140 J_MLineRows_thirteen_d137 rfl (pr_inst (vs := [_, _, _]) lc_13_209 lT_374 rfl rfl (by decide) (by decide) rfl (Nat.le_of_ble_eq_true rfl) (Nat.le_of_ble_eq_true rfl) (fun _ => Or.inl (pr_b (ka_96 hM51) (by decide) rfl))) (f_MLineRows_lay_ok (dep := dep + 1) hM51 h) rfl ?_
                  intro M53 hM53 h
                  replace h := hQ53 _ h
                  exact J52 _ _ hM53 l46 l47 l48 l49 l50 (ed_some h)
              obtain ⟨k35, Q35, hQ35, hk35, h⟩ := jn0_ed h
              have J35 : ∀  (L' : List (Nat × Value)), im_lk L' 0 = some (.ref 96) → im_lk L' 1 = some (.long p0) → im_lk L' 3 = some (.int p1) → im_lk L' 4 = some (.int x12) → im_lk L' 5 = some (.int x19) → im_lk L' 6 = some (.int (im_i M20 98 (Int32.toNatClampNeg y28))) → Q35 () → ia (tb_G L xs) (dep + 2) J_MLineRows_thirteen (rwI w Q) (117, L', [.ref 96], M20) := by
                intro  L' l39 l40 l41 l42 l43 l44 h
                replace h := hQ35  h
                refine iq_iload hS 119 J_MLineRows_thirteen_d117 l44 rfl ?_
                exact J34 _ _ l39 l40 l41 l42 l43 (ed_some h)
              refine iq_icmp_ge hS 95 J_MLineRows_thirteen_d92 (t := 117) rfl (fun q92 => ?_) rfl (fun q92 => ?_)
              · replace h := ed_pos q92 h
                exact J35  _ (lk_1r l29 (by decide)) (lk_1l l30 (by decide) (by decide)) (lk_1i l31 (by decide)) (lk_1i l32 (by decide)) (lk_1i l33 (by decide)) lk_1s (hk35  h)
              · replace h := ed_neg q92 h
                refine iq_aload_n hS 96 J_MLineRows_thirteen_d95 (lk_1r l29 (by decide)) rfl ?_
                refine iq_lload_n hS 97 J_MLineRows_thirteen_d96 (lk_1l l30 (by decide) (by decide)) rfl ?_
                refine iq_iconst hS 98 J_MLineRows_thirteen_d97 (v := 1) (by decide +kernel) rfl ?_
                obtain ⟨Q36, hQ36, h⟩ := bd1_ed h
                refine iq_cpI hS 101 J_MLineRows_thirteen_d98 rfl (pr_stat (vs := [_, _]) lc_13_222 lT_382 rfl rfl (by decide) rfl (Nat.le_of_ble_eq_true rfl) (Nat.le_of_ble_eq_true rfl)) (f_MLineRows_figure_ok (dep := dep + 1) hM20 h) rfl ?_
                intro x36 h
                replace h := hQ36 _ h
                refine iq_iload hS 103 J_MLineRows_thirteen_d101 (lk_1i l33 (by decide)) rfl ?_
                obtain ⟨Q37, hQ37, h⟩ := bd1_ed h
                refine iq_cpI hS 106 J_MLineRows_thirteen_d103 rfl (pr_inst (vs := [_, _]) lc_13_230 lT_383 rfl rfl (by decide) (by decide) rfl (Nat.le_of_ble_eq_true rfl) (Nat.le_of_ble_eq_true rfl) (fun _ => Or.inl (pr_b (ka_96 hM20) (by decide) rfl))) (f_MLineRows_isTurned_ok (dep := dep + 1) hM20 h) rfl ?_
                intro x37 h
                replace h := hQ37 _ h
                refine iq_if_eq hS 109 J_MLineRows_thirteen_d106 (t := 117) rfl (fun q106 => ?_) rfl (fun q106 => ?_)
                · replace h := ed_pos q106 h
                  exact J35  _ (lk_1r l29 (by decide)) (lk_1l l30 (by decide) (by decide)) (lk_1i l31 (by decide)) (lk_1i l32 (by decide)) (lk_1i l33 (by decide)) lk_1s (hk35  h)
                · replace h := ed_neg q106 h
                  refine iq_iload hS 111 J_MLineRows_thirteen_d109 lk_1s rfl ?_
                  obtain ⟨Q38, hQ38, h⟩ := bd1_ed h
                  refine iq_cpI hS 114 J_MLineRows_thirteen_d111 rfl (pr_stat (vs := [_]) lc_13_233 lT_384 rfl rfl (by decide) rfl (Nat.le_of_ble_eq_true rfl) (Nat.le_of_ble_eq_true rfl)) (f_MLineRows_reversed_ok (dep := dep + 1) hM20 h) rfl ?_
                  intro x38 h
                  replace h := hQ38 _ h
                  refine iq_goto hS J_MLineRows_thirteen_d114 (t := 119) rfl ?_
                  exact J34 _ _ (lk_1r l29 (by decide)) (lk_1l l30 (by decide) (by decide)) (lk_1i l31 (by decide)) (lk_1i l32 (by decide)) (lk_1i l33 (by decide)) (ed_some h)
            refine iq_icmp_ne hS 73 J_MLineRows_thirteen_d70 (t := 78) rfl (fun q70 => ?_) rfl (fun q70 => ?_)
            · replace h := ed_pos q70 h
              refine iq_lload_n hS 79 J_MLineRows_thirteen_d78 l22 rfl ?_
              refine iq_iload hS 81 J_MLineRows_thirteen_d79 l25 rfl ?_
              obtain ⟨Q27, hQ27, h⟩ := bd1_ed h
              refine iq_cpI hS 84 J_MLineRows_thirteen_d81 rfl (pr_stat (vs := [_, _]) lc_13_222 lT_382 rfl rfl (by decide) rfl (Nat.le_of_ble_eq_true rfl) (Nat.le_of_ble_eq_true rfl)) (f_MLineRows_figure_ok (dep := dep + 1) hM20 h) rfl ?_
              intro x27 h
              replace h := hQ27 _ h
              exact J26 _ _ l21 l22 l23 l24 l25 (ed_some h)
            · replace h := ed_neg q70 h
              refine iq_iload hS 75 J_MLineRows_thirteen_d73 l24 rfl ?_
              refine iq_goto hS J_MLineRows_thirteen_d75 (t := 84) rfl ?_
              exact J26 _ _ l21 l22 l23 l24 l25 (ed_some h)
      exact I14 n14 _ _ _ hM13 (lk_1r (lk_1r l9 (by decide)) (by decide)) (lk_1l (lk_1l l10 (by decide) (by decide)) (by decide) (by decide)) (lk_1i (lk_1i l11 (by decide)) (by decide)) (lk_1i lk_1s (by decide)) lk_1s hn14
    · replace h := ed_neg q27 h
      refine iq_iconst hS 31 J_MLineRows_thirteen_d30 (v := 0) (by decide +kernel) rfl ?_
      exact iq_iret J_MLineRows_thirteen_d31 rfl rfl ⟨_, rfl, (lw_sI hM), ed_some h⟩
  obtain ⟨k3, Q3, hQ3, hk3, h⟩ := jn0_ed h
  have J3 : ∀  (L' : List (Nat × Value)), im_lk L' 0 = some (.ref 96) → im_lk L' 1 = some (.long p0) → im_lk L' 3 = some (.int p1) → Q3 () → ia (tb_G L xs) (dep + 2) J_MLineRows_thirteen (rwI w Q) (15, L', [.ref 96], M) := by
    intro  L' l5 l6 l7 h
    replace h := hQ3  h
    refine iq_iconst hS 16 J_MLineRows_thirteen_d15 (v := 1) (by decide +kernel) rfl ?_
    refine iq_goto hS J_MLineRows_thirteen_d16 (t := 20) rfl ?_
    exact J2 _ _ l5 l6 l7 (ed_some h)
  refine iq_if_ne hS 8 J_MLineRows_thirteen_d5 (t := 15) rfl (fun q5 => ?_) rfl (fun q5 => ?_)
  · replace h := ed_pos q5 h
    exact J3  _ l0 l1 l3 (hk3  h)
  · replace h := ed_neg q5 h
    refine iq_iload_n hS 9 J_MLineRows_thirteen_d8 l3 rfl ?_
    obtain ⟨Q4, hQ4, h⟩ := bd1_ed h
    refine iq_cpI hS 12 J_MLineRows_thirteen_d9 rfl (pr_stat (vs := [_]) lc_13_205 lT_373 rfl rfl (by decide) rfl (Nat.le_of_ble_eq_true rfl) (Nat.le_of_ble_eq_true rfl)) (f_MLineRows_noModule_ok (dep := dep + 1) hM h) rfl ?_
    intro x4 h
    replace h := hQ4 _ h
    refine iq_if_eq hS 15 J_MLineRows_thirteen_d12 (t := 19) rfl (fun q12 => ?_) rfl (fun q12 => ?_)
    · replace h := ed_pos q12 h
      refine iq_iconst hS 20 J_MLineRows_thirteen_d19 (v := 0) (by decide +kernel) rfl ?_
      exact J2 _ _ l0 l1 l3 (ed_some h)
    · replace h := ed_neg q12 h
      exact J3  _ l0 l1 l3 (hk3  h)
theorem f_MLineRows_thirteen_fr {p0 : Int64} {p1 : Int32} {M : im_M} {r : Int32 × im_M} (h : f_MLineRows_thirteen p0 p1 M = some r) : fr 10141204801825835211973625643008 [(96, 3), (96, 10)] M r.2 := by
  replace h : ed (f_MLineRows_thirteen p0 p1 M) (fun x => x = r) := ⟨r, h, rfl⟩
  unfold f_MLineRows_thirteen at h
  obtain ⟨Q1, hQ1, h⟩ := bd1_ed h
  obtain ⟨x1, e1, h⟩ := h
  replace h := hQ1 _ h
  obtain ⟨Q2, hQ2, h⟩ := bd1_ed h
  have J2 : ∀ (y8 : Int32), Q2 y8 → fr 10141204801825835211973625643008 [(96, 3), (96, 10)] M r.2 := by
    intro y8 h
    replace h := hQ2 _ h
    by_cases q27 : (im_i (im_setI M 96 3 y8) 96 3) ≤ 0
    · replace h := ed_pos q27 h
      obtain ⟨Q12, hQ12, h⟩ := bd2_ed h
      obtain ⟨⟨x12, M12⟩, e12, h⟩ := h
      replace h := hQ12 _ _ h
      obtain ⟨Q13, hQ13, h⟩ := bd1_ed h
      obtain ⟨M13, e13, h⟩ := h
      replace h := hQ13 _ h
      obtain ⟨Q14, hQ14, h⟩ := bd1_ed h
      have K14 : ∀ (M15 : im_M), fr 10141204801825835211973625643008 [(96, 3), (96, 10)] M M15 → Q14 M15 → fr 10141204801825835211973625643008 [(96, 3), (96, 10)] M r.2 := by
        intro M15 hM15 h
        replace h := hQ14 _ h
        obtain ⟨Q16, hQ16, h⟩ := bd1_ed h
        obtain ⟨M16, e16, h⟩ := h
        replace h := hQ16 _ h
        exact fr_ret h (fr_tr (fr_mono (by decide) (by decide +kernel) (f_MLineRows_lay_fr e16)) hM15)
      obtain ⟨r14, hr14, hq14⟩ := h
      obtain ⟨n14, hn14⟩ := lp_n hr14
      have I14 : ∀ (n : Nat) (x17 : Int32) (M18 : im_M), fr 10141204801825835211973625643008 [(96, 3), (96, 10)] M M18 → lpn (uc2 (f_MLineRows_thirteen_L55 p0 p1 x12)) n (x17, M18) = some r14 → fr 10141204801825835211973625643008 [(96, 3), (96, 10)] M r.2 := by
        intro n
        induction n with
        | zero => intro x17 M18 hM18 hn; exact (lpn_0 hn).elim
        | succ n ih =>
          intro x17 M18 hM18 hn
          have h := lpn_ed2 hn
          unfold f_MLineRows_thirteen_L55 at h
          by_cases q59 : 13 < x17
          · replace h := ed_pos q59 h
            exact K14 _ hM18 (lq_r h hq14)
          · replace h := ed_neg q59 h
            obtain ⟨Q19, hQ19, h⟩ := bd1_ed h
            have J19 : ∀ (y21 : Int32), Q19 y21 → fr 10141204801825835211973625643008 [(96, 3), (96, 10)] M r.2 := by
              intro y21 h
              replace h := hQ19 _ h
              obtain ⟨g84, h⟩ := ed_gd h
              obtain ⟨Q27, hQ27, h⟩ := bd1_ed h
              have J27 : ∀ (y38 : Int32), Q27 y38 → fr 10141204801825835211973625643008 [(96, 3), (96, 10)] M r.2 := by
                intro y38 h
                replace h := hQ27 _ h
                obtain ⟨Q44, hQ44, h⟩ := bd1_ed h
                obtain ⟨M44, e44, h⟩ := h
                replace h := hQ44 _ h
                obtain ⟨Q45, hQ45, h⟩ := bd1_ed h
                have J45 : ∀ (M47 : im_M), fr 10141204801825835211973625643008 [(96, 3), (96, 10)] M M47 → Q45 M47 → fr 10141204801825835211973625643008 [(96, 3), (96, 10)] M r.2 := by
                  intro M47 hM47 h
                  replace h := hQ45 _ h
                  exact ih _ _ hM47 (lq_l h)
                by_cases q128 : ¬ x17 = 7
                · replace h := ed_pos q128 h
                  exact J45 _ (fr_tr (fr_mono (by decide) (by decide +kernel) (f_MLineRows_lay_fr e44)) hM18) (ed_some h)
                · replace h := ed_neg q128 h
                  obtain ⟨Q46, hQ46, h⟩ := bd1_ed h
                  obtain ⟨M46, e46, h⟩ := h
                  replace h := hQ46 _ h
                  exact J45 _ (fr_tr (fr_mono (by decide) (by decide +kernel) (f_MLineRows_lay_fr e46)) (fr_tr (fr_mono (by decide) (by decide +kernel) (f_MLineRows_lay_fr e44)) hM18)) (ed_some h)
              obtain ⟨k28, Q28, hQ28, hk28, h⟩ := jn0_ed h
              have J28 : Q28 () → fr 10141204801825835211973625643008 [(96, 3), (96, 10)] M r.2 := by
                intro  h
                replace h := hQ28  h
                exact J27 _ (ed_some h)
              by_cases q92 : 8 ≤ x17
              · replace h := ed_pos q92 h
                exact J28  (hk28  h)
              · replace h := ed_neg q92 h
                obtain ⟨Q29, hQ29, h⟩ := bd1_ed h
                obtain ⟨x29, e29, h⟩ := h
                replace h := hQ29 _ h
                obtain ⟨Q30, hQ30, h⟩ := bd1_ed h
                obtain ⟨x30, e30, h⟩ := h
                replace h := hQ30 _ h
                by_cases q106 : x30 = 0
                · replace h := ed_pos q106 h
                  exact J28  (hk28  h)
                · replace h := ed_neg q106 h
                  obtain ⟨Q31, hQ31, h⟩ := bd1_ed h
                  obtain ⟨x31, e31, h⟩ := h
                  replace h := hQ31 _ h
                  exact J27 _ (ed_some h)
            by_cases q70 : ¬ x17 = 13
            · replace h := ed_pos q70 h
              obtain ⟨Q20, hQ20, h⟩ := bd1_ed h
              obtain ⟨x20, e20, h⟩ := h
              replace h := hQ20 _ h
              exact J19 _ (ed_some h)
            · replace h := ed_neg q70 h
              exact J19 _ (ed_some h)
      exact I14 n14 _ _ (fr_tr (fr_mono (by decide) (by decide +kernel) (f_MLineRows_lay_fr e13)) (fr_F (by decide) (fr_tr (fr_mono (by decide) (by decide +kernel) (f_MLineRows_checkFigure_fr e12)) (fr_F (by decide) fr_refl)))) hn14
    · replace h := ed_neg q27 h
      exact fr_ret h (fr_F (by decide) fr_refl)
  obtain ⟨k3, Q3, hQ3, hk3, h⟩ := jn0_ed h
  have J3 : Q3 () → fr 10141204801825835211973625643008 [(96, 3), (96, 10)] M r.2 := by
    intro  h
    replace h := hQ3  h
    exact J2 _ (ed_some h)
  by_cases q5 : ¬ x1 = 0
  · replace h := ed_pos q5 h
    exact J3  (hk3  h)
  · replace h := ed_neg q5 h
    obtain ⟨Q4, hQ4, h⟩ := bd1_ed h
    obtain ⟨x4, e4, h⟩ := h
    replace h := hQ4 _ h
    by_cases q12 : x4 = 0
    · replace h := ed_pos q12 h
      exact J2 _ (ed_some h)
    · replace h := ed_neg q12 h
      exact J3  (hk3  h)
noncomputable def f_M_draftThirteen_L5 (v2 : Int32) (x3 : Int64) (x4 : Int32) (M5 : im_M) : Option ((Int64 × Int32 × im_M) ⊕ (Int64 × im_M)) := if 12 ≤ x4 then some (.inr (x3, M5)) else bd2 (f_M_byteOf v2 x4 M5) fun (x6 : Int32) (M6 : im_M) => some (.inl (((((10 : Int64) * x3) + (Int32.toInt64 x6)) - 48), (x4 + 1), M6))
noncomputable def f_M_draftThirteen (p0 : Int32) (M : im_M) : Option (im_M) := bd2 (lp (uc3 (f_M_draftThirteen_L5 p0)) (0, 0, M)) fun (y7 : Int64) (M8 : im_M) => bd2 (f_MLineRows_thirteen y7 1 M8) fun (x9 : Int32) (M9 : im_M) => bd1 (f_M_draftWidths M9) fun (M10 : im_M) => some M10
theorem J_M_draftThirteen_d0 : decode J_M_draftThirteen.2.1 0 = .ok (.lconst 0, 1) := by decide +kernel
theorem J_M_draftThirteen_d1 : decode J_M_draftThirteen.2.1 1 = .ok (.lstore_n 2, 1) := by decide +kernel
theorem J_M_draftThirteen_d2 : decode J_M_draftThirteen.2.1 2 = .ok (.iconst 0, 1) := by decide +kernel
theorem J_M_draftThirteen_d3 : decode J_M_draftThirteen.2.1 3 = .ok (.istore 4, 2) := by decide +kernel
theorem J_M_draftThirteen_d5 : decode J_M_draftThirteen.2.1 5 = .ok (.iload 4, 2) := by decide +kernel
theorem J_M_draftThirteen_d7 : decode J_M_draftThirteen.2.1 7 = .ok (.bipush 12, 2) := by decide +kernel
theorem J_M_draftThirteen_d9 : decode J_M_draftThirteen.2.1 9 = .ok (.if_icmp .ge 28, 3) := by decide +kernel
theorem J_M_draftThirteen_d12 : decode J_M_draftThirteen.2.1 12 = .ok (.ldc2_w 127, 3) := by decide +kernel
theorem J_M_draftThirteen_d15 : decode J_M_draftThirteen.2.1 15 = .ok (.lload_n 2, 1) := by decide +kernel
theorem J_M_draftThirteen_d16 : decode J_M_draftThirteen.2.1 16 = .ok (.lmul, 1) := by decide +kernel
theorem J_M_draftThirteen_d17 : decode J_M_draftThirteen.2.1 17 = .ok (.aload_n 0, 1) := by decide +kernel
theorem J_M_draftThirteen_d18 : decode J_M_draftThirteen.2.1 18 = .ok (.iload_n 1, 1) := by decide +kernel
theorem J_M_draftThirteen_d19 : decode J_M_draftThirteen.2.1 19 = .ok (.iload 4, 2) := by decide +kernel
theorem J_M_draftThirteen_d21 : decode J_M_draftThirteen.2.1 21 = .ok (.invokevirtual 105, 3) := by decide +kernel
theorem J_M_draftThirteen_d24 : decode J_M_draftThirteen.2.1 24 = .ok (.i2l, 1) := by decide +kernel
theorem J_M_draftThirteen_d25 : decode J_M_draftThirteen.2.1 25 = .ok (.ladd, 1) := by decide +kernel
theorem J_M_draftThirteen_d26 : decode J_M_draftThirteen.2.1 26 = .ok (.ldc2_w 129, 3) := by decide +kernel
theorem J_M_draftThirteen_d29 : decode J_M_draftThirteen.2.1 29 = .ok (.lsub, 1) := by decide +kernel
theorem J_M_draftThirteen_d30 : decode J_M_draftThirteen.2.1 30 = .ok (.lstore_n 2, 1) := by decide +kernel
theorem J_M_draftThirteen_d31 : decode J_M_draftThirteen.2.1 31 = .ok (.iinc 4 1, 3) := by decide +kernel
theorem J_M_draftThirteen_d34 : decode J_M_draftThirteen.2.1 34 = .ok (.goto (-29), 3) := by decide +kernel
theorem J_M_draftThirteen_d37 : decode J_M_draftThirteen.2.1 37 = .ok (.aload_n 0, 1) := by decide +kernel
theorem J_M_draftThirteen_d38 : decode J_M_draftThirteen.2.1 38 = .ok (.getfield 30, 3) := by decide +kernel
theorem J_M_draftThirteen_d41 : decode J_M_draftThirteen.2.1 41 = .ok (.lload_n 2, 1) := by decide +kernel
theorem J_M_draftThirteen_d42 : decode J_M_draftThirteen.2.1 42 = .ok (.iconst 1, 1) := by decide +kernel
theorem J_M_draftThirteen_d43 : decode J_M_draftThirteen.2.1 43 = .ok (.invokevirtual 131, 3) := by decide +kernel
theorem J_M_draftThirteen_d46 : decode J_M_draftThirteen.2.1 46 = .ok (.istore 4, 2) := by decide +kernel
theorem J_M_draftThirteen_d48 : decode J_M_draftThirteen.2.1 48 = .ok (.aload_n 0, 1) := by decide +kernel
theorem J_M_draftThirteen_d49 : decode J_M_draftThirteen.2.1 49 = .ok (.invokevirtual 124, 3) := by decide +kernel
theorem J_M_draftThirteen_d52 : decode J_M_draftThirteen.2.1 52 = .ok (.return_, 1) := by decide +kernel
theorem f_M_draftThirteen_ok {L : Nat} {xs : Nat → Int32} {dep : Nat} {w : Bool} {p0 : Int32} {M : im_M} {Q : im_M → Prop} (hM : lw_S w M) (h : ed (f_M_draftThirteen p0 M) Q) : ia (tb_G L xs) (dep + 3) J_M_draftThirteen (rwV w Q) (0, lv_args 0 [.ref 69, .int p0], [], M) := by
  have hS : im_St (tb_G L xs) (dep + 3) J_M_draftThirteen (ia (tb_G L xs) (dep + 3) J_M_draftThirteen (rwV w Q)) := ia_St
  unfold f_M_draftThirteen at h
  have l0 : im_lk (lv_args 0 [.ref 69, .int p0]) 0 = some (.ref 69) := rfl
  have l1 : im_lk (lv_args 0 [.ref 69, .int p0]) 1 = some (.int p0) := rfl
  refine iq_lconst hS 1 J_M_draftThirteen_d0 (v := 0) (by decide +kernel) rfl ?_
  refine iq_lstore_n hS 2 J_M_draftThirteen_d1 (by decide) rfl ?_
  refine iq_iconst hS 3 J_M_draftThirteen_d2 (v := 0) (by decide +kernel) rfl ?_
  refine iq_istore hS 5 J_M_draftThirteen_d3 (by decide) rfl ?_
  obtain ⟨Q1, hQ1, h⟩ := bd2_ed h
  have K1 : ∀ (y2 : Int64) (M3 : im_M) (L' : List (Nat × Value)), lw_S w M3 → im_lk L' 0 = some (.ref 69) → im_lk L' 2 = some (.long y2) → Q1 (y2, M3) → ia (tb_G L xs) (dep + 3) J_M_draftThirteen (rwV w Q) (37, L', [], M3) := by
    intro y2 M3 L' hM3 l4 l5 h
    replace h := hQ1 _ _ h
    refine iq_aload_n hS 38 J_M_draftThirteen_d37 l4 rfl ?_
    refine iq_getR hS 41 J_M_draftThirteen_d38 lf_17_30 (Or.inl ⟨_, rfl⟩) (ka_69 hM3) (ra_69_5 hM3) rfl ?_
    refine iq_lload_n hS 42 J_M_draftThirteen_d41 l5 rfl ?_
    refine iq_iconst hS 43 J_M_draftThirteen_d42 (v := 1) (by decide +kernel) rfl ?_
    obtain ⟨Q6, hQ6, h⟩ := bd2_ed h
    refine iq_cwI hS 46 J_M_draftThirteen_d43 rfl (pr_inst (vs := [_, _]) lc_17_131 lT_379 rfl rfl (by decide) (by decide) rfl (Nat.le_of_ble_eq_true rfl) (Nat.le_of_ble_eq_true rfl) (fun _ => Or.inl (pr_b (ka_96 hM3) (by decide) rfl))) (f_MLineRows_thirteen_ok (dep := dep + 0) hM3 h) rfl ?_
    intro x6 M6 hM6 h
    replace h := hQ6 _ _ h
    refine iq_istore hS 48 J_M_draftThirteen_d46 (by decide) rfl ?_
    refine iq_aload_n hS 49 J_M_draftThirteen_d48 (lk_1r l4 (by decide)) rfl ?_
    obtain ⟨Q7, hQ7, h⟩ := bd1_ed h
    refine iq_cwV hS 52 J_M_draftThirteen_d49 rfl (pr_inst (vs := []) lc_17_124 lT_375 rfl rfl (by decide) (by decide) rfl (Nat.le_of_ble_eq_true rfl) (Nat.le_of_ble_eq_true rfl) (fun _ => Or.inl (pr_b (ka_69 hM6) (by decide) rfl))) (f_M_draftWidths_ok (dep := dep + 0) hM6 h) rfl ?_
    intro M7 hM7 h
    replace h := hQ7 _ h
    exact iq_ret J_M_draftThirteen_d52 rfl ⟨rfl, hM7, ed_some h⟩
  obtain ⟨r1, hr1, hq1⟩ := h
  obtain ⟨n1, hn1⟩ := lp_n hr1
  have I1 : ∀ (n : Nat) (x8 : Int64) (x9 : Int32) (M10 : im_M) (L' : List (Nat × Value)), lw_S w M10 → im_lk L' 0 = some (.ref 69) → im_lk L' 1 = some (.int p0) → im_lk L' 2 = some (.long x8) → im_lk L' 4 = some (.int x9) → lpn (uc3 (f_M_draftThirteen_L5 p0)) n (x8, x9, M10) = some r1 → ia (tb_G L xs) (dep + 3) J_M_draftThirteen (rwV w Q) (5, L', [], M10) := by
    intro n
    induction n with
    | zero => intro x8 x9 M10 L' hM10 l11 l12 l13 l14 hn; exact (lpn_0 hn).elim
    | succ n ih =>
      intro x8 x9 M10 L' hM10 l11 l12 l13 l14 hn
      have h := lpn_ed3 hn
      unfold f_M_draftThirteen_L5 at h
      refine iq_iload hS 7 J_M_draftThirteen_d5 l14 rfl ?_
      refine iq_bipush hS 9 J_M_draftThirteen_d7 (v := 12) (by decide +kernel) rfl ?_
      refine iq_icmp_ge hS 12 J_M_draftThirteen_d9 (t := 37) rfl (fun q9 => ?_) rfl (fun q9 => ?_)
      · replace h := ed_pos q9 h
        exact K1 _ _ _ hM10 l11 l13 (lq_r h hq1)
      · replace h := ed_neg q9 h
        refine iq_ldc2_w hS 15 J_M_draftThirteen_d12 lk_17_127 rfl ?_
        refine iq_lload_n hS 16 J_M_draftThirteen_d15 l13 rfl ?_
        refine iq_lmul hS 17 J_M_draftThirteen_d16 rfl ?_
        refine iq_aload_n hS 18 J_M_draftThirteen_d17 l11 rfl ?_
        refine iq_iload_n hS 19 J_M_draftThirteen_d18 l12 rfl ?_
        refine iq_iload hS 21 J_M_draftThirteen_d19 l14 rfl ?_
        obtain ⟨Q15, hQ15, h⟩ := bd2_ed h
        refine iq_cwI hS 24 J_M_draftThirteen_d21 rfl (pr_inst (vs := [_, _]) lc_17_105 lT_336 rfl rfl (by decide) (by decide) rfl (Nat.le_of_ble_eq_true rfl) (Nat.le_of_ble_eq_true rfl) (fun _ => Or.inl (pr_b (ka_69 hM10) (by decide) rfl))) (f_M_byteOf_ok (dep := dep + 1) hM10 h) rfl ?_
        intro x15 M15 hM15 h
        replace h := hQ15 _ _ h
        refine iq_i2l hS 25 J_M_draftThirteen_d24 rfl ?_
        refine iq_ladd hS 26 J_M_draftThirteen_d25 rfl ?_
        refine iq_ldc2_w hS 29 J_M_draftThirteen_d26 lk_17_129 rfl ?_
        refine iq_lsub hS 30 J_M_draftThirteen_d29 rfl ?_
        refine iq_lstore_n hS 31 J_M_draftThirteen_d30 (by decide) rfl ?_
        refine iq_iincv hS 34 J_M_draftThirteen_d31 (c := 1) (by decide +kernel) (lk_2i l14 (by decide) (by decide)) (by decide) rfl ?_
        refine iq_goto hS J_M_draftThirteen_d34 (t := 5) rfl ?_
        exact ih _ _ _ _ hM15 (lk_1r (lk_2r l11 (by decide) (by decide)) (by decide)) (lk_1i (lk_2i l12 (by decide) (by decide)) (by decide)) (lk_1l lk_2s (by decide) (by decide)) lk_1s (lq_l h)
  exact I1 n1 _ _ _ _ hM (lk_1r (lk_2r l0 (by decide) (by decide)) (by decide)) (lk_1i (lk_2i l1 (by decide) (by decide)) (by decide)) (lk_1l lk_2s (by decide) (by decide)) lk_1s hn1
theorem f_M_draftThirteen_fr {p0 : Int32} {M : im_M} {r : im_M} (h : f_M_draftThirteen p0 M = some r) : fr 10146156561982976733073222139904 [(71, 0), (89, 0), (89, 7), (96, 3), (96, 10)] M r := by
  replace h : ed (f_M_draftThirteen p0 M) (fun x => x = r) := ⟨r, h, rfl⟩
  unfold f_M_draftThirteen at h
  obtain ⟨Q1, hQ1, h⟩ := bd2_ed h
  have K1 : ∀ (y2 : Int64) (M3 : im_M), fr 10146156561982976733073222139904 [(71, 0), (89, 0), (89, 7), (96, 3), (96, 10)] M M3 → Q1 (y2, M3) → fr 10146156561982976733073222139904 [(71, 0), (89, 0), (89, 7), (96, 3), (96, 10)] M r := by
    intro y2 M3 hM3 h
    replace h := hQ1 _ _ h
    obtain ⟨Q4, hQ4, h⟩ := bd2_ed h
    obtain ⟨⟨x4, M4⟩, e4, h⟩ := h
    replace h := hQ4 _ _ h
    obtain ⟨Q5, hQ5, h⟩ := bd1_ed h
    obtain ⟨M5, e5, h⟩ := h
    replace h := hQ5 _ h
    exact fr_retV h (fr_tr (fr_mono (by decide) (by decide +kernel) (f_M_draftWidths_fr e5)) (fr_tr (fr_mono (by decide) (by decide +kernel) (f_MLineRows_thirteen_fr e4)) hM3))
  obtain ⟨r1, hr1, hq1⟩ := h
  obtain ⟨n1, hn1⟩ := lp_n hr1
  have I1 : ∀ (n : Nat) (x6 : Int64) (x7 : Int32) (M8 : im_M), fr 10146156561982976733073222139904 [(71, 0), (89, 0), (89, 7), (96, 3), (96, 10)] M M8 → lpn (uc3 (f_M_draftThirteen_L5 p0)) n (x6, x7, M8) = some r1 → fr 10146156561982976733073222139904 [(71, 0), (89, 0), (89, 7), (96, 3), (96, 10)] M r := by
    intro n
    induction n with
    | zero => intro x6 x7 M8 hM8 hn; exact (lpn_0 hn).elim
    | succ n ih =>
      intro x6 x7 M8 hM8 hn
      have h := lpn_ed3 hn
      unfold f_M_draftThirteen_L5 at h
      by_cases q9 : 12 ≤ x7
      · replace h := ed_pos q9 h
        exact K1 _ _ hM8 (lq_r h hq1)
      · replace h := ed_neg q9 h
        obtain ⟨Q9, hQ9, h⟩ := bd2_ed h
        obtain ⟨⟨x9, M9⟩, e9, h⟩ := h
        replace h := hQ9 _ _ h
        exact ih _ _ _ (fr_tr (fr_mono (by decide) (by decide +kernel) (f_M_byteOf_fr e9)) hM8) (lq_l h)
  exact I1 n1 _ _ _ fr_refl hn1
noncomputable def f_MSquareRows_wipe (M : im_M) : Option (Int32 × im_M) := some ((im_i (im_setI M 108 0 0) 108 4), (im_setI (im_setI M 108 0 0) 108 4 0))
theorem J_MSquareRows_wipe_d0 : decode J_MSquareRows_wipe.2.1 0 = .ok (.aload_n 0, 1) := by decide +kernel
theorem J_MSquareRows_wipe_d1 : decode J_MSquareRows_wipe.2.1 1 = .ok (.iconst 0, 1) := by decide +kernel
theorem J_MSquareRows_wipe_d2 : decode J_MSquareRows_wipe.2.1 2 = .ok (.putfield 73, 3) := by decide +kernel
theorem J_MSquareRows_wipe_d5 : decode J_MSquareRows_wipe.2.1 5 = .ok (.aload_n 0, 1) := by decide +kernel
theorem J_MSquareRows_wipe_d6 : decode J_MSquareRows_wipe.2.1 6 = .ok (.getfield 77, 3) := by decide +kernel
theorem J_MSquareRows_wipe_d9 : decode J_MSquareRows_wipe.2.1 9 = .ok (.istore_n 1, 1) := by decide +kernel
theorem J_MSquareRows_wipe_d10 : decode J_MSquareRows_wipe.2.1 10 = .ok (.aload_n 0, 1) := by decide +kernel
theorem J_MSquareRows_wipe_d11 : decode J_MSquareRows_wipe.2.1 11 = .ok (.iconst 0, 1) := by decide +kernel
theorem J_MSquareRows_wipe_d12 : decode J_MSquareRows_wipe.2.1 12 = .ok (.putfield 77, 3) := by decide +kernel
theorem J_MSquareRows_wipe_d15 : decode J_MSquareRows_wipe.2.1 15 = .ok (.iload_n 1, 1) := by decide +kernel
theorem J_MSquareRows_wipe_d16 : decode J_MSquareRows_wipe.2.1 16 = .ok (.ireturn, 1) := by decide +kernel
theorem f_MSquareRows_wipe_ok {L : Nat} {xs : Nat → Int32} {dep : Nat} {w : Bool} {M : im_M} {Q : Int32 × im_M → Prop} (hM : lw_S w M) (h : ed (f_MSquareRows_wipe M) Q) : ia (tb_G L xs) dep J_MSquareRows_wipe (rwI w Q) (0, lv_args 0 [.ref 108], [], M) := by
  have hS : im_St (tb_G L xs) dep J_MSquareRows_wipe (ia (tb_G L xs) dep J_MSquareRows_wipe (rwI w Q)) := ia_St
  unfold f_MSquareRows_wipe at h
  have l0 : im_lk (lv_args 0 [.ref 108]) 0 = some (.ref 108) := rfl
  refine iq_aload_n hS 1 J_MSquareRows_wipe_d0 l0 rfl ?_
  refine iq_iconst hS 2 J_MSquareRows_wipe_d1 (v := 0) (by decide +kernel) rfl ?_
  refine iq_putI hS 5 J_MSquareRows_wipe_d2 lf_16_73 (Or.inl rfl) rfl (ka_108 hM) rfl ?_
  refine iq_aload_n hS 6 J_MSquareRows_wipe_d5 l0 rfl ?_
  refine iq_getI hS 9 J_MSquareRows_wipe_d6 lf_16_77 (Or.inl rfl) (ka_108 (lw_sI hM)) rfl ?_
  refine iq_istore_n hS 10 J_MSquareRows_wipe_d9 (by decide) rfl ?_
  refine iq_aload_n hS 11 J_MSquareRows_wipe_d10 (lk_1r l0 (by decide)) rfl ?_
  refine iq_iconst hS 12 J_MSquareRows_wipe_d11 (v := 0) (by decide +kernel) rfl ?_
  refine iq_putI hS 15 J_MSquareRows_wipe_d12 lf_16_77 (Or.inl rfl) rfl (ka_108 (lw_sI hM)) rfl ?_
  refine iq_iload_n hS 16 J_MSquareRows_wipe_d15 lk_1s rfl ?_
  exact iq_iret J_MSquareRows_wipe_d16 rfl rfl ⟨_, rfl, (lw_sI (lw_sI hM)), ed_some h⟩
theorem f_MSquareRows_wipe_fr {M : im_M} {r : Int32 × im_M} (h : f_MSquareRows_wipe M = some r) : fr 0 [(108, 0), (108, 4)] M r.2 := by
  replace h : ed (f_MSquareRows_wipe M) (fun x => x = r) := ⟨r, h, rfl⟩
  unfold f_MSquareRows_wipe at h
  exact fr_ret h (fr_F (by decide) (fr_F (by decide) fr_refl))
noncomputable def f_MSquareRows_put_L46 (v3 : Int32) (v4 : Int64) (x5 : Int32) (M6 : im_M) : Option ((Int32 × im_M) ⊕ (im_M)) := if v3 ≤ x5 then some (.inr M6) else gd (inb (im_i M6 108 4) 3000) <| some (.inl ((x5 + 1), (im_setI (im_setI M6 111 (Int32.toNatClampNeg (im_i M6 108 4)) (Int64.toInt32 ((v4 >>> (Int32.toInt64 ((8 : Int32) * x5) &&& 63) : Int64) &&& 255))) 108 4 ((im_i (im_setI M6 111 (Int32.toNatClampNeg (im_i M6 108 4)) (Int64.toInt32 ((v4 >>> (Int32.toInt64 ((8 : Int32) * x5) &&& 63) : Int64) &&& 255))) 108 4) + 1))))
noncomputable def f_MSquareRows_put (p0 : Int32) (p1 : Int64) (M : im_M) : Option (Int32 × im_M) := if (im_i (im_setI M 108 0 ((if p0 < 1 then 1 else (if p0 ≤ 8 then 0 else 1)) : Int32)) 108 0) ≤ 0 then if ((im_i (im_setI M 108 0 ((if p0 < 1 then 1 else (if p0 ≤ 8 then 0 else 1)) : Int32)) 108 4) + p0) ≤ 3000 then bd1 (lp (uc2 (f_MSquareRows_put_L46 p0 p1)) (0, (im_setI M 108 0 ((if p0 < 1 then 1 else (if p0 ≤ 8 then 0 else 1)) : Int32)))) fun (M7 : im_M) => some ((im_i M7 108 4), M7) else some ((-1), (im_setI M 108 0 ((if p0 < 1 then 1 else (if p0 ≤ 8 then 0 else 1)) : Int32))) else some (0, (im_setI M 108 0 ((if p0 < 1 then 1 else (if p0 ≤ 8 then 0 else 1)) : Int32)))
theorem J_MSquareRows_put_d0 : decode J_MSquareRows_put.2.1 0 = .ok (.aload_n 0, 1) := by decide +kernel
theorem J_MSquareRows_put_d1 : decode J_MSquareRows_put.2.1 1 = .ok (.iload_n 1, 1) := by decide +kernel
theorem J_MSquareRows_put_d2 : decode J_MSquareRows_put.2.1 2 = .ok (.iconst 1, 1) := by decide +kernel
theorem J_MSquareRows_put_d3 : decode J_MSquareRows_put.2.1 3 = .ok (.if_icmp .lt 9, 3) := by decide +kernel
theorem J_MSquareRows_put_d6 : decode J_MSquareRows_put.2.1 6 = .ok (.iload_n 1, 1) := by decide +kernel
theorem J_MSquareRows_put_d7 : decode J_MSquareRows_put.2.1 7 = .ok (.bipush 8, 2) := by decide +kernel
theorem J_MSquareRows_put_d9 : decode J_MSquareRows_put.2.1 9 = .ok (.if_icmp .le 7, 3) := by decide +kernel
theorem J_MSquareRows_put_d12 : decode J_MSquareRows_put.2.1 12 = .ok (.iconst 1, 1) := by decide +kernel
theorem J_MSquareRows_put_d13 : decode J_MSquareRows_put.2.1 13 = .ok (.goto 4, 3) := by decide +kernel
theorem J_MSquareRows_put_d16 : decode J_MSquareRows_put.2.1 16 = .ok (.iconst 0, 1) := by decide +kernel
theorem J_MSquareRows_put_d17 : decode J_MSquareRows_put.2.1 17 = .ok (.putfield 73, 3) := by decide +kernel
theorem J_MSquareRows_put_d20 : decode J_MSquareRows_put.2.1 20 = .ok (.aload_n 0, 1) := by decide +kernel
theorem J_MSquareRows_put_d21 : decode J_MSquareRows_put.2.1 21 = .ok (.getfield 73, 3) := by decide +kernel
theorem J_MSquareRows_put_d24 : decode J_MSquareRows_put.2.1 24 = .ok (.ifCond .le 5, 3) := by decide +kernel
theorem J_MSquareRows_put_d27 : decode J_MSquareRows_put.2.1 27 = .ok (.iconst 0, 1) := by decide +kernel
theorem J_MSquareRows_put_d28 : decode J_MSquareRows_put.2.1 28 = .ok (.ireturn, 1) := by decide +kernel
theorem J_MSquareRows_put_d29 : decode J_MSquareRows_put.2.1 29 = .ok (.aload_n 0, 1) := by decide +kernel
theorem J_MSquareRows_put_d30 : decode J_MSquareRows_put.2.1 30 = .ok (.getfield 77, 3) := by decide +kernel
theorem J_MSquareRows_put_d33 : decode J_MSquareRows_put.2.1 33 = .ok (.iload_n 1, 1) := by decide +kernel
theorem J_MSquareRows_put_d34 : decode J_MSquareRows_put.2.1 34 = .ok (.iadd, 1) := by decide +kernel
theorem J_MSquareRows_put_d35 : decode J_MSquareRows_put.2.1 35 = .ok (.sipush 3000, 3) := by decide +kernel
theorem J_MSquareRows_put_d38 : decode J_MSquareRows_put.2.1 38 = .ok (.if_icmp .le 5, 3) := by decide +kernel
theorem J_MSquareRows_put_d41 : decode J_MSquareRows_put.2.1 41 = .ok (.iconst (-1), 1) := by decide +kernel
theorem J_MSquareRows_put_d42 : decode J_MSquareRows_put.2.1 42 = .ok (.ireturn, 1) := by decide +kernel
theorem J_MSquareRows_put_d43 : decode J_MSquareRows_put.2.1 43 = .ok (.iconst 0, 1) := by decide +kernel
theorem J_MSquareRows_put_d44 : decode J_MSquareRows_put.2.1 44 = .ok (.istore 4, 2) := by decide +kernel
theorem J_MSquareRows_put_d46 : decode J_MSquareRows_put.2.1 46 = .ok (.iload 4, 2) := by decide +kernel
theorem J_MSquareRows_put_d48 : decode J_MSquareRows_put.2.1 48 = .ok (.iload_n 1, 1) := by decide +kernel
theorem J_MSquareRows_put_d49 : decode J_MSquareRows_put.2.1 49 = .ok (.if_icmp .ge 40, 3) := by decide +kernel
theorem J_MSquareRows_put_d52 : decode J_MSquareRows_put.2.1 52 = .ok (.aload_n 0, 1) := by decide +kernel
theorem J_MSquareRows_put_d53 : decode J_MSquareRows_put.2.1 53 = .ok (.getfield 16, 3) := by decide +kernel
theorem J_MSquareRows_put_d56 : decode J_MSquareRows_put.2.1 56 = .ok (.aload_n 0, 1) := by decide +kernel
theorem J_MSquareRows_put_d57 : decode J_MSquareRows_put.2.1 57 = .ok (.getfield 77, 3) := by decide +kernel
theorem J_MSquareRows_put_d60 : decode J_MSquareRows_put.2.1 60 = .ok (.lload_n 2, 1) := by decide +kernel
theorem J_MSquareRows_put_d61 : decode J_MSquareRows_put.2.1 61 = .ok (.bipush 8, 2) := by decide +kernel
theorem J_MSquareRows_put_d63 : decode J_MSquareRows_put.2.1 63 = .ok (.iload 4, 2) := by decide +kernel
theorem J_MSquareRows_put_d65 : decode J_MSquareRows_put.2.1 65 = .ok (.imul, 1) := by decide +kernel
theorem J_MSquareRows_put_d66 : decode J_MSquareRows_put.2.1 66 = .ok (.lshr, 1) := by decide +kernel
theorem J_MSquareRows_put_d67 : decode J_MSquareRows_put.2.1 67 = .ok (.ldc2_w 80, 3) := by decide +kernel
theorem J_MSquareRows_put_d70 : decode J_MSquareRows_put.2.1 70 = .ok (.land, 1) := by decide +kernel
theorem J_MSquareRows_put_d71 : decode J_MSquareRows_put.2.1 71 = .ok (.l2i, 1) := by decide +kernel
theorem J_MSquareRows_put_d72 : decode J_MSquareRows_put.2.1 72 = .ok (.iastore, 1) := by decide +kernel
theorem J_MSquareRows_put_d73 : decode J_MSquareRows_put.2.1 73 = .ok (.aload_n 0, 1) := by decide +kernel
theorem J_MSquareRows_put_d74 : decode J_MSquareRows_put.2.1 74 = .ok (.dup, 1) := by decide +kernel
theorem J_MSquareRows_put_d75 : decode J_MSquareRows_put.2.1 75 = .ok (.getfield 77, 3) := by decide +kernel
theorem J_MSquareRows_put_d78 : decode J_MSquareRows_put.2.1 78 = .ok (.iconst 1, 1) := by decide +kernel
theorem J_MSquareRows_put_d79 : decode J_MSquareRows_put.2.1 79 = .ok (.iadd, 1) := by decide +kernel
theorem J_MSquareRows_put_d80 : decode J_MSquareRows_put.2.1 80 = .ok (.putfield 77, 3) := by decide +kernel
theorem J_MSquareRows_put_d83 : decode J_MSquareRows_put.2.1 83 = .ok (.iinc 4 1, 3) := by decide +kernel
theorem J_MSquareRows_put_d86 : decode J_MSquareRows_put.2.1 86 = .ok (.goto (-40), 3) := by decide +kernel
theorem J_MSquareRows_put_d89 : decode J_MSquareRows_put.2.1 89 = .ok (.aload_n 0, 1) := by decide +kernel
theorem J_MSquareRows_put_d90 : decode J_MSquareRows_put.2.1 90 = .ok (.getfield 77, 3) := by decide +kernel
theorem J_MSquareRows_put_d93 : decode J_MSquareRows_put.2.1 93 = .ok (.ireturn, 1) := by decide +kernel
theorem f_MSquareRows_put_ok {L : Nat} {xs : Nat → Int32} {dep : Nat} {w : Bool} {p0 : Int32} {p1 : Int64} {M : im_M} {Q : Int32 × im_M → Prop} (hM : lw_S w M) (h : ed (f_MSquareRows_put p0 p1 M) Q) : ia (tb_G L xs) dep J_MSquareRows_put (rwI w Q) (0, lv_args 0 [.ref 108, .int p0, .long p1], [], M) := by
  have hS : im_St (tb_G L xs) dep J_MSquareRows_put (ia (tb_G L xs) dep J_MSquareRows_put (rwI w Q)) := ia_St
  unfold f_MSquareRows_put at h
  have l0 : im_lk (lv_args 0 [.ref 108, .int p0, .long p1]) 0 = some (.ref 108) := rfl
  have l1 : im_lk (lv_args 0 [.ref 108, .int p0, .long p1]) 1 = some (.int p0) := rfl
  have l2 : im_lk (lv_args 0 [.ref 108, .int p0, .long p1]) 2 = some (.long p1) := rfl
  refine iq_aload_n hS 1 J_MSquareRows_put_d0 l0 rfl ?_
  refine iq_iload_n hS 2 J_MSquareRows_put_d1 l1 rfl ?_
  refine iq_iconst hS 3 J_MSquareRows_put_d2 (v := 1) (by decide +kernel) rfl ?_
  have J1 : ∀ (z2 : Int32) (L' : List (Nat × Value)), z2 = ((if p0 < 1 then 1 else (if p0 ≤ 8 then 0 else 1)) : Int32) → im_lk L' 0 = some (.ref 108) → im_lk L' 1 = some (.int p0) → im_lk L' 2 = some (.long p1) → ia (tb_G L xs) dep J_MSquareRows_put (rwI w Q) (17, L', [.int z2, .ref 108], M) := by
    intro z2 L' e3 l4 l5 l6
    subst e3
    refine iq_putI hS 20 J_MSquareRows_put_d17 lf_16_73 (Or.inl rfl) rfl (ka_108 hM) rfl ?_
    refine iq_aload_n hS 21 J_MSquareRows_put_d20 l4 rfl ?_
    refine iq_getI hS 24 J_MSquareRows_put_d21 lf_16_73 (Or.inl rfl) (ka_108 (lw_sI hM)) rfl ?_
    refine iq_if_le hS 27 J_MSquareRows_put_d24 (t := 29) rfl (fun q24 => ?_) rfl (fun q24 => ?_)
    · replace h := ed_pos q24 h
      refine iq_aload_n hS 30 J_MSquareRows_put_d29 l4 rfl ?_
      refine iq_getI hS 33 J_MSquareRows_put_d30 lf_16_77 (Or.inl rfl) (ka_108 (lw_sI hM)) rfl ?_
      refine iq_iload_n hS 34 J_MSquareRows_put_d33 l5 rfl ?_
      refine iq_iadd hS 35 J_MSquareRows_put_d34 rfl ?_
      refine iq_sipush hS 38 J_MSquareRows_put_d35 (v := 3000) (by decide +kernel) rfl ?_
      refine iq_icmp_le hS 41 J_MSquareRows_put_d38 (t := 43) rfl (fun q38 => ?_) rfl (fun q38 => ?_)
      · replace h := ed_pos q38 h
        refine iq_iconst hS 44 J_MSquareRows_put_d43 (v := 0) (by decide +kernel) rfl ?_
        refine iq_istore hS 46 J_MSquareRows_put_d44 (by decide) rfl ?_
        obtain ⟨Q7, hQ7, h⟩ := bd1_ed h
        have K7 : ∀ (M8 : im_M) (L' : List (Nat × Value)), lw_S w M8 → im_lk L' 0 = some (.ref 108) → Q7 M8 → ia (tb_G L xs) dep J_MSquareRows_put (rwI w Q) (89, L', [], M8) := by
          intro M8 L' hM8 l9 h
          replace h := hQ7 _ h
          refine iq_aload_n hS 90 J_MSquareRows_put_d89 l9 rfl ?_
          refine iq_getI hS 93 J_MSquareRows_put_d90 lf_16_77 (Or.inl rfl) (ka_108 hM8) rfl ?_
          exact iq_iret J_MSquareRows_put_d93 rfl rfl ⟨_, rfl, hM8, ed_some h⟩
        obtain ⟨r7, hr7, hq7⟩ := h
        obtain ⟨n7, hn7⟩ := lp_n hr7
        have I7 : ∀ (n : Nat) (x10 : Int32) (M11 : im_M) (L' : List (Nat × Value)), lw_S w M11 → im_lk L' 0 = some (.ref 108) → im_lk L' 1 = some (.int p0) → im_lk L' 2 = some (.long p1) → im_lk L' 4 = some (.int x10) → lpn (uc2 (f_MSquareRows_put_L46 p0 p1)) n (x10, M11) = some r7 → ia (tb_G L xs) dep J_MSquareRows_put (rwI w Q) (46, L', [], M11) := by
          intro n
          induction n with
          | zero => intro x10 M11 L' hM11 l12 l13 l14 l15 hn; exact (lpn_0 hn).elim
          | succ n ih =>
            intro x10 M11 L' hM11 l12 l13 l14 l15 hn
            have h := lpn_ed2 hn
            unfold f_MSquareRows_put_L46 at h
            refine iq_iload hS 48 J_MSquareRows_put_d46 l15 rfl ?_
            refine iq_iload_n hS 49 J_MSquareRows_put_d48 l13 rfl ?_
            refine iq_icmp_ge hS 52 J_MSquareRows_put_d49 (t := 89) rfl (fun q49 => ?_) rfl (fun q49 => ?_)
            · replace h := ed_pos q49 h
              exact K7 _ _ hM11 l12 (lq_r h hq7)
            · replace h := ed_neg q49 h
              refine iq_aload_n hS 53 J_MSquareRows_put_d52 l12 rfl ?_
              refine iq_getR hS 56 J_MSquareRows_put_d53 lf_16_16 (Or.inr ⟨_, rfl⟩) (ka_108 hM11) (ra_108_3 hM11) rfl ?_
              refine iq_aload_n hS 57 J_MSquareRows_put_d56 l12 rfl ?_
              refine iq_getI hS 60 J_MSquareRows_put_d57 lf_16_77 (Or.inl rfl) (ka_108 hM11) rfl ?_
              refine iq_lload_n hS 61 J_MSquareRows_put_d60 l14 rfl ?_
              refine iq_bipush hS 63 J_MSquareRows_put_d61 (v := 8) (by decide +kernel) rfl ?_
              refine iq_iload hS 65 J_MSquareRows_put_d63 l15 rfl ?_
              refine iq_imul hS 66 J_MSquareRows_put_d65 rfl ?_
              refine iq_lshr hS 67 J_MSquareRows_put_d66 rfl ?_
              refine iq_ldc2_w hS 70 J_MSquareRows_put_d67 lk_16_80 rfl ?_
              refine iq_land hS 71 J_MSquareRows_put_d70 rfl ?_
              refine iq_l2i hS 72 J_MSquareRows_put_d71 rfl ?_
              obtain ⟨g72, h⟩ := ed_gd h
              refine iq_iastore hS 73 J_MSquareRows_put_d72 ⟨(ka_111 hM11).1, (ka_111 hM11).2, g72.1, ix_lt (kl_111 hM11) g72.2⟩ rfl ?_
              refine iq_aload_n hS 74 J_MSquareRows_put_d73 l12 rfl ?_
              refine iq_dup hS 75 J_MSquareRows_put_d74 rfl rfl ?_
              refine iq_getI hS 78 J_MSquareRows_put_d75 lf_16_77 (Or.inl rfl) (ka_108 (lw_sI hM11)) rfl ?_
              refine iq_iconst hS 79 J_MSquareRows_put_d78 (v := 1) (by decide +kernel) rfl ?_
              refine iq_iadd hS 80 J_MSquareRows_put_d79 rfl ?_
              refine iq_putI hS 83 J_MSquareRows_put_d80 lf_16_77 (Or.inl rfl) rfl (ka_108 (lw_sI hM11)) rfl ?_
              refine iq_iincv hS 86 J_MSquareRows_put_d83 (c := 1) (by decide +kernel) l15 (by decide) rfl ?_
              refine iq_goto hS J_MSquareRows_put_d86 (t := 46) rfl ?_
              exact ih _ _ _ (lw_sI (lw_sI hM11)) (lk_1r l12 (by decide)) (lk_1i l13 (by decide)) (lk_1l l14 (by decide) (by decide)) lk_1s (lq_l h)
        exact I7 n7 _ _ _ (lw_sI hM) (lk_1r l4 (by decide)) (lk_1i l5 (by decide)) (lk_1l l6 (by decide) (by decide)) lk_1s hn7
      · replace h := ed_neg q38 h
        refine iq_iconst hS 42 J_MSquareRows_put_d41 (v := (-1)) (by decide +kernel) rfl ?_
        exact iq_iret J_MSquareRows_put_d42 rfl rfl ⟨_, rfl, (lw_sI hM), ed_some h⟩
    · replace h := ed_neg q24 h
      refine iq_iconst hS 28 J_MSquareRows_put_d27 (v := 0) (by decide +kernel) rfl ?_
      exact iq_iret J_MSquareRows_put_d28 rfl rfl ⟨_, rfl, (lw_sI hM), ed_some h⟩
  refine iq_icmp_lt hS 6 J_MSquareRows_put_d3 (t := 12) rfl (fun q3 => ?_) rfl (fun q3 => ?_)
  · refine iq_iconst hS 13 J_MSquareRows_put_d12 (v := 1) (by decide +kernel) rfl ?_
    refine iq_goto hS J_MSquareRows_put_d13 (t := 17) rfl ?_
    exact J1 _ _ (by simp only [if_pos q3]) l0 l1 l2
  · refine iq_iload_n hS 7 J_MSquareRows_put_d6 l1 rfl ?_
    refine iq_bipush hS 9 J_MSquareRows_put_d7 (v := 8) (by decide +kernel) rfl ?_
    refine iq_icmp_le hS 12 J_MSquareRows_put_d9 (t := 16) rfl (fun q9 => ?_) rfl (fun q9 => ?_)
    · refine iq_iconst hS 17 J_MSquareRows_put_d16 (v := 0) (by decide +kernel) rfl ?_
      exact J1 _ _ (by simp only [if_neg q3, if_pos q9]) l0 l1 l2
    · refine iq_iconst hS 13 J_MSquareRows_put_d12 (v := 1) (by decide +kernel) rfl ?_
      refine iq_goto hS J_MSquareRows_put_d13 (t := 17) rfl ?_
      exact J1 _ _ (by simp only [if_neg q3, if_neg q9]) l0 l1 l2
theorem f_MSquareRows_put_fr {p0 : Int32} {p1 : Int64} {M : im_M} {r : Int32 × im_M} (h : f_MSquareRows_put p0 p1 M = some r) : fr 2596148429267413814265248164610048 [(108, 0), (108, 4)] M r.2 := by
  replace h : ed (f_MSquareRows_put p0 p1 M) (fun x => x = r) := ⟨r, h, rfl⟩
  unfold f_MSquareRows_put at h
  by_cases q24 : (im_i (im_setI M 108 0 ((if p0 < 1 then 1 else (if p0 ≤ 8 then 0 else 1)) : Int32)) 108 0) ≤ 0
  · replace h := ed_pos q24 h
    by_cases q38 : ((im_i (im_setI M 108 0 ((if p0 < 1 then 1 else (if p0 ≤ 8 then 0 else 1)) : Int32)) 108 4) + p0) ≤ 3000
    · replace h := ed_pos q38 h
      obtain ⟨Q2, hQ2, h⟩ := bd1_ed h
      have K2 : ∀ (M3 : im_M), fr 2596148429267413814265248164610048 [(108, 0), (108, 4)] M M3 → Q2 M3 → fr 2596148429267413814265248164610048 [(108, 0), (108, 4)] M r.2 := by
        intro M3 hM3 h
        replace h := hQ2 _ h
        exact fr_ret h hM3
      obtain ⟨r2, hr2, hq2⟩ := h
      obtain ⟨n2, hn2⟩ := lp_n hr2
      have I2 : ∀ (n : Nat) (x4 : Int32) (M5 : im_M), fr 2596148429267413814265248164610048 [(108, 0), (108, 4)] M M5 → lpn (uc2 (f_MSquareRows_put_L46 p0 p1)) n (x4, M5) = some r2 → fr 2596148429267413814265248164610048 [(108, 0), (108, 4)] M r.2 := by
        intro n
        induction n with
        | zero => intro x4 M5 hM5 hn; exact (lpn_0 hn).elim
        | succ n ih =>
          intro x4 M5 hM5 hn
          have h := lpn_ed2 hn
          unfold f_MSquareRows_put_L46 at h
          by_cases q49 : p0 ≤ x4
          · replace h := ed_pos q49 h
            exact K2 _ hM5 (lq_r h hq2)
          · replace h := ed_neg q49 h
            obtain ⟨g72, h⟩ := ed_gd h
            exact ih _ _ (fr_F (by decide) (fr_I (by decide) hM5)) (lq_l h)
      exact I2 n2 _ _ (fr_F (by decide) fr_refl) hn2
    · replace h := ed_neg q38 h
      exact fr_ret h (fr_F (by decide) fr_refl)
  · replace h := ed_neg q24 h
    exact fr_ret h (fr_F (by decide) fr_refl)
noncomputable def f_MSquareRows_signOf (p0 : Int32) (M : im_M) : Option (Int32) := jn0 (fun (_ : Unit) => jn0 (fun (_ : Unit) => if p0 = 32 then some 36 else if p0 = 36 then some 37 else if p0 = 37 then some 38 else if p0 = 42 then some 39 else if p0 = 43 then some 40 else if p0 = 45 then some 41 else if p0 = 46 then some 42 else if p0 = 47 then some 43 else if p0 = 58 then some 44 else some (-1)) fun k3 => if p0 < 65 then k3 () else if 90 < p0 then k3 () else some ((p0 - 65) + 10)) fun k1 => if p0 < 48 then k1 () else if 57 < p0 then k1 () else some (p0 - 48)
theorem J_MSquareRows_signOf_d0 : decode J_MSquareRows_signOf.2.1 0 = .ok (.iload_n 0, 1) := by decide +kernel
theorem J_MSquareRows_signOf_d1 : decode J_MSquareRows_signOf.2.1 1 = .ok (.bipush 48, 2) := by decide +kernel
theorem J_MSquareRows_signOf_d3 : decode J_MSquareRows_signOf.2.1 3 = .ok (.if_icmp .lt 14, 3) := by decide +kernel
theorem J_MSquareRows_signOf_d6 : decode J_MSquareRows_signOf.2.1 6 = .ok (.iload_n 0, 1) := by decide +kernel
theorem J_MSquareRows_signOf_d7 : decode J_MSquareRows_signOf.2.1 7 = .ok (.bipush 57, 2) := by decide +kernel
theorem J_MSquareRows_signOf_d9 : decode J_MSquareRows_signOf.2.1 9 = .ok (.if_icmp .gt 8, 3) := by decide +kernel
theorem J_MSquareRows_signOf_d12 : decode J_MSquareRows_signOf.2.1 12 = .ok (.iload_n 0, 1) := by decide +kernel
theorem J_MSquareRows_signOf_d13 : decode J_MSquareRows_signOf.2.1 13 = .ok (.bipush 48, 2) := by decide +kernel
theorem J_MSquareRows_signOf_d15 : decode J_MSquareRows_signOf.2.1 15 = .ok (.isub, 1) := by decide +kernel
theorem J_MSquareRows_signOf_d16 : decode J_MSquareRows_signOf.2.1 16 = .ok (.ireturn, 1) := by decide +kernel
theorem J_MSquareRows_signOf_d17 : decode J_MSquareRows_signOf.2.1 17 = .ok (.iload_n 0, 1) := by decide +kernel
theorem J_MSquareRows_signOf_d18 : decode J_MSquareRows_signOf.2.1 18 = .ok (.bipush 65, 2) := by decide +kernel
theorem J_MSquareRows_signOf_d20 : decode J_MSquareRows_signOf.2.1 20 = .ok (.if_icmp .lt 17, 3) := by decide +kernel
theorem J_MSquareRows_signOf_d23 : decode J_MSquareRows_signOf.2.1 23 = .ok (.iload_n 0, 1) := by decide +kernel
theorem J_MSquareRows_signOf_d24 : decode J_MSquareRows_signOf.2.1 24 = .ok (.bipush 90, 2) := by decide +kernel
theorem J_MSquareRows_signOf_d26 : decode J_MSquareRows_signOf.2.1 26 = .ok (.if_icmp .gt 11, 3) := by decide +kernel
theorem J_MSquareRows_signOf_d29 : decode J_MSquareRows_signOf.2.1 29 = .ok (.iload_n 0, 1) := by decide +kernel
theorem J_MSquareRows_signOf_d30 : decode J_MSquareRows_signOf.2.1 30 = .ok (.bipush 65, 2) := by decide +kernel
theorem J_MSquareRows_signOf_d32 : decode J_MSquareRows_signOf.2.1 32 = .ok (.isub, 1) := by decide +kernel
theorem J_MSquareRows_signOf_d33 : decode J_MSquareRows_signOf.2.1 33 = .ok (.bipush 10, 2) := by decide +kernel
theorem J_MSquareRows_signOf_d35 : decode J_MSquareRows_signOf.2.1 35 = .ok (.iadd, 1) := by decide +kernel
theorem J_MSquareRows_signOf_d36 : decode J_MSquareRows_signOf.2.1 36 = .ok (.ireturn, 1) := by decide +kernel
theorem J_MSquareRows_signOf_d37 : decode J_MSquareRows_signOf.2.1 37 = .ok (.iload_n 0, 1) := by decide +kernel
theorem J_MSquareRows_signOf_d38 : decode J_MSquareRows_signOf.2.1 38 = .ok (.tableswitch 149 32 58 #[122, 149, 149, 149, 125, 128, 149, 149, 149, 149, 131, 134, 149, 137, 140, 143, 149, 149, 149, 149, 149, 149, 149, 149, 149, 149, 146], 122) := by decide +kernel
theorem J_MSquareRows_signOf_d160 : decode J_MSquareRows_signOf.2.1 160 = .ok (.bipush 36, 2) := by decide +kernel
theorem J_MSquareRows_signOf_d162 : decode J_MSquareRows_signOf.2.1 162 = .ok (.ireturn, 1) := by decide +kernel
theorem J_MSquareRows_signOf_d163 : decode J_MSquareRows_signOf.2.1 163 = .ok (.bipush 37, 2) := by decide +kernel
theorem J_MSquareRows_signOf_d165 : decode J_MSquareRows_signOf.2.1 165 = .ok (.ireturn, 1) := by decide +kernel
theorem J_MSquareRows_signOf_d166 : decode J_MSquareRows_signOf.2.1 166 = .ok (.bipush 38, 2) := by decide +kernel
theorem J_MSquareRows_signOf_d168 : decode J_MSquareRows_signOf.2.1 168 = .ok (.ireturn, 1) := by decide +kernel
theorem J_MSquareRows_signOf_d169 : decode J_MSquareRows_signOf.2.1 169 = .ok (.bipush 39, 2) := by decide +kernel
theorem J_MSquareRows_signOf_d171 : decode J_MSquareRows_signOf.2.1 171 = .ok (.ireturn, 1) := by decide +kernel
theorem J_MSquareRows_signOf_d172 : decode J_MSquareRows_signOf.2.1 172 = .ok (.bipush 40, 2) := by decide +kernel
theorem J_MSquareRows_signOf_d174 : decode J_MSquareRows_signOf.2.1 174 = .ok (.ireturn, 1) := by decide +kernel
theorem J_MSquareRows_signOf_d175 : decode J_MSquareRows_signOf.2.1 175 = .ok (.bipush 41, 2) := by decide +kernel
theorem J_MSquareRows_signOf_d177 : decode J_MSquareRows_signOf.2.1 177 = .ok (.ireturn, 1) := by decide +kernel
theorem J_MSquareRows_signOf_d178 : decode J_MSquareRows_signOf.2.1 178 = .ok (.bipush 42, 2) := by decide +kernel
theorem J_MSquareRows_signOf_d180 : decode J_MSquareRows_signOf.2.1 180 = .ok (.ireturn, 1) := by decide +kernel
theorem J_MSquareRows_signOf_d181 : decode J_MSquareRows_signOf.2.1 181 = .ok (.bipush 43, 2) := by decide +kernel
theorem J_MSquareRows_signOf_d183 : decode J_MSquareRows_signOf.2.1 183 = .ok (.ireturn, 1) := by decide +kernel
theorem J_MSquareRows_signOf_d184 : decode J_MSquareRows_signOf.2.1 184 = .ok (.bipush 44, 2) := by decide +kernel
theorem J_MSquareRows_signOf_d186 : decode J_MSquareRows_signOf.2.1 186 = .ok (.ireturn, 1) := by decide +kernel
theorem J_MSquareRows_signOf_d187 : decode J_MSquareRows_signOf.2.1 187 = .ok (.iconst (-1), 1) := by decide +kernel
theorem J_MSquareRows_signOf_d188 : decode J_MSquareRows_signOf.2.1 188 = .ok (.ireturn, 1) := by decide +kernel
theorem f_MSquareRows_signOf_ok {L : Nat} {xs : Nat → Int32} {dep : Nat} {w : Bool} {p0 : Int32} {M : im_M} {Q : Int32 → Prop} (hM : lw_S w M) (h : ed (f_MSquareRows_signOf p0 M) Q) : ia (tb_G L xs) dep J_MSquareRows_signOf (rpI M Q) (0, lv_args 0 [.int p0], [], M) := by
  have hS : im_St (tb_G L xs) dep J_MSquareRows_signOf (ia (tb_G L xs) dep J_MSquareRows_signOf (rpI M Q)) := ia_St
  unfold f_MSquareRows_signOf at h
  have l0 : im_lk (lv_args 0 [.int p0]) 0 = some (.int p0) := rfl
  refine iq_iload_n hS 1 J_MSquareRows_signOf_d0 l0 rfl ?_
  refine iq_bipush hS 3 J_MSquareRows_signOf_d1 (v := 48) (by decide +kernel) rfl ?_
  obtain ⟨k1, Q1, hQ1, hk1, h⟩ := jn0_ed h
  have J1 : ∀  (L' : List (Nat × Value)), im_lk L' 0 = some (.int p0) → Q1 () → ia (tb_G L xs) dep J_MSquareRows_signOf (rpI M Q) (17, L', [], M) := by
    intro  L' l2 h
    replace h := hQ1  h
    refine iq_iload_n hS 18 J_MSquareRows_signOf_d17 l2 rfl ?_
    refine iq_bipush hS 20 J_MSquareRows_signOf_d18 (v := 65) (by decide +kernel) rfl ?_
    obtain ⟨k3, Q3, hQ3, hk3, h⟩ := jn0_ed h
    have J3 : ∀  (L' : List (Nat × Value)), im_lk L' 0 = some (.int p0) → Q3 () → ia (tb_G L xs) dep J_MSquareRows_signOf (rpI M Q) (37, L', [], M) := by
      intro  L' l4 h
      replace h := hQ3  h
      refine iq_iload_n hS 38 J_MSquareRows_signOf_d37 l4 rfl ?_
      by_cases q38_32 : p0 = 32
      · replace h := ed_pos q38_32 h
        refine iq_tsw hS J_MSquareRows_signOf_d38 (t := 160) (sw_v q38_32 (by decide +kernel)) ?_
        refine iq_bipush hS 162 J_MSquareRows_signOf_d160 (v := 36) (by decide +kernel) rfl ?_
        exact iq_iret J_MSquareRows_signOf_d162 rfl rfl ⟨_, rfl, rfl, ed_some h⟩
      replace h := ed_neg q38_32 h
      by_cases q38_36 : p0 = 36
      · replace h := ed_pos q38_36 h
        refine iq_tsw hS J_MSquareRows_signOf_d38 (t := 163) (sw_v q38_36 (by decide +kernel)) ?_
        refine iq_bipush hS 165 J_MSquareRows_signOf_d163 (v := 37) (by decide +kernel) rfl ?_
        exact iq_iret J_MSquareRows_signOf_d165 rfl rfl ⟨_, rfl, rfl, ed_some h⟩
      replace h := ed_neg q38_36 h
      by_cases q38_37 : p0 = 37
      · replace h := ed_pos q38_37 h
        refine iq_tsw hS J_MSquareRows_signOf_d38 (t := 166) (sw_v q38_37 (by decide +kernel)) ?_
        refine iq_bipush hS 168 J_MSquareRows_signOf_d166 (v := 38) (by decide +kernel) rfl ?_
        exact iq_iret J_MSquareRows_signOf_d168 rfl rfl ⟨_, rfl, rfl, ed_some h⟩
      replace h := ed_neg q38_37 h
      by_cases q38_42 : p0 = 42
      · replace h := ed_pos q38_42 h
        refine iq_tsw hS J_MSquareRows_signOf_d38 (t := 169) (sw_v q38_42 (by decide +kernel)) ?_
        refine iq_bipush hS 171 J_MSquareRows_signOf_d169 (v := 39) (by decide +kernel) rfl ?_
        exact iq_iret J_MSquareRows_signOf_d171 rfl rfl ⟨_, rfl, rfl, ed_some h⟩
      replace h := ed_neg q38_42 h
      by_cases q38_43 : p0 = 43
      · replace h := ed_pos q38_43 h
        refine iq_tsw hS J_MSquareRows_signOf_d38 (t := 172) (sw_v q38_43 (by decide +kernel)) ?_
        refine iq_bipush hS 174 J_MSquareRows_signOf_d172 (v := 40) (by decide +kernel) rfl ?_
        exact iq_iret J_MSquareRows_signOf_d174 rfl rfl ⟨_, rfl, rfl, ed_some h⟩
      replace h := ed_neg q38_43 h
      by_cases q38_45 : p0 = 45
      · replace h := ed_pos q38_45 h
        refine iq_tsw hS J_MSquareRows_signOf_d38 (t := 175) (sw_v q38_45 (by decide +kernel)) ?_
        refine iq_bipush hS 177 J_MSquareRows_signOf_d175 (v := 41) (by decide +kernel) rfl ?_
        exact iq_iret J_MSquareRows_signOf_d177 rfl rfl ⟨_, rfl, rfl, ed_some h⟩
      replace h := ed_neg q38_45 h
      by_cases q38_46 : p0 = 46
      · replace h := ed_pos q38_46 h
        refine iq_tsw hS J_MSquareRows_signOf_d38 (t := 178) (sw_v q38_46 (by decide +kernel)) ?_
        refine iq_bipush hS 180 J_MSquareRows_signOf_d178 (v := 42) (by decide +kernel) rfl ?_
        exact iq_iret J_MSquareRows_signOf_d180 rfl rfl ⟨_, rfl, rfl, ed_some h⟩
      replace h := ed_neg q38_46 h
      by_cases q38_47 : p0 = 47
      · replace h := ed_pos q38_47 h
        refine iq_tsw hS J_MSquareRows_signOf_d38 (t := 181) (sw_v q38_47 (by decide +kernel)) ?_
        refine iq_bipush hS 183 J_MSquareRows_signOf_d181 (v := 43) (by decide +kernel) rfl ?_
        exact iq_iret J_MSquareRows_signOf_d183 rfl rfl ⟨_, rfl, rfl, ed_some h⟩
      replace h := ed_neg q38_47 h
      by_cases q38_58 : p0 = 58
      · replace h := ed_pos q38_58 h
        refine iq_tsw hS J_MSquareRows_signOf_d38 (t := 184) (sw_v q38_58 (by decide +kernel)) ?_
        refine iq_bipush hS 186 J_MSquareRows_signOf_d184 (v := 44) (by decide +kernel) rfl ?_
        exact iq_iret J_MSquareRows_signOf_d186 rfl rfl ⟨_, rfl, rfl, ed_some h⟩
      replace h := ed_neg q38_58 h
      refine iq_tsw hS J_MSquareRows_signOf_d38 (t := 187) (sw_d [32, 36, 37, 42, 43, 45, 46, 47, 58] (by decide) (by decide) (by decide +kernel) (sw_nc q38_32 (sw_nc q38_36 (sw_nc q38_37 (sw_nc q38_42 (sw_nc q38_43 (sw_nc q38_45 (sw_nc q38_46 (sw_nc q38_47 (sw_nc q38_58 sw_nn)))))))))) ?_
      refine iq_iconst hS 188 J_MSquareRows_signOf_d187 (v := (-1)) (by decide +kernel) rfl ?_
      exact iq_iret J_MSquareRows_signOf_d188 rfl rfl ⟨_, rfl, rfl, ed_some h⟩
    refine iq_icmp_lt hS 23 J_MSquareRows_signOf_d20 (t := 37) rfl (fun q20 => ?_) rfl (fun q20 => ?_)
    · replace h := ed_pos q20 h
      exact J3  _ l2 (hk3  h)
    · replace h := ed_neg q20 h
      refine iq_iload_n hS 24 J_MSquareRows_signOf_d23 l2 rfl ?_
      refine iq_bipush hS 26 J_MSquareRows_signOf_d24 (v := 90) (by decide +kernel) rfl ?_
      refine iq_icmp_gt hS 29 J_MSquareRows_signOf_d26 (t := 37) rfl (fun q26 => ?_) rfl (fun q26 => ?_)
      · replace h := ed_pos q26 h
        exact J3  _ l2 (hk3  h)
      · replace h := ed_neg q26 h
        refine iq_iload_n hS 30 J_MSquareRows_signOf_d29 l2 rfl ?_
        refine iq_bipush hS 32 J_MSquareRows_signOf_d30 (v := 65) (by decide +kernel) rfl ?_
        refine iq_isub hS 33 J_MSquareRows_signOf_d32 rfl ?_
        refine iq_bipush hS 35 J_MSquareRows_signOf_d33 (v := 10) (by decide +kernel) rfl ?_
        refine iq_iadd hS 36 J_MSquareRows_signOf_d35 rfl ?_
        exact iq_iret J_MSquareRows_signOf_d36 rfl rfl ⟨_, rfl, rfl, ed_some h⟩
  refine iq_icmp_lt hS 6 J_MSquareRows_signOf_d3 (t := 17) rfl (fun q3 => ?_) rfl (fun q3 => ?_)
  · replace h := ed_pos q3 h
    exact J1  _ l0 (hk1  h)
  · replace h := ed_neg q3 h
    refine iq_iload_n hS 7 J_MSquareRows_signOf_d6 l0 rfl ?_
    refine iq_bipush hS 9 J_MSquareRows_signOf_d7 (v := 57) (by decide +kernel) rfl ?_
    refine iq_icmp_gt hS 12 J_MSquareRows_signOf_d9 (t := 17) rfl (fun q9 => ?_) rfl (fun q9 => ?_)
    · replace h := ed_pos q9 h
      exact J1  _ l0 (hk1  h)
    · replace h := ed_neg q9 h
      refine iq_iload_n hS 13 J_MSquareRows_signOf_d12 l0 rfl ?_
      refine iq_bipush hS 15 J_MSquareRows_signOf_d13 (v := 48) (by decide +kernel) rfl ?_
      refine iq_isub hS 16 J_MSquareRows_signOf_d15 rfl ?_
      exact iq_iret J_MSquareRows_signOf_d16 rfl rfl ⟨_, rfl, rfl, ed_some h⟩
noncomputable def f_MSquareRows_may (p0 : Int32) (p1 : Int32) (M : im_M) : Option (Int32) := jn0 (fun (_ : Unit) => some 1) fun k1 => if p0 = 2 then k1 () else jn0 (fun (_ : Unit) => if ¬ p0 = 0 then some 0 else if p1 < 48 then some 0 else if 57 < p1 then some 0 else k1 ()) fun k2 => if ¬ p0 = 1 then k2 () else bd1 (f_MSquareRows_signOf p1 M) fun (x3 : Int32) => if 0 ≤ x3 then k1 () else k2 ()
theorem J_MSquareRows_may_d0 : decode J_MSquareRows_may.2.1 0 = .ok (.iload_n 0, 1) := by decide +kernel
theorem J_MSquareRows_may_d1 : decode J_MSquareRows_may.2.1 1 = .ok (.iconst 2, 1) := by decide +kernel
theorem J_MSquareRows_may_d2 : decode J_MSquareRows_may.2.1 2 = .ok (.if_icmp .eq 31, 3) := by decide +kernel
theorem J_MSquareRows_may_d5 : decode J_MSquareRows_may.2.1 5 = .ok (.iload_n 0, 1) := by decide +kernel
theorem J_MSquareRows_may_d6 : decode J_MSquareRows_may.2.1 6 = .ok (.iconst 1, 1) := by decide +kernel
theorem J_MSquareRows_may_d7 : decode J_MSquareRows_may.2.1 7 = .ok (.if_icmp .ne 10, 3) := by decide +kernel
theorem J_MSquareRows_may_d10 : decode J_MSquareRows_may.2.1 10 = .ok (.iload_n 1, 1) := by decide +kernel
theorem J_MSquareRows_may_d11 : decode J_MSquareRows_may.2.1 11 = .ok (.invokestatic 93, 3) := by decide +kernel
theorem J_MSquareRows_may_d14 : decode J_MSquareRows_may.2.1 14 = .ok (.ifCond .ge 19, 3) := by decide +kernel
theorem J_MSquareRows_may_d17 : decode J_MSquareRows_may.2.1 17 = .ok (.iload_n 0, 1) := by decide +kernel
theorem J_MSquareRows_may_d18 : decode J_MSquareRows_may.2.1 18 = .ok (.ifCond .ne 19, 3) := by decide +kernel
theorem J_MSquareRows_may_d21 : decode J_MSquareRows_may.2.1 21 = .ok (.iload_n 1, 1) := by decide +kernel
theorem J_MSquareRows_may_d22 : decode J_MSquareRows_may.2.1 22 = .ok (.bipush 48, 2) := by decide +kernel
theorem J_MSquareRows_may_d24 : decode J_MSquareRows_may.2.1 24 = .ok (.if_icmp .lt 13, 3) := by decide +kernel
theorem J_MSquareRows_may_d27 : decode J_MSquareRows_may.2.1 27 = .ok (.iload_n 1, 1) := by decide +kernel
theorem J_MSquareRows_may_d28 : decode J_MSquareRows_may.2.1 28 = .ok (.bipush 57, 2) := by decide +kernel
theorem J_MSquareRows_may_d30 : decode J_MSquareRows_may.2.1 30 = .ok (.if_icmp .gt 7, 3) := by decide +kernel
theorem J_MSquareRows_may_d33 : decode J_MSquareRows_may.2.1 33 = .ok (.iconst 1, 1) := by decide +kernel
theorem J_MSquareRows_may_d34 : decode J_MSquareRows_may.2.1 34 = .ok (.goto 4, 3) := by decide +kernel
theorem J_MSquareRows_may_d37 : decode J_MSquareRows_may.2.1 37 = .ok (.iconst 0, 1) := by decide +kernel
theorem J_MSquareRows_may_d38 : decode J_MSquareRows_may.2.1 38 = .ok (.ireturn, 1) := by decide +kernel
theorem f_MSquareRows_may_ok {L : Nat} {xs : Nat → Int32} {dep : Nat} {w : Bool} {p0 : Int32} {p1 : Int32} {M : im_M} {Q : Int32 → Prop} (hM : lw_S w M) (h : ed (f_MSquareRows_may p0 p1 M) Q) : ia (tb_G L xs) (dep + 1) J_MSquareRows_may (rpI M Q) (0, lv_args 0 [.int p0, .int p1], [], M) := by
  have hS : im_St (tb_G L xs) (dep + 1) J_MSquareRows_may (ia (tb_G L xs) (dep + 1) J_MSquareRows_may (rpI M Q)) := ia_St
  unfold f_MSquareRows_may at h
  have l0 : im_lk (lv_args 0 [.int p0, .int p1]) 0 = some (.int p0) := rfl
  have l1 : im_lk (lv_args 0 [.int p0, .int p1]) 1 = some (.int p1) := rfl
  refine iq_iload_n hS 1 J_MSquareRows_may_d0 l0 rfl ?_
  refine iq_iconst hS 2 J_MSquareRows_may_d1 (v := 2) (by decide +kernel) rfl ?_
  obtain ⟨k1, Q1, hQ1, hk1, h⟩ := jn0_ed h
  have J1 : ∀  (L' : List (Nat × Value)), Q1 () → ia (tb_G L xs) (dep + 1) J_MSquareRows_may (rpI M Q) (33, L', [], M) := by
    intro  L'  h
    replace h := hQ1  h
    refine iq_iconst hS 34 J_MSquareRows_may_d33 (v := 1) (by decide +kernel) rfl ?_
    refine iq_goto hS J_MSquareRows_may_d34 (t := 38) rfl ?_
    exact iq_iret J_MSquareRows_may_d38 rfl rfl ⟨_, rfl, rfl, ed_some h⟩
  refine iq_icmp_eq hS 5 J_MSquareRows_may_d2 (t := 33) rfl (fun q2 => ?_) rfl (fun q2 => ?_)
  · replace h := ed_pos q2 h
    exact J1  _  (hk1  h)
  · replace h := ed_neg q2 h
    refine iq_iload_n hS 6 J_MSquareRows_may_d5 l0 rfl ?_
    refine iq_iconst hS 7 J_MSquareRows_may_d6 (v := 1) (by decide +kernel) rfl ?_
    obtain ⟨k2, Q2, hQ2, hk2, h⟩ := jn0_ed h
    have J2 : ∀  (L' : List (Nat × Value)), im_lk L' 0 = some (.int p0) → im_lk L' 1 = some (.int p1) → Q2 () → ia (tb_G L xs) (dep + 1) J_MSquareRows_may (rpI M Q) (17, L', [], M) := by
      intro  L' l4 l5 h
      replace h := hQ2  h
      refine iq_iload_n hS 18 J_MSquareRows_may_d17 l4 rfl ?_
      refine iq_if_ne hS 21 J_MSquareRows_may_d18 (t := 37) rfl (fun q18 => ?_) rfl (fun q18 => ?_)
      · replace h := ed_pos q18 h
        refine iq_iconst hS 38 J_MSquareRows_may_d37 (v := 0) (by decide +kernel) rfl ?_
        exact iq_iret J_MSquareRows_may_d38 rfl rfl ⟨_, rfl, rfl, ed_some h⟩
      · replace h := ed_neg q18 h
        refine iq_iload_n hS 22 J_MSquareRows_may_d21 l5 rfl ?_
        refine iq_bipush hS 24 J_MSquareRows_may_d22 (v := 48) (by decide +kernel) rfl ?_
        refine iq_icmp_lt hS 27 J_MSquareRows_may_d24 (t := 37) rfl (fun q24 => ?_) rfl (fun q24 => ?_)
        · replace h := ed_pos q24 h
          refine iq_iconst hS 38 J_MSquareRows_may_d37 (v := 0) (by decide +kernel) rfl ?_
          exact iq_iret J_MSquareRows_may_d38 rfl rfl ⟨_, rfl, rfl, ed_some h⟩
        · replace h := ed_neg q24 h
          refine iq_iload_n hS 28 J_MSquareRows_may_d27 l5 rfl ?_
          refine iq_bipush hS 30 J_MSquareRows_may_d28 (v := 57) (by decide +kernel) rfl ?_
          refine iq_icmp_gt hS 33 J_MSquareRows_may_d30 (t := 37) rfl (fun q30 => ?_) rfl (fun q30 => ?_)
          · replace h := ed_pos q30 h
            refine iq_iconst hS 38 J_MSquareRows_may_d37 (v := 0) (by decide +kernel) rfl ?_
            exact iq_iret J_MSquareRows_may_d38 rfl rfl ⟨_, rfl, rfl, ed_some h⟩
          · replace h := ed_neg q30 h
            exact J1  _  (hk1  h)
    refine iq_icmp_ne hS 10 J_MSquareRows_may_d7 (t := 17) rfl (fun q7 => ?_) rfl (fun q7 => ?_)
    · replace h := ed_pos q7 h
      exact J2  _ l0 l1 (hk2  h)
    · replace h := ed_neg q7 h
      refine iq_iload_n hS 11 J_MSquareRows_may_d10 l1 rfl ?_
      obtain ⟨Q3, hQ3, h⟩ := bd1_ed h
      refine iq_cpI hS 14 J_MSquareRows_may_d11 rfl (pr_stat (vs := [_]) lc_16_93 lT_396 rfl rfl (by decide) rfl (Nat.le_of_ble_eq_true rfl) (Nat.le_of_ble_eq_true rfl)) (f_MSquareRows_signOf_ok (dep := dep + 0) hM h) rfl ?_
      intro x3 h
      replace h := hQ3 _ h
      refine iq_if_ge hS 17 J_MSquareRows_may_d14 (t := 33) rfl (fun q14 => ?_) rfl (fun q14 => ?_)
      · replace h := ed_pos q14 h
        exact J1  _  (hk1  h)
      · replace h := ed_neg q14 h
        exact J2  _ l0 l1 (hk2  h)
noncomputable def f_MSquareRows_modeOf (p0 : Int32) (M : im_M) : Option (Int32) := if 3 ≤ p0 then if 5 ≤ p0 then some 2 else some 1 else some 0
theorem J_MSquareRows_modeOf_d0 : decode J_MSquareRows_modeOf.2.1 0 = .ok (.iload_n 0, 1) := by decide +kernel
theorem J_MSquareRows_modeOf_d1 : decode J_MSquareRows_modeOf.2.1 1 = .ok (.iconst 3, 1) := by decide +kernel
theorem J_MSquareRows_modeOf_d2 : decode J_MSquareRows_modeOf.2.1 2 = .ok (.if_icmp .ge 7, 3) := by decide +kernel
theorem J_MSquareRows_modeOf_d5 : decode J_MSquareRows_modeOf.2.1 5 = .ok (.iconst 0, 1) := by decide +kernel
theorem J_MSquareRows_modeOf_d6 : decode J_MSquareRows_modeOf.2.1 6 = .ok (.goto 13, 3) := by decide +kernel
theorem J_MSquareRows_modeOf_d9 : decode J_MSquareRows_modeOf.2.1 9 = .ok (.iload_n 0, 1) := by decide +kernel
theorem J_MSquareRows_modeOf_d10 : decode J_MSquareRows_modeOf.2.1 10 = .ok (.iconst 5, 1) := by decide +kernel
theorem J_MSquareRows_modeOf_d11 : decode J_MSquareRows_modeOf.2.1 11 = .ok (.if_icmp .ge 7, 3) := by decide +kernel
theorem J_MSquareRows_modeOf_d14 : decode J_MSquareRows_modeOf.2.1 14 = .ok (.iconst 1, 1) := by decide +kernel
theorem J_MSquareRows_modeOf_d15 : decode J_MSquareRows_modeOf.2.1 15 = .ok (.goto 4, 3) := by decide +kernel
theorem J_MSquareRows_modeOf_d18 : decode J_MSquareRows_modeOf.2.1 18 = .ok (.iconst 2, 1) := by decide +kernel
theorem J_MSquareRows_modeOf_d19 : decode J_MSquareRows_modeOf.2.1 19 = .ok (.ireturn, 1) := by decide +kernel
theorem f_MSquareRows_modeOf_ok {L : Nat} {xs : Nat → Int32} {dep : Nat} {w : Bool} {p0 : Int32} {M : im_M} {Q : Int32 → Prop} (hM : lw_S w M) (h : ed (f_MSquareRows_modeOf p0 M) Q) : ia (tb_G L xs) dep J_MSquareRows_modeOf (rpI M Q) (0, lv_args 0 [.int p0], [], M) := by
  have hS : im_St (tb_G L xs) dep J_MSquareRows_modeOf (ia (tb_G L xs) dep J_MSquareRows_modeOf (rpI M Q)) := ia_St
  unfold f_MSquareRows_modeOf at h
  have l0 : im_lk (lv_args 0 [.int p0]) 0 = some (.int p0) := rfl
  refine iq_iload_n hS 1 J_MSquareRows_modeOf_d0 l0 rfl ?_
  refine iq_iconst hS 2 J_MSquareRows_modeOf_d1 (v := 3) (by decide +kernel) rfl ?_
  refine iq_icmp_ge hS 5 J_MSquareRows_modeOf_d2 (t := 9) rfl (fun q2 => ?_) rfl (fun q2 => ?_)
  · replace h := ed_pos q2 h
    refine iq_iload_n hS 10 J_MSquareRows_modeOf_d9 l0 rfl ?_
    refine iq_iconst hS 11 J_MSquareRows_modeOf_d10 (v := 5) (by decide +kernel) rfl ?_
    refine iq_icmp_ge hS 14 J_MSquareRows_modeOf_d11 (t := 18) rfl (fun q11 => ?_) rfl (fun q11 => ?_)
    · replace h := ed_pos q11 h
      refine iq_iconst hS 19 J_MSquareRows_modeOf_d18 (v := 2) (by decide +kernel) rfl ?_
      exact iq_iret J_MSquareRows_modeOf_d19 rfl rfl ⟨_, rfl, rfl, ed_some h⟩
    · replace h := ed_neg q11 h
      refine iq_iconst hS 15 J_MSquareRows_modeOf_d14 (v := 1) (by decide +kernel) rfl ?_
      refine iq_goto hS J_MSquareRows_modeOf_d15 (t := 19) rfl ?_
      exact iq_iret J_MSquareRows_modeOf_d19 rfl rfl ⟨_, rfl, rfl, ed_some h⟩
  · replace h := ed_neg q2 h
    refine iq_iconst hS 6 J_MSquareRows_modeOf_d5 (v := 0) (by decide +kernel) rfl ?_
    refine iq_goto hS J_MSquareRows_modeOf_d6 (t := 19) rfl ?_
    exact iq_iret J_MSquareRows_modeOf_d19 rfl rfl ⟨_, rfl, rfl, ed_some h⟩
noncomputable def f_MSquareRows_lengthBits (p0 : Int32) (p1 : Int32) (M : im_M) : Option (Int32) := if ¬ p0 = 0 then if ¬ p0 = 1 then if ¬ p1 = 0 then some 16 else some 8 else some ((9 : Int32) + ((2 : Int32) * p1)) else some ((10 : Int32) + ((2 : Int32) * p1))
theorem J_MSquareRows_lengthBits_d0 : decode J_MSquareRows_lengthBits.2.1 0 = .ok (.iload_n 0, 1) := by decide +kernel
theorem J_MSquareRows_lengthBits_d1 : decode J_MSquareRows_lengthBits.2.1 1 = .ok (.ifCond .ne 12, 3) := by decide +kernel
theorem J_MSquareRows_lengthBits_d4 : decode J_MSquareRows_lengthBits.2.1 4 = .ok (.bipush 10, 2) := by decide +kernel
theorem J_MSquareRows_lengthBits_d6 : decode J_MSquareRows_lengthBits.2.1 6 = .ok (.iconst 2, 1) := by decide +kernel
theorem J_MSquareRows_lengthBits_d7 : decode J_MSquareRows_lengthBits.2.1 7 = .ok (.iload_n 1, 1) := by decide +kernel
theorem J_MSquareRows_lengthBits_d8 : decode J_MSquareRows_lengthBits.2.1 8 = .ok (.imul, 1) := by decide +kernel
theorem J_MSquareRows_lengthBits_d9 : decode J_MSquareRows_lengthBits.2.1 9 = .ok (.iadd, 1) := by decide +kernel
theorem J_MSquareRows_lengthBits_d10 : decode J_MSquareRows_lengthBits.2.1 10 = .ok (.goto 28, 3) := by decide +kernel
theorem J_MSquareRows_lengthBits_d13 : decode J_MSquareRows_lengthBits.2.1 13 = .ok (.iload_n 0, 1) := by decide +kernel
theorem J_MSquareRows_lengthBits_d14 : decode J_MSquareRows_lengthBits.2.1 14 = .ok (.iconst 1, 1) := by decide +kernel
theorem J_MSquareRows_lengthBits_d15 : decode J_MSquareRows_lengthBits.2.1 15 = .ok (.if_icmp .ne 12, 3) := by decide +kernel
theorem J_MSquareRows_lengthBits_d18 : decode J_MSquareRows_lengthBits.2.1 18 = .ok (.bipush 9, 2) := by decide +kernel
theorem J_MSquareRows_lengthBits_d20 : decode J_MSquareRows_lengthBits.2.1 20 = .ok (.iconst 2, 1) := by decide +kernel
theorem J_MSquareRows_lengthBits_d21 : decode J_MSquareRows_lengthBits.2.1 21 = .ok (.iload_n 1, 1) := by decide +kernel
theorem J_MSquareRows_lengthBits_d22 : decode J_MSquareRows_lengthBits.2.1 22 = .ok (.imul, 1) := by decide +kernel
theorem J_MSquareRows_lengthBits_d23 : decode J_MSquareRows_lengthBits.2.1 23 = .ok (.iadd, 1) := by decide +kernel
theorem J_MSquareRows_lengthBits_d24 : decode J_MSquareRows_lengthBits.2.1 24 = .ok (.goto 14, 3) := by decide +kernel
theorem J_MSquareRows_lengthBits_d27 : decode J_MSquareRows_lengthBits.2.1 27 = .ok (.iload_n 1, 1) := by decide +kernel
theorem J_MSquareRows_lengthBits_d28 : decode J_MSquareRows_lengthBits.2.1 28 = .ok (.ifCond .ne 8, 3) := by decide +kernel
theorem J_MSquareRows_lengthBits_d31 : decode J_MSquareRows_lengthBits.2.1 31 = .ok (.bipush 8, 2) := by decide +kernel
theorem J_MSquareRows_lengthBits_d33 : decode J_MSquareRows_lengthBits.2.1 33 = .ok (.goto 5, 3) := by decide +kernel
theorem J_MSquareRows_lengthBits_d36 : decode J_MSquareRows_lengthBits.2.1 36 = .ok (.bipush 16, 2) := by decide +kernel
theorem J_MSquareRows_lengthBits_d38 : decode J_MSquareRows_lengthBits.2.1 38 = .ok (.ireturn, 1) := by decide +kernel
theorem f_MSquareRows_lengthBits_ok {L : Nat} {xs : Nat → Int32} {dep : Nat} {w : Bool} {p0 : Int32} {p1 : Int32} {M : im_M} {Q : Int32 → Prop} (hM : lw_S w M) (h : ed (f_MSquareRows_lengthBits p0 p1 M) Q) : ia (tb_G L xs) dep J_MSquareRows_lengthBits (rpI M Q) (0, lv_args 0 [.int p0, .int p1], [], M) := by
  have hS : im_St (tb_G L xs) dep J_MSquareRows_lengthBits (ia (tb_G L xs) dep J_MSquareRows_lengthBits (rpI M Q)) := ia_St
  unfold f_MSquareRows_lengthBits at h
  have l0 : im_lk (lv_args 0 [.int p0, .int p1]) 0 = some (.int p0) := rfl
  have l1 : im_lk (lv_args 0 [.int p0, .int p1]) 1 = some (.int p1) := rfl
  refine iq_iload_n hS 1 J_MSquareRows_lengthBits_d0 l0 rfl ?_
  refine iq_if_ne hS 4 J_MSquareRows_lengthBits_d1 (t := 13) rfl (fun q1 => ?_) rfl (fun q1 => ?_)
  · replace h := ed_pos q1 h
    refine iq_iload_n hS 14 J_MSquareRows_lengthBits_d13 l0 rfl ?_
    refine iq_iconst hS 15 J_MSquareRows_lengthBits_d14 (v := 1) (by decide +kernel) rfl ?_
    refine iq_icmp_ne hS 18 J_MSquareRows_lengthBits_d15 (t := 27) rfl (fun q15 => ?_) rfl (fun q15 => ?_)
    · replace h := ed_pos q15 h
      refine iq_iload_n hS 28 J_MSquareRows_lengthBits_d27 l1 rfl ?_
      refine iq_if_ne hS 31 J_MSquareRows_lengthBits_d28 (t := 36) rfl (fun q28 => ?_) rfl (fun q28 => ?_)
      · replace h := ed_pos q28 h
        refine iq_bipush hS 38 J_MSquareRows_lengthBits_d36 (v := 16) (by decide +kernel) rfl ?_
        exact iq_iret J_MSquareRows_lengthBits_d38 rfl rfl ⟨_, rfl, rfl, ed_some h⟩
      · replace h := ed_neg q28 h
        refine iq_bipush hS 33 J_MSquareRows_lengthBits_d31 (v := 8) (by decide +kernel) rfl ?_
        refine iq_goto hS J_MSquareRows_lengthBits_d33 (t := 38) rfl ?_
        exact iq_iret J_MSquareRows_lengthBits_d38 rfl rfl ⟨_, rfl, rfl, ed_some h⟩
    · replace h := ed_neg q15 h
      refine iq_bipush hS 20 J_MSquareRows_lengthBits_d18 (v := 9) (by decide +kernel) rfl ?_
      refine iq_iconst hS 21 J_MSquareRows_lengthBits_d20 (v := 2) (by decide +kernel) rfl ?_
      refine iq_iload_n hS 22 J_MSquareRows_lengthBits_d21 l1 rfl ?_
      refine iq_imul hS 23 J_MSquareRows_lengthBits_d22 rfl ?_
      refine iq_iadd hS 24 J_MSquareRows_lengthBits_d23 rfl ?_
      refine iq_goto hS J_MSquareRows_lengthBits_d24 (t := 38) rfl ?_
      exact iq_iret J_MSquareRows_lengthBits_d38 rfl rfl ⟨_, rfl, rfl, ed_some h⟩
  · replace h := ed_neg q1 h
    refine iq_bipush hS 6 J_MSquareRows_lengthBits_d4 (v := 10) (by decide +kernel) rfl ?_
    refine iq_iconst hS 7 J_MSquareRows_lengthBits_d6 (v := 2) (by decide +kernel) rfl ?_
    refine iq_iload_n hS 8 J_MSquareRows_lengthBits_d7 l1 rfl ?_
    refine iq_imul hS 9 J_MSquareRows_lengthBits_d8 rfl ?_
    refine iq_iadd hS 10 J_MSquareRows_lengthBits_d9 rfl ?_
    refine iq_goto hS J_MSquareRows_lengthBits_d10 (t := 38) rfl ?_
    exact iq_iret J_MSquareRows_lengthBits_d38 rfl rfl ⟨_, rfl, rfl, ed_some h⟩
noncomputable def f_MSquareRows_stateAfter (p0 : Int32) (p1 : Int32) (M : im_M) : Option (Int32) := bd1 (jn0 (fun (_ : Unit) => some (-1)) fun k2 => if p0 < 0 then k2 () else bd1 (f_MSquareRows_modeOf p0 M) fun (x3 : Int32) => if ¬ x3 = p1 then k2 () else some p0) fun (y5 : Int32) => if ¬ p1 = 0 then if ¬ p1 = 1 then some 5 else if 0 ≤ y5 then some ((7 : Int32) - y5) else some 4 else if 0 ≤ y5 then some ((y5 + 1) - (y5 + 1) / 3 * 3) else some 1
theorem J_MSquareRows_stateAfter_d0 : decode J_MSquareRows_stateAfter.2.1 0 = .ok (.iload_n 0, 1) := by decide +kernel
theorem J_MSquareRows_stateAfter_d1 : decode J_MSquareRows_stateAfter.2.1 1 = .ok (.ifCond .lt 15, 3) := by decide +kernel
theorem J_MSquareRows_stateAfter_d4 : decode J_MSquareRows_stateAfter.2.1 4 = .ok (.iload_n 0, 1) := by decide +kernel
theorem J_MSquareRows_stateAfter_d5 : decode J_MSquareRows_stateAfter.2.1 5 = .ok (.invokestatic 96, 3) := by decide +kernel
theorem J_MSquareRows_stateAfter_d8 : decode J_MSquareRows_stateAfter.2.1 8 = .ok (.iload_n 1, 1) := by decide +kernel
theorem J_MSquareRows_stateAfter_d9 : decode J_MSquareRows_stateAfter.2.1 9 = .ok (.if_icmp .ne 7, 3) := by decide +kernel
theorem J_MSquareRows_stateAfter_d12 : decode J_MSquareRows_stateAfter.2.1 12 = .ok (.iload_n 0, 1) := by decide +kernel
theorem J_MSquareRows_stateAfter_d13 : decode J_MSquareRows_stateAfter.2.1 13 = .ok (.goto 4, 3) := by decide +kernel
theorem J_MSquareRows_stateAfter_d16 : decode J_MSquareRows_stateAfter.2.1 16 = .ok (.iconst (-1), 1) := by decide +kernel
theorem J_MSquareRows_stateAfter_d17 : decode J_MSquareRows_stateAfter.2.1 17 = .ok (.istore_n 2, 1) := by decide +kernel
theorem J_MSquareRows_stateAfter_d18 : decode J_MSquareRows_stateAfter.2.1 18 = .ok (.iload_n 1, 1) := by decide +kernel
theorem J_MSquareRows_stateAfter_d19 : decode J_MSquareRows_stateAfter.2.1 19 = .ok (.ifCond .ne 17, 3) := by decide +kernel
theorem J_MSquareRows_stateAfter_d22 : decode J_MSquareRows_stateAfter.2.1 22 = .ok (.iload_n 2, 1) := by decide +kernel
theorem J_MSquareRows_stateAfter_d23 : decode J_MSquareRows_stateAfter.2.1 23 = .ok (.ifCond .ge 7, 3) := by decide +kernel
theorem J_MSquareRows_stateAfter_d26 : decode J_MSquareRows_stateAfter.2.1 26 = .ok (.iconst 1, 1) := by decide +kernel
theorem J_MSquareRows_stateAfter_d27 : decode J_MSquareRows_stateAfter.2.1 27 = .ok (.goto 8, 3) := by decide +kernel
theorem J_MSquareRows_stateAfter_d30 : decode J_MSquareRows_stateAfter.2.1 30 = .ok (.iload_n 2, 1) := by decide +kernel
theorem J_MSquareRows_stateAfter_d31 : decode J_MSquareRows_stateAfter.2.1 31 = .ok (.iconst 1, 1) := by decide +kernel
theorem J_MSquareRows_stateAfter_d32 : decode J_MSquareRows_stateAfter.2.1 32 = .ok (.iadd, 1) := by decide +kernel
theorem J_MSquareRows_stateAfter_d33 : decode J_MSquareRows_stateAfter.2.1 33 = .ok (.iconst 3, 1) := by decide +kernel
theorem J_MSquareRows_stateAfter_d34 : decode J_MSquareRows_stateAfter.2.1 34 = .ok (.irem, 1) := by decide +kernel
theorem J_MSquareRows_stateAfter_d35 : decode J_MSquareRows_stateAfter.2.1 35 = .ok (.ireturn, 1) := by decide +kernel
theorem J_MSquareRows_stateAfter_d36 : decode J_MSquareRows_stateAfter.2.1 36 = .ok (.iload_n 1, 1) := by decide +kernel
theorem J_MSquareRows_stateAfter_d37 : decode J_MSquareRows_stateAfter.2.1 37 = .ok (.iconst 1, 1) := by decide +kernel
theorem J_MSquareRows_stateAfter_d38 : decode J_MSquareRows_stateAfter.2.1 38 = .ok (.if_icmp .ne 18, 3) := by decide +kernel
theorem J_MSquareRows_stateAfter_d41 : decode J_MSquareRows_stateAfter.2.1 41 = .ok (.iload_n 2, 1) := by decide +kernel
theorem J_MSquareRows_stateAfter_d42 : decode J_MSquareRows_stateAfter.2.1 42 = .ok (.ifCond .ge 7, 3) := by decide +kernel
theorem J_MSquareRows_stateAfter_d45 : decode J_MSquareRows_stateAfter.2.1 45 = .ok (.iconst 4, 1) := by decide +kernel
theorem J_MSquareRows_stateAfter_d46 : decode J_MSquareRows_stateAfter.2.1 46 = .ok (.goto 11, 3) := by decide +kernel
theorem J_MSquareRows_stateAfter_d49 : decode J_MSquareRows_stateAfter.2.1 49 = .ok (.bipush 7, 2) := by decide +kernel
theorem J_MSquareRows_stateAfter_d51 : decode J_MSquareRows_stateAfter.2.1 51 = .ok (.iload_n 2, 1) := by decide +kernel
theorem J_MSquareRows_stateAfter_d52 : decode J_MSquareRows_stateAfter.2.1 52 = .ok (.isub, 1) := by decide +kernel
theorem J_MSquareRows_stateAfter_d53 : decode J_MSquareRows_stateAfter.2.1 53 = .ok (.goto 4, 3) := by decide +kernel
theorem J_MSquareRows_stateAfter_d56 : decode J_MSquareRows_stateAfter.2.1 56 = .ok (.iconst 5, 1) := by decide +kernel
theorem J_MSquareRows_stateAfter_d57 : decode J_MSquareRows_stateAfter.2.1 57 = .ok (.ireturn, 1) := by decide +kernel
theorem f_MSquareRows_stateAfter_ok {L : Nat} {xs : Nat → Int32} {dep : Nat} {w : Bool} {p0 : Int32} {p1 : Int32} {M : im_M} {Q : Int32 → Prop} (hM : lw_S w M) (h : ed (f_MSquareRows_stateAfter p0 p1 M) Q) : ia (tb_G L xs) (dep + 1) J_MSquareRows_stateAfter (rpI M Q) (0, lv_args 0 [.int p0, .int p1], [], M) := by
  have hS : im_St (tb_G L xs) (dep + 1) J_MSquareRows_stateAfter (ia (tb_G L xs) (dep + 1) J_MSquareRows_stateAfter (rpI M Q)) := ia_St
  unfold f_MSquareRows_stateAfter at h
  have l0 : im_lk (lv_args 0 [.int p0, .int p1]) 0 = some (.int p0) := rfl
  have l1 : im_lk (lv_args 0 [.int p0, .int p1]) 1 = some (.int p1) := rfl
  refine iq_iload_n hS 1 J_MSquareRows_stateAfter_d0 l0 rfl ?_
  obtain ⟨Q1, hQ1, h⟩ := bd1_ed h
  have J1 : ∀ (y5 : Int32) (L' : List (Nat × Value)), im_lk L' 1 = some (.int p1) → Q1 y5 → ia (tb_G L xs) (dep + 1) J_MSquareRows_stateAfter (rpI M Q) (17, L', [.int y5], M) := by
    intro y5 L' l6 h
    replace h := hQ1 _ h
    refine iq_istore_n hS 18 J_MSquareRows_stateAfter_d17 (by decide) rfl ?_
    refine iq_iload_n hS 19 J_MSquareRows_stateAfter_d18 (lk_1i l6 (by decide)) rfl ?_
    refine iq_if_ne hS 22 J_MSquareRows_stateAfter_d19 (t := 36) rfl (fun q19 => ?_) rfl (fun q19 => ?_)
    · replace h := ed_pos q19 h
      refine iq_iload_n hS 37 J_MSquareRows_stateAfter_d36 (lk_1i l6 (by decide)) rfl ?_
      refine iq_iconst hS 38 J_MSquareRows_stateAfter_d37 (v := 1) (by decide +kernel) rfl ?_
      refine iq_icmp_ne hS 41 J_MSquareRows_stateAfter_d38 (t := 56) rfl (fun q38 => ?_) rfl (fun q38 => ?_)
      · replace h := ed_pos q38 h
        refine iq_iconst hS 57 J_MSquareRows_stateAfter_d56 (v := 5) (by decide +kernel) rfl ?_
        exact iq_iret J_MSquareRows_stateAfter_d57 rfl rfl ⟨_, rfl, rfl, ed_some h⟩
      · replace h := ed_neg q38 h
        refine iq_iload_n hS 42 J_MSquareRows_stateAfter_d41 lk_1s rfl ?_
        refine iq_if_ge hS 45 J_MSquareRows_stateAfter_d42 (t := 49) rfl (fun q42 => ?_) rfl (fun q42 => ?_)
        · replace h := ed_pos q42 h
          refine iq_bipush hS 51 J_MSquareRows_stateAfter_d49 (v := 7) (by decide +kernel) rfl ?_
          refine iq_iload_n hS 52 J_MSquareRows_stateAfter_d51 lk_1s rfl ?_
          refine iq_isub hS 53 J_MSquareRows_stateAfter_d52 rfl ?_
          refine iq_goto hS J_MSquareRows_stateAfter_d53 (t := 57) rfl ?_
          exact iq_iret J_MSquareRows_stateAfter_d57 rfl rfl ⟨_, rfl, rfl, ed_some h⟩
        · replace h := ed_neg q42 h
          refine iq_iconst hS 46 J_MSquareRows_stateAfter_d45 (v := 4) (by decide +kernel) rfl ?_
          refine iq_goto hS J_MSquareRows_stateAfter_d46 (t := 57) rfl ?_
          exact iq_iret J_MSquareRows_stateAfter_d57 rfl rfl ⟨_, rfl, rfl, ed_some h⟩
    · replace h := ed_neg q19 h
      refine iq_iload_n hS 23 J_MSquareRows_stateAfter_d22 lk_1s rfl ?_
      refine iq_if_ge hS 26 J_MSquareRows_stateAfter_d23 (t := 30) rfl (fun q23 => ?_) rfl (fun q23 => ?_)
      · replace h := ed_pos q23 h
        refine iq_iload_n hS 31 J_MSquareRows_stateAfter_d30 lk_1s rfl ?_
        refine iq_iconst hS 32 J_MSquareRows_stateAfter_d31 (v := 1) (by decide +kernel) rfl ?_
        refine iq_iadd hS 33 J_MSquareRows_stateAfter_d32 rfl ?_
        refine iq_iconst hS 34 J_MSquareRows_stateAfter_d33 (v := 3) (by decide +kernel) rfl ?_
        refine iq_irem hS 35 J_MSquareRows_stateAfter_d34 (by decide) rfl ?_
        exact iq_iret J_MSquareRows_stateAfter_d35 rfl rfl ⟨_, rfl, rfl, ed_some h⟩
      · replace h := ed_neg q23 h
        refine iq_iconst hS 27 J_MSquareRows_stateAfter_d26 (v := 1) (by decide +kernel) rfl ?_
        refine iq_goto hS J_MSquareRows_stateAfter_d27 (t := 35) rfl ?_
        exact iq_iret J_MSquareRows_stateAfter_d35 rfl rfl ⟨_, rfl, rfl, ed_some h⟩
  obtain ⟨k2, Q2, hQ2, hk2, h⟩ := jn0_ed h
  have J2 : ∀  (L' : List (Nat × Value)), im_lk L' 1 = some (.int p1) → Q2 () → ia (tb_G L xs) (dep + 1) J_MSquareRows_stateAfter (rpI M Q) (16, L', [], M) := by
    intro  L' l4 h
    replace h := hQ2  h
    refine iq_iconst hS 17 J_MSquareRows_stateAfter_d16 (v := (-1)) (by decide +kernel) rfl ?_
    exact J1 _ _ l4 (ed_some h)
  refine iq_if_lt hS 4 J_MSquareRows_stateAfter_d1 (t := 16) rfl (fun q1 => ?_) rfl (fun q1 => ?_)
  · replace h := ed_pos q1 h
    exact J2  _ l1 (hk2  h)
  · replace h := ed_neg q1 h
    refine iq_iload_n hS 5 J_MSquareRows_stateAfter_d4 l0 rfl ?_
    obtain ⟨Q3, hQ3, h⟩ := bd1_ed h
    refine iq_cpI hS 8 J_MSquareRows_stateAfter_d5 rfl (pr_stat (vs := [_]) lc_16_96 lT_398 rfl rfl (by decide) rfl (Nat.le_of_ble_eq_true rfl) (Nat.le_of_ble_eq_true rfl)) (f_MSquareRows_modeOf_ok (dep := dep + 0) hM h) rfl ?_
    intro x3 h
    replace h := hQ3 _ h
    refine iq_iload_n hS 9 J_MSquareRows_stateAfter_d8 l1 rfl ?_
    refine iq_icmp_ne hS 12 J_MSquareRows_stateAfter_d9 (t := 16) rfl (fun q9 => ?_) rfl (fun q9 => ?_)
    · replace h := ed_pos q9 h
      exact J2  _ l1 (hk2  h)
    · replace h := ed_neg q9 h
      refine iq_iload_n hS 13 J_MSquareRows_stateAfter_d12 l0 rfl ?_
      refine iq_goto hS J_MSquareRows_stateAfter_d13 (t := 17) rfl ?_
      exact J1 _ _ l1 (ed_some h)
noncomputable def f_MSquareRows_costOf (p0 : Int32) (p1 : Int32) (p2 : Int32) (M : im_M) : Option (Int32) := bd1 (jn0 (fun (_ : Unit) => some 1) fun k2 => if p0 < 0 then k2 () else bd1 (f_MSquareRows_modeOf p0 M) fun (x3 : Int32) => if x3 = p1 then some 0 else k2 ()) fun (y7 : Int32) => bd1 (if y7 = 0 then some 0 else bd1 (f_MSquareRows_lengthBits p1 p2 M) fun (x12 : Int32) => some ((4 : Int32) + x12)) fun (y13 : Int32) => bd1 (f_MSquareRows_stateAfter p0 p1 M) fun (x16 : Int32) => some (y13 + ((if ¬ p1 = 0 then (if ¬ p1 = 1 then 8 else (if ¬ x16 = 4 then 5 else 6)) else (if ¬ x16 = 1 then 3 else 4)) : Int32))
theorem J_MSquareRows_costOf_d0 : decode J_MSquareRows_costOf.2.1 0 = .ok (.iload_n 0, 1) := by decide +kernel
theorem J_MSquareRows_costOf_d1 : decode J_MSquareRows_costOf.2.1 1 = .ok (.ifCond .lt 11, 3) := by decide +kernel
theorem J_MSquareRows_costOf_d4 : decode J_MSquareRows_costOf.2.1 4 = .ok (.iload_n 0, 1) := by decide +kernel
theorem J_MSquareRows_costOf_d5 : decode J_MSquareRows_costOf.2.1 5 = .ok (.invokestatic 96, 3) := by decide +kernel
theorem J_MSquareRows_costOf_d8 : decode J_MSquareRows_costOf.2.1 8 = .ok (.iload_n 1, 1) := by decide +kernel
theorem J_MSquareRows_costOf_d9 : decode J_MSquareRows_costOf.2.1 9 = .ok (.if_icmp .eq 7, 3) := by decide +kernel
theorem J_MSquareRows_costOf_d12 : decode J_MSquareRows_costOf.2.1 12 = .ok (.iconst 1, 1) := by decide +kernel
theorem J_MSquareRows_costOf_d13 : decode J_MSquareRows_costOf.2.1 13 = .ok (.goto 4, 3) := by decide +kernel
theorem J_MSquareRows_costOf_d16 : decode J_MSquareRows_costOf.2.1 16 = .ok (.iconst 0, 1) := by decide +kernel
theorem J_MSquareRows_costOf_d17 : decode J_MSquareRows_costOf.2.1 17 = .ok (.istore_n 3, 1) := by decide +kernel
theorem J_MSquareRows_costOf_d18 : decode J_MSquareRows_costOf.2.1 18 = .ok (.iload_n 3, 1) := by decide +kernel
theorem J_MSquareRows_costOf_d19 : decode J_MSquareRows_costOf.2.1 19 = .ok (.ifCond .eq 13, 3) := by decide +kernel
theorem J_MSquareRows_costOf_d22 : decode J_MSquareRows_costOf.2.1 22 = .ok (.iconst 4, 1) := by decide +kernel
theorem J_MSquareRows_costOf_d23 : decode J_MSquareRows_costOf.2.1 23 = .ok (.iload_n 1, 1) := by decide +kernel
theorem J_MSquareRows_costOf_d24 : decode J_MSquareRows_costOf.2.1 24 = .ok (.iload_n 2, 1) := by decide +kernel
theorem J_MSquareRows_costOf_d25 : decode J_MSquareRows_costOf.2.1 25 = .ok (.invokestatic 99, 3) := by decide +kernel
theorem J_MSquareRows_costOf_d28 : decode J_MSquareRows_costOf.2.1 28 = .ok (.iadd, 1) := by decide +kernel
theorem J_MSquareRows_costOf_d29 : decode J_MSquareRows_costOf.2.1 29 = .ok (.goto 4, 3) := by decide +kernel
theorem J_MSquareRows_costOf_d32 : decode J_MSquareRows_costOf.2.1 32 = .ok (.iconst 0, 1) := by decide +kernel
theorem J_MSquareRows_costOf_d33 : decode J_MSquareRows_costOf.2.1 33 = .ok (.istore 4, 2) := by decide +kernel
theorem J_MSquareRows_costOf_d35 : decode J_MSquareRows_costOf.2.1 35 = .ok (.iload_n 0, 1) := by decide +kernel
theorem J_MSquareRows_costOf_d36 : decode J_MSquareRows_costOf.2.1 36 = .ok (.iload_n 1, 1) := by decide +kernel
theorem J_MSquareRows_costOf_d37 : decode J_MSquareRows_costOf.2.1 37 = .ok (.invokestatic 102, 3) := by decide +kernel
theorem J_MSquareRows_costOf_d40 : decode J_MSquareRows_costOf.2.1 40 = .ok (.istore 5, 2) := by decide +kernel
theorem J_MSquareRows_costOf_d42 : decode J_MSquareRows_costOf.2.1 42 = .ok (.iload 4, 2) := by decide +kernel
theorem J_MSquareRows_costOf_d44 : decode J_MSquareRows_costOf.2.1 44 = .ok (.iload_n 1, 1) := by decide +kernel
theorem J_MSquareRows_costOf_d45 : decode J_MSquareRows_costOf.2.1 45 = .ok (.ifCond .ne 17, 3) := by decide +kernel
theorem J_MSquareRows_costOf_d48 : decode J_MSquareRows_costOf.2.1 48 = .ok (.iload 5, 2) := by decide +kernel
theorem J_MSquareRows_costOf_d50 : decode J_MSquareRows_costOf.2.1 50 = .ok (.iconst 1, 1) := by decide +kernel
theorem J_MSquareRows_costOf_d51 : decode J_MSquareRows_costOf.2.1 51 = .ok (.if_icmp .ne 7, 3) := by decide +kernel
theorem J_MSquareRows_costOf_d54 : decode J_MSquareRows_costOf.2.1 54 = .ok (.iconst 4, 1) := by decide +kernel
theorem J_MSquareRows_costOf_d55 : decode J_MSquareRows_costOf.2.1 55 = .ok (.goto 29, 3) := by decide +kernel
theorem J_MSquareRows_costOf_d58 : decode J_MSquareRows_costOf.2.1 58 = .ok (.iconst 3, 1) := by decide +kernel
theorem J_MSquareRows_costOf_d59 : decode J_MSquareRows_costOf.2.1 59 = .ok (.goto 25, 3) := by decide +kernel
theorem J_MSquareRows_costOf_d62 : decode J_MSquareRows_costOf.2.1 62 = .ok (.iload_n 1, 1) := by decide +kernel
theorem J_MSquareRows_costOf_d63 : decode J_MSquareRows_costOf.2.1 63 = .ok (.iconst 1, 1) := by decide +kernel
theorem J_MSquareRows_costOf_d64 : decode J_MSquareRows_costOf.2.1 64 = .ok (.if_icmp .ne 18, 3) := by decide +kernel
theorem J_MSquareRows_costOf_d67 : decode J_MSquareRows_costOf.2.1 67 = .ok (.iload 5, 2) := by decide +kernel
theorem J_MSquareRows_costOf_d69 : decode J_MSquareRows_costOf.2.1 69 = .ok (.iconst 4, 1) := by decide +kernel
theorem J_MSquareRows_costOf_d70 : decode J_MSquareRows_costOf.2.1 70 = .ok (.if_icmp .ne 8, 3) := by decide +kernel
theorem J_MSquareRows_costOf_d73 : decode J_MSquareRows_costOf.2.1 73 = .ok (.bipush 6, 2) := by decide +kernel
theorem J_MSquareRows_costOf_d75 : decode J_MSquareRows_costOf.2.1 75 = .ok (.goto 9, 3) := by decide +kernel
theorem J_MSquareRows_costOf_d78 : decode J_MSquareRows_costOf.2.1 78 = .ok (.iconst 5, 1) := by decide +kernel
theorem J_MSquareRows_costOf_d79 : decode J_MSquareRows_costOf.2.1 79 = .ok (.goto 5, 3) := by decide +kernel
theorem J_MSquareRows_costOf_d82 : decode J_MSquareRows_costOf.2.1 82 = .ok (.bipush 8, 2) := by decide +kernel
theorem J_MSquareRows_costOf_d84 : decode J_MSquareRows_costOf.2.1 84 = .ok (.iadd, 1) := by decide +kernel
theorem J_MSquareRows_costOf_d85 : decode J_MSquareRows_costOf.2.1 85 = .ok (.ireturn, 1) := by decide +kernel
theorem f_MSquareRows_costOf_ok {L : Nat} {xs : Nat → Int32} {dep : Nat} {w : Bool} {p0 : Int32} {p1 : Int32} {p2 : Int32} {M : im_M} {Q : Int32 → Prop} (hM : lw_S w M) (h : ed (f_MSquareRows_costOf p0 p1 p2 M) Q) : ia (tb_G L xs) (dep + 2) J_MSquareRows_costOf (rpI M Q) (0, lv_args 0 [.int p0, .int p1, .int p2], [], M) := by
  have hS : im_St (tb_G L xs) (dep + 2) J_MSquareRows_costOf (ia (tb_G L xs) (dep + 2) J_MSquareRows_costOf (rpI M Q)) := ia_St
  unfold f_MSquareRows_costOf at h
  have l0 : im_lk (lv_args 0 [.int p0, .int p1, .int p2]) 0 = some (.int p0) := rfl
  have l1 : im_lk (lv_args 0 [.int p0, .int p1, .int p2]) 1 = some (.int p1) := rfl
  have l2 : im_lk (lv_args 0 [.int p0, .int p1, .int p2]) 2 = some (.int p2) := rfl
  refine iq_iload_n hS 1 J_MSquareRows_costOf_d0 l0 rfl ?_
  obtain ⟨Q1, hQ1, h⟩ := bd1_ed h
  have J1 : ∀ (y7 : Int32) (L' : List (Nat × Value)), im_lk L' 0 = some (.int p0) → im_lk L' 1 = some (.int p1) → im_lk L' 2 = some (.int p2) → Q1 y7 → ia (tb_G L xs) (dep + 2) J_MSquareRows_costOf (rpI M Q) (17, L', [.int y7], M) := by
    intro y7 L' l8 l9 l10 h
    replace h := hQ1 _ h
    refine iq_istore_n hS 18 J_MSquareRows_costOf_d17 (by decide) rfl ?_
    refine iq_iload_n hS 19 J_MSquareRows_costOf_d18 lk_1s rfl ?_
    obtain ⟨Q11, hQ11, h⟩ := bd1_ed h
    have J11 : ∀ (y13 : Int32) (L' : List (Nat × Value)), im_lk L' 0 = some (.int p0) → im_lk L' 1 = some (.int p1) → Q11 y13 → ia (tb_G L xs) (dep + 2) J_MSquareRows_costOf (rpI M Q) (33, L', [.int y13], M) := by
      intro y13 L' l14 l15 h
      replace h := hQ11 _ h
      refine iq_istore hS 35 J_MSquareRows_costOf_d33 (by decide) rfl ?_
      refine iq_iload_n hS 36 J_MSquareRows_costOf_d35 (lk_1i l14 (by decide)) rfl ?_
      refine iq_iload_n hS 37 J_MSquareRows_costOf_d36 (lk_1i l15 (by decide)) rfl ?_
      obtain ⟨Q16, hQ16, h⟩ := bd1_ed h
      refine iq_cpI hS 40 J_MSquareRows_costOf_d37 rfl (pr_stat (vs := [_, _]) lc_16_102 lT_400 rfl rfl (by decide) rfl (Nat.le_of_ble_eq_true rfl) (Nat.le_of_ble_eq_true rfl)) (f_MSquareRows_stateAfter_ok (dep := dep + 0) hM h) rfl ?_
      intro x16 h
      replace h := hQ16 _ h
      refine iq_istore hS 42 J_MSquareRows_costOf_d40 (by decide) rfl ?_
      refine iq_iload hS 44 J_MSquareRows_costOf_d42 (lk_1i lk_1s (by decide)) rfl ?_
      refine iq_iload_n hS 45 J_MSquareRows_costOf_d44 (lk_1i (lk_1i l15 (by decide)) (by decide)) rfl ?_
      have J17 : ∀ (z18 : Int32) (L' : List (Nat × Value)), z18 = ((if ¬ p1 = 0 then (if ¬ p1 = 1 then 8 else (if ¬ x16 = 4 then 5 else 6)) else (if ¬ x16 = 1 then 3 else 4)) : Int32) → ia (tb_G L xs) (dep + 2) J_MSquareRows_costOf (rpI M Q) (84, L', [.int z18, .int y13], M) := by
        intro z18 L' e19 
        subst e19
        refine iq_iadd hS 85 J_MSquareRows_costOf_d84 rfl ?_
        exact iq_iret J_MSquareRows_costOf_d85 rfl rfl ⟨_, rfl, rfl, ed_some h⟩
      refine iq_if_ne hS 48 J_MSquareRows_costOf_d45 (t := 62) rfl (fun q45 => ?_) rfl (fun q45 => ?_)
      · refine iq_iload_n hS 63 J_MSquareRows_costOf_d62 (lk_1i (lk_1i l15 (by decide)) (by decide)) rfl ?_
        refine iq_iconst hS 64 J_MSquareRows_costOf_d63 (v := 1) (by decide +kernel) rfl ?_
        refine iq_icmp_ne hS 67 J_MSquareRows_costOf_d64 (t := 82) rfl (fun q64 => ?_) rfl (fun q64 => ?_)
        · refine iq_bipush hS 84 J_MSquareRows_costOf_d82 (v := 8) (by decide +kernel) rfl ?_
          exact J17 _ _ (by simp only [if_pos q45, if_pos q64]) 
        · refine iq_iload hS 69 J_MSquareRows_costOf_d67 lk_1s rfl ?_
          refine iq_iconst hS 70 J_MSquareRows_costOf_d69 (v := 4) (by decide +kernel) rfl ?_
          refine iq_icmp_ne hS 73 J_MSquareRows_costOf_d70 (t := 78) rfl (fun q70 => ?_) rfl (fun q70 => ?_)
          · refine iq_iconst hS 79 J_MSquareRows_costOf_d78 (v := 5) (by decide +kernel) rfl ?_
            refine iq_goto hS J_MSquareRows_costOf_d79 (t := 84) rfl ?_
            exact J17 _ _ (by simp only [if_pos q45, if_neg q64, if_pos q70]) 
          · refine iq_bipush hS 75 J_MSquareRows_costOf_d73 (v := 6) (by decide +kernel) rfl ?_
            refine iq_goto hS J_MSquareRows_costOf_d75 (t := 84) rfl ?_
            exact J17 _ _ (by simp only [if_pos q45, if_neg q64, if_neg q70]) 
      · refine iq_iload hS 50 J_MSquareRows_costOf_d48 lk_1s rfl ?_
        refine iq_iconst hS 51 J_MSquareRows_costOf_d50 (v := 1) (by decide +kernel) rfl ?_
        refine iq_icmp_ne hS 54 J_MSquareRows_costOf_d51 (t := 58) rfl (fun q51 => ?_) rfl (fun q51 => ?_)
        · refine iq_iconst hS 59 J_MSquareRows_costOf_d58 (v := 3) (by decide +kernel) rfl ?_
          refine iq_goto hS J_MSquareRows_costOf_d59 (t := 84) rfl ?_
          exact J17 _ _ (by simp only [if_neg q45, if_pos q51]) 
        · refine iq_iconst hS 55 J_MSquareRows_costOf_d54 (v := 4) (by decide +kernel) rfl ?_
          refine iq_goto hS J_MSquareRows_costOf_d55 (t := 84) rfl ?_
          exact J17 _ _ (by simp only [if_neg q45, if_neg q51]) 
    refine iq_if_eq hS 22 J_MSquareRows_costOf_d19 (t := 32) rfl (fun q19 => ?_) rfl (fun q19 => ?_)
    · replace h := ed_pos q19 h
      refine iq_iconst hS 33 J_MSquareRows_costOf_d32 (v := 0) (by decide +kernel) rfl ?_
      exact J11 _ _ (lk_1i l8 (by decide)) (lk_1i l9 (by decide)) (ed_some h)
    · replace h := ed_neg q19 h
      refine iq_iconst hS 23 J_MSquareRows_costOf_d22 (v := 4) (by decide +kernel) rfl ?_
      refine iq_iload_n hS 24 J_MSquareRows_costOf_d23 (lk_1i l9 (by decide)) rfl ?_
      refine iq_iload_n hS 25 J_MSquareRows_costOf_d24 (lk_1i l10 (by decide)) rfl ?_
      obtain ⟨Q12, hQ12, h⟩ := bd1_ed h
      refine iq_cpI hS 28 J_MSquareRows_costOf_d25 rfl (pr_stat (vs := [_, _]) lc_16_99 lT_399 rfl rfl (by decide) rfl (Nat.le_of_ble_eq_true rfl) (Nat.le_of_ble_eq_true rfl)) (f_MSquareRows_lengthBits_ok (dep := dep + 1) hM h) rfl ?_
      intro x12 h
      replace h := hQ12 _ h
      refine iq_iadd hS 29 J_MSquareRows_costOf_d28 rfl ?_
      refine iq_goto hS J_MSquareRows_costOf_d29 (t := 33) rfl ?_
      exact J11 _ _ (lk_1i l8 (by decide)) (lk_1i l9 (by decide)) (ed_some h)
  obtain ⟨k2, Q2, hQ2, hk2, h⟩ := jn0_ed h
  have J2 : ∀  (L' : List (Nat × Value)), im_lk L' 0 = some (.int p0) → im_lk L' 1 = some (.int p1) → im_lk L' 2 = some (.int p2) → Q2 () → ia (tb_G L xs) (dep + 2) J_MSquareRows_costOf (rpI M Q) (12, L', [], M) := by
    intro  L' l4 l5 l6 h
    replace h := hQ2  h
    refine iq_iconst hS 13 J_MSquareRows_costOf_d12 (v := 1) (by decide +kernel) rfl ?_
    refine iq_goto hS J_MSquareRows_costOf_d13 (t := 17) rfl ?_
    exact J1 _ _ l4 l5 l6 (ed_some h)
  refine iq_if_lt hS 4 J_MSquareRows_costOf_d1 (t := 12) rfl (fun q1 => ?_) rfl (fun q1 => ?_)
  · replace h := ed_pos q1 h
    exact J2  _ l0 l1 l2 (hk2  h)
  · replace h := ed_neg q1 h
    refine iq_iload_n hS 5 J_MSquareRows_costOf_d4 l0 rfl ?_
    obtain ⟨Q3, hQ3, h⟩ := bd1_ed h
    refine iq_cpI hS 8 J_MSquareRows_costOf_d5 rfl (pr_stat (vs := [_]) lc_16_96 lT_398 rfl rfl (by decide) rfl (Nat.le_of_ble_eq_true rfl) (Nat.le_of_ble_eq_true rfl)) (f_MSquareRows_modeOf_ok (dep := dep + 1) hM h) rfl ?_
    intro x3 h
    replace h := hQ3 _ h
    refine iq_iload_n hS 9 J_MSquareRows_costOf_d8 l1 rfl ?_
    refine iq_icmp_eq hS 12 J_MSquareRows_costOf_d9 (t := 16) rfl (fun q9 => ?_) rfl (fun q9 => ?_)
    · replace h := ed_pos q9 h
      refine iq_iconst hS 17 J_MSquareRows_costOf_d16 (v := 0) (by decide +kernel) rfl ?_
      exact J1 _ _ l0 l1 l2 (ed_some h)
    · replace h := ed_neg q9 h
      exact J2  _ l0 l1 l2 (hk2  h)
noncomputable def f_MSquareRows_restOf (p0 : Int32) (p1 : Int32) (p2 : Int32) (p3 : Int32) (M : im_M) : Option (Int32) := gd (inb p0 3000) <| bd1 (f_MSquareRows_may p2 (im_i M 111 (Int32.toNatClampNeg p0)) M) fun (x1 : Int32) => if x1 = 0 then some 1000000 else bd1 (f_MSquareRows_costOf p1 p2 p3 M) fun (x2 : Int32) => bd1 (f_MSquareRows_stateAfter p1 p2 M) fun (x3 : Int32) => gd (inb (((6 : Int32) * (p0 + 1)) + x3) 18006) <| some (x2 + (im_i M 118 (Int32.toNatClampNeg (((6 : Int32) * (p0 + 1)) + x3))))
theorem J_MSquareRows_restOf_d0 : decode J_MSquareRows_restOf.2.1 0 = .ok (.iload_n 3, 1) := by decide +kernel
theorem J_MSquareRows_restOf_d1 : decode J_MSquareRows_restOf.2.1 1 = .ok (.aload_n 0, 1) := by decide +kernel
theorem J_MSquareRows_restOf_d2 : decode J_MSquareRows_restOf.2.1 2 = .ok (.getfield 16, 3) := by decide +kernel
theorem J_MSquareRows_restOf_d5 : decode J_MSquareRows_restOf.2.1 5 = .ok (.iload_n 1, 1) := by decide +kernel
theorem J_MSquareRows_restOf_d6 : decode J_MSquareRows_restOf.2.1 6 = .ok (.iaload, 1) := by decide +kernel
theorem J_MSquareRows_restOf_d7 : decode J_MSquareRows_restOf.2.1 7 = .ok (.invokestatic 105, 3) := by decide +kernel
theorem J_MSquareRows_restOf_d10 : decode J_MSquareRows_restOf.2.1 10 = .ok (.ifCond .eq 31, 3) := by decide +kernel
theorem J_MSquareRows_restOf_d13 : decode J_MSquareRows_restOf.2.1 13 = .ok (.iload_n 2, 1) := by decide +kernel
theorem J_MSquareRows_restOf_d14 : decode J_MSquareRows_restOf.2.1 14 = .ok (.iload_n 3, 1) := by decide +kernel
theorem J_MSquareRows_restOf_d15 : decode J_MSquareRows_restOf.2.1 15 = .ok (.iload 4, 2) := by decide +kernel
theorem J_MSquareRows_restOf_d17 : decode J_MSquareRows_restOf.2.1 17 = .ok (.invokestatic 109, 3) := by decide +kernel
theorem J_MSquareRows_restOf_d20 : decode J_MSquareRows_restOf.2.1 20 = .ok (.aload_n 0, 1) := by decide +kernel
theorem J_MSquareRows_restOf_d21 : decode J_MSquareRows_restOf.2.1 21 = .ok (.getfield 37, 3) := by decide +kernel
theorem J_MSquareRows_restOf_d24 : decode J_MSquareRows_restOf.2.1 24 = .ok (.bipush 6, 2) := by decide +kernel
theorem J_MSquareRows_restOf_d26 : decode J_MSquareRows_restOf.2.1 26 = .ok (.iload_n 1, 1) := by decide +kernel
theorem J_MSquareRows_restOf_d27 : decode J_MSquareRows_restOf.2.1 27 = .ok (.iconst 1, 1) := by decide +kernel
theorem J_MSquareRows_restOf_d28 : decode J_MSquareRows_restOf.2.1 28 = .ok (.iadd, 1) := by decide +kernel
theorem J_MSquareRows_restOf_d29 : decode J_MSquareRows_restOf.2.1 29 = .ok (.imul, 1) := by decide +kernel
theorem J_MSquareRows_restOf_d30 : decode J_MSquareRows_restOf.2.1 30 = .ok (.iload_n 2, 1) := by decide +kernel
theorem J_MSquareRows_restOf_d31 : decode J_MSquareRows_restOf.2.1 31 = .ok (.iload_n 3, 1) := by decide +kernel
theorem J_MSquareRows_restOf_d32 : decode J_MSquareRows_restOf.2.1 32 = .ok (.invokestatic 102, 3) := by decide +kernel
theorem J_MSquareRows_restOf_d35 : decode J_MSquareRows_restOf.2.1 35 = .ok (.iadd, 1) := by decide +kernel
theorem J_MSquareRows_restOf_d36 : decode J_MSquareRows_restOf.2.1 36 = .ok (.iaload, 1) := by decide +kernel
theorem J_MSquareRows_restOf_d37 : decode J_MSquareRows_restOf.2.1 37 = .ok (.iadd, 1) := by decide +kernel
theorem J_MSquareRows_restOf_d38 : decode J_MSquareRows_restOf.2.1 38 = .ok (.goto 5, 3) := by decide +kernel
theorem J_MSquareRows_restOf_d41 : decode J_MSquareRows_restOf.2.1 41 = .ok (.ldc 113, 2) := by decide +kernel
theorem J_MSquareRows_restOf_d43 : decode J_MSquareRows_restOf.2.1 43 = .ok (.ireturn, 1) := by decide +kernel
theorem f_MSquareRows_restOf_ok {L : Nat} {xs : Nat → Int32} {dep : Nat} {w : Bool} {p0 : Int32} {p1 : Int32} {p2 : Int32} {p3 : Int32} {M : im_M} {Q : Int32 → Prop} (hM : lw_S w M) (h : ed (f_MSquareRows_restOf p0 p1 p2 p3 M) Q) : ia (tb_G L xs) (dep + 3) J_MSquareRows_restOf (rpI M Q) (0, lv_args 0 [.ref 108, .int p0, .int p1, .int p2, .int p3], [], M) := by
  have hS : im_St (tb_G L xs) (dep + 3) J_MSquareRows_restOf (ia (tb_G L xs) (dep + 3) J_MSquareRows_restOf (rpI M Q)) := ia_St
  unfold f_MSquareRows_restOf at h
  have l0 : im_lk (lv_args 0 [.ref 108, .int p0, .int p1, .int p2, .int p3]) 0 = some (.ref 108) := rfl
  have l1 : im_lk (lv_args 0 [.ref 108, .int p0, .int p1, .int p2, .int p3]) 1 = some (.int p0) := rfl
  have l2 : im_lk (lv_args 0 [.ref 108, .int p0, .int p1, .int p2, .int p3]) 2 = some (.int p1) := rfl
  have l3 : im_lk (lv_args 0 [.ref 108, .int p0, .int p1, .int p2, .int p3]) 3 = some (.int p2) := rfl
  have l4 : im_lk (lv_args 0 [.ref 108, .int p0, .int p1, .int p2, .int p3]) 4 = some (.int p3) := rfl
  refine iq_iload_n hS 1 J_MSquareRows_restOf_d0 l3 rfl ?_
  refine iq_aload_n hS 2 J_MSquareRows_restOf_d1 l0 rfl ?_
  refine iq_getR hS 5 J_MSquareRows_restOf_d2 lf_16_16 (Or.inr ⟨_, rfl⟩) (ka_108 hM) (ra_108_3 hM) rfl ?_
  refine iq_iload_n hS 6 J_MSquareRows_restOf_d5 l1 rfl ?_
  obtain ⟨g6, h⟩ := ed_gd h
  refine iq_iaload hS 7 J_MSquareRows_restOf_d6 ⟨(ka_111 hM).1, (ka_111 hM).2, g6.1, ix_lt (kl_111 hM) g6.2⟩ rfl ?_
  obtain ⟨Q1, hQ1, h⟩ := bd1_ed h
  refine iq_cpI hS 10 J_MSquareRows_restOf_d7 rfl (pr_stat (vs := [_, _]) lc_16_105 lT_395 rfl rfl (by decide) rfl (Nat.le_of_ble_eq_true rfl) (Nat.le_of_ble_eq_true rfl)) (f_MSquareRows_may_ok (dep := dep + 1) hM h) rfl ?_
  intro x1 h
  replace h := hQ1 _ h
  refine iq_if_eq hS 13 J_MSquareRows_restOf_d10 (t := 41) rfl (fun q10 => ?_) rfl (fun q10 => ?_)
  · replace h := ed_pos q10 h
    refine iq_ldc hS 43 J_MSquareRows_restOf_d41 lk_16_113 rfl ?_
    exact iq_iret J_MSquareRows_restOf_d43 rfl rfl ⟨_, rfl, rfl, ed_some h⟩
  · replace h := ed_neg q10 h
    refine iq_iload_n hS 14 J_MSquareRows_restOf_d13 l2 rfl ?_
    refine iq_iload_n hS 15 J_MSquareRows_restOf_d14 l3 rfl ?_
    refine iq_iload hS 17 J_MSquareRows_restOf_d15 l4 rfl ?_
    obtain ⟨Q2, hQ2, h⟩ := bd1_ed h
    refine iq_cpI hS 20 J_MSquareRows_restOf_d17 rfl (pr_stat (vs := [_, _, _]) lc_16_109 lT_397 rfl rfl (by decide) rfl (Nat.le_of_ble_eq_true rfl) (Nat.le_of_ble_eq_true rfl)) (f_MSquareRows_costOf_ok (dep := dep + 0) hM h) rfl ?_
    intro x2 h
    replace h := hQ2 _ h
    refine iq_aload_n hS 21 J_MSquareRows_restOf_d20 l0 rfl ?_
    refine iq_getR hS 24 J_MSquareRows_restOf_d21 lf_16_37 (Or.inr ⟨_, rfl⟩) (ka_108 hM) (ra_108_15 hM) rfl ?_
    refine iq_bipush hS 26 J_MSquareRows_restOf_d24 (v := 6) (by decide +kernel) rfl ?_
    refine iq_iload_n hS 27 J_MSquareRows_restOf_d26 l1 rfl ?_
    refine iq_iconst hS 28 J_MSquareRows_restOf_d27 (v := 1) (by decide +kernel) rfl ?_
    refine iq_iadd hS 29 J_MSquareRows_restOf_d28 rfl ?_
    refine iq_imul hS 30 J_MSquareRows_restOf_d29 rfl ?_
    refine iq_iload_n hS 31 J_MSquareRows_restOf_d30 l2 rfl ?_
    refine iq_iload_n hS 32 J_MSquareRows_restOf_d31 l3 rfl ?_
    obtain ⟨Q3, hQ3, h⟩ := bd1_ed h
    refine iq_cpI hS 35 J_MSquareRows_restOf_d32 rfl (pr_stat (vs := [_, _]) lc_16_102 lT_400 rfl rfl (by decide) rfl (Nat.le_of_ble_eq_true rfl) (Nat.le_of_ble_eq_true rfl)) (f_MSquareRows_stateAfter_ok (dep := dep + 1) hM h) rfl ?_
    intro x3 h
    replace h := hQ3 _ h
    refine iq_iadd hS 36 J_MSquareRows_restOf_d35 rfl ?_
    obtain ⟨g36, h⟩ := ed_gd h
    refine iq_iaload hS 37 J_MSquareRows_restOf_d36 ⟨(ka_118 hM).1, (ka_118 hM).2, g36.1, ix_lt (kl_118 hM) g36.2⟩ rfl ?_
    refine iq_iadd hS 38 J_MSquareRows_restOf_d37 rfl ?_
    refine iq_goto hS J_MSquareRows_restOf_d38 (t := 43) rfl ?_
    exact iq_iret J_MSquareRows_restOf_d43 rfl rfl ⟨_, rfl, rfl, ed_some h⟩
noncomputable def f_MSquareRows_least_L7 (v2 : Int32) (v3 : Int32) (v4 : Int32) (M7 : im_M) (x5 : Int32) (x6 : Int32) : Option ((Int32 × Int32) ⊕ (Int32)) := if 3 ≤ x6 then some (.inr x5) else bd1 (f_MSquareRows_restOf v2 v3 x6 v4 M7) fun (x8 : Int32) => some (.inl (((if x5 ≤ x8 then x5 else x8) : Int32), (x6 + 1)))
noncomputable def f_MSquareRows_least (p0 : Int32) (p1 : Int32) (p2 : Int32) (M : im_M) : Option (Int32) := bd1 (lp (uc2 (f_MSquareRows_least_L7 p0 p1 p2 M)) (1000000, 0)) fun (y10 : Int32) => some y10
theorem J_MSquareRows_least_d0 : decode J_MSquareRows_least.2.1 0 = .ok (.ldc 113, 2) := by decide +kernel
theorem J_MSquareRows_least_d2 : decode J_MSquareRows_least.2.1 2 = .ok (.istore 4, 2) := by decide +kernel
theorem J_MSquareRows_least_d4 : decode J_MSquareRows_least.2.1 4 = .ok (.iconst 0, 1) := by decide +kernel
theorem J_MSquareRows_least_d5 : decode J_MSquareRows_least.2.1 5 = .ok (.istore 5, 2) := by decide +kernel
theorem J_MSquareRows_least_d7 : decode J_MSquareRows_least.2.1 7 = .ok (.iload 5, 2) := by decide +kernel
theorem J_MSquareRows_least_d9 : decode J_MSquareRows_least.2.1 9 = .ok (.iconst 3, 1) := by decide +kernel
theorem J_MSquareRows_least_d10 : decode J_MSquareRows_least.2.1 10 = .ok (.if_icmp .ge 36, 3) := by decide +kernel
theorem J_MSquareRows_least_d13 : decode J_MSquareRows_least.2.1 13 = .ok (.aload_n 0, 1) := by decide +kernel
theorem J_MSquareRows_least_d14 : decode J_MSquareRows_least.2.1 14 = .ok (.iload_n 1, 1) := by decide +kernel
theorem J_MSquareRows_least_d15 : decode J_MSquareRows_least.2.1 15 = .ok (.iload_n 2, 1) := by decide +kernel
theorem J_MSquareRows_least_d16 : decode J_MSquareRows_least.2.1 16 = .ok (.iload 5, 2) := by decide +kernel
theorem J_MSquareRows_least_d18 : decode J_MSquareRows_least.2.1 18 = .ok (.iload_n 3, 1) := by decide +kernel
theorem J_MSquareRows_least_d19 : decode J_MSquareRows_least.2.1 19 = .ok (.invokevirtual 114, 3) := by decide +kernel
theorem J_MSquareRows_least_d22 : decode J_MSquareRows_least.2.1 22 = .ok (.istore 6, 2) := by decide +kernel
theorem J_MSquareRows_least_d24 : decode J_MSquareRows_least.2.1 24 = .ok (.iload 6, 2) := by decide +kernel
theorem J_MSquareRows_least_d26 : decode J_MSquareRows_least.2.1 26 = .ok (.iload 4, 2) := by decide +kernel
theorem J_MSquareRows_least_d28 : decode J_MSquareRows_least.2.1 28 = .ok (.if_icmp .ge 8, 3) := by decide +kernel
theorem J_MSquareRows_least_d31 : decode J_MSquareRows_least.2.1 31 = .ok (.iload 6, 2) := by decide +kernel
theorem J_MSquareRows_least_d33 : decode J_MSquareRows_least.2.1 33 = .ok (.goto 5, 3) := by decide +kernel
theorem J_MSquareRows_least_d36 : decode J_MSquareRows_least.2.1 36 = .ok (.iload 4, 2) := by decide +kernel
theorem J_MSquareRows_least_d38 : decode J_MSquareRows_least.2.1 38 = .ok (.istore 4, 2) := by decide +kernel
theorem J_MSquareRows_least_d40 : decode J_MSquareRows_least.2.1 40 = .ok (.iinc 5 1, 3) := by decide +kernel
theorem J_MSquareRows_least_d43 : decode J_MSquareRows_least.2.1 43 = .ok (.goto (-36), 3) := by decide +kernel
theorem J_MSquareRows_least_d46 : decode J_MSquareRows_least.2.1 46 = .ok (.iload 4, 2) := by decide +kernel
theorem J_MSquareRows_least_d48 : decode J_MSquareRows_least.2.1 48 = .ok (.ireturn, 1) := by decide +kernel
theorem f_MSquareRows_least_ok {L : Nat} {xs : Nat → Int32} {dep : Nat} {w : Bool} {p0 : Int32} {p1 : Int32} {p2 : Int32} {M : im_M} {Q : Int32 → Prop} (hM : lw_S w M) (h : ed (f_MSquareRows_least p0 p1 p2 M) Q) : ia (tb_G L xs) (dep + 4) J_MSquareRows_least (rpI M Q) (0, lv_args 0 [.ref 108, .int p0, .int p1, .int p2], [], M) := by
  have hS : im_St (tb_G L xs) (dep + 4) J_MSquareRows_least (ia (tb_G L xs) (dep + 4) J_MSquareRows_least (rpI M Q)) := ia_St
  unfold f_MSquareRows_least at h
  have l0 : im_lk (lv_args 0 [.ref 108, .int p0, .int p1, .int p2]) 0 = some (.ref 108) := rfl
  have l1 : im_lk (lv_args 0 [.ref 108, .int p0, .int p1, .int p2]) 1 = some (.int p0) := rfl
  have l2 : im_lk (lv_args 0 [.ref 108, .int p0, .int p1, .int p2]) 2 = some (.int p1) := rfl
  have l3 : im_lk (lv_args 0 [.ref 108, .int p0, .int p1, .int p2]) 3 = some (.int p2) := rfl
  refine iq_ldc hS 2 J_MSquareRows_least_d0 lk_16_113 rfl ?_
  refine iq_istore hS 4 J_MSquareRows_least_d2 (by decide) rfl ?_
  refine iq_iconst hS 5 J_MSquareRows_least_d4 (v := 0) (by decide +kernel) rfl ?_
  refine iq_istore hS 7 J_MSquareRows_least_d5 (by decide) rfl ?_
  obtain ⟨Q1, hQ1, h⟩ := bd1_ed h
  have K1 : ∀ (y2 : Int32) (L' : List (Nat × Value)), im_lk L' 4 = some (.int y2) → Q1 y2 → ia (tb_G L xs) (dep + 4) J_MSquareRows_least (rpI M Q) (46, L', [], M) := by
    intro y2 L' l3 h
    replace h := hQ1 _ h
    refine iq_iload hS 48 J_MSquareRows_least_d46 l3 rfl ?_
    exact iq_iret J_MSquareRows_least_d48 rfl rfl ⟨_, rfl, rfl, ed_some h⟩
  obtain ⟨r1, hr1, hq1⟩ := h
  obtain ⟨n1, hn1⟩ := lp_n hr1
  have I1 : ∀ (n : Nat) (x4 : Int32) (x5 : Int32) (L' : List (Nat × Value)), im_lk L' 0 = some (.ref 108) → im_lk L' 1 = some (.int p0) → im_lk L' 2 = some (.int p1) → im_lk L' 3 = some (.int p2) → im_lk L' 4 = some (.int x4) → im_lk L' 5 = some (.int x5) → lpn (uc2 (f_MSquareRows_least_L7 p0 p1 p2 M)) n (x4, x5) = some r1 → ia (tb_G L xs) (dep + 4) J_MSquareRows_least (rpI M Q) (7, L', [], M) := by
    intro n
    induction n with
    | zero => intro x4 x5 L' l6 l7 l8 l9 l10 l11 hn; exact (lpn_0 hn).elim
    | succ n ih =>
      intro x4 x5 L' l6 l7 l8 l9 l10 l11 hn
      have h := lpn_ed2 hn
      unfold f_MSquareRows_least_L7 at h
      refine iq_iload hS 9 J_MSquareRows_least_d7 l11 rfl ?_
      refine iq_iconst hS 10 J_MSquareRows_least_d9 (v := 3) (by decide +kernel) rfl ?_
      refine iq_icmp_ge hS 13 J_MSquareRows_least_d10 (t := 46) rfl (fun q10 => ?_) rfl (fun q10 => ?_)
      · replace h := ed_pos q10 h
        exact K1 _ _ l10 (lq_r h hq1)
      · replace h := ed_neg q10 h
        refine iq_aload_n hS 14 J_MSquareRows_least_d13 l6 rfl ?_
        refine iq_iload_n hS 15 J_MSquareRows_least_d14 l7 rfl ?_
        refine iq_iload_n hS 16 J_MSquareRows_least_d15 l8 rfl ?_
        refine iq_iload hS 18 J_MSquareRows_least_d16 l11 rfl ?_
        refine iq_iload_n hS 19 J_MSquareRows_least_d18 l9 rfl ?_
        obtain ⟨Q12, hQ12, h⟩ := bd1_ed h
        refine iq_cpI hS 22 J_MSquareRows_least_d19 rfl (pr_inst (vs := [_, _, _, _]) lc_16_114 lT_394 rfl rfl (by decide) (by decide) rfl (Nat.le_of_ble_eq_true rfl) (Nat.le_of_ble_eq_true rfl) (fun _ => Or.inl (pr_b (ka_108 hM) (by decide) rfl))) (f_MSquareRows_restOf_ok (dep := dep + 0) hM h) rfl ?_
        intro x12 h
        replace h := hQ12 _ h
        refine iq_istore hS 24 J_MSquareRows_least_d22 (by decide) rfl ?_
        refine iq_iload hS 26 J_MSquareRows_least_d24 lk_1s rfl ?_
        refine iq_iload hS 28 J_MSquareRows_least_d26 (lk_1i l10 (by decide)) rfl ?_
        have J13 : ∀ (z14 : Int32) (L' : List (Nat × Value)), z14 = ((if x4 ≤ x12 then x4 else x12) : Int32) → im_lk L' 0 = some (.ref 108) → im_lk L' 1 = some (.int p0) → im_lk L' 2 = some (.int p1) → im_lk L' 3 = some (.int p2) → im_lk L' 5 = some (.int x5) → ia (tb_G L xs) (dep + 4) J_MSquareRows_least (rpI M Q) (38, L', [.int z14], M) := by
          intro z14 L' e15 l16 l17 l18 l19 l20
          subst e15
          refine iq_istore hS 40 J_MSquareRows_least_d38 (by decide) rfl ?_
          refine iq_iincv hS 43 J_MSquareRows_least_d40 (c := 1) (by decide +kernel) (lk_1i l20 (by decide)) (by decide) rfl ?_
          refine iq_goto hS J_MSquareRows_least_d43 (t := 7) rfl ?_
          exact ih _ _ _ (lk_1r (lk_1r l16 (by decide)) (by decide)) (lk_1i (lk_1i l17 (by decide)) (by decide)) (lk_1i (lk_1i l18 (by decide)) (by decide)) (lk_1i (lk_1i l19 (by decide)) (by decide)) (lk_1i lk_1s (by decide)) lk_1s (lq_l h)
        refine iq_icmp_ge hS 31 J_MSquareRows_least_d28 (t := 36) rfl (fun q28 => ?_) rfl (fun q28 => ?_)
        · refine iq_iload hS 38 J_MSquareRows_least_d36 (lk_1i l10 (by decide)) rfl ?_
          exact J13 _ _ (by simp only [if_pos q28]) (lk_1r l6 (by decide)) (lk_1i l7 (by decide)) (lk_1i l8 (by decide)) (lk_1i l9 (by decide)) (lk_1i l11 (by decide))
        · refine iq_iload hS 33 J_MSquareRows_least_d31 lk_1s rfl ?_
          refine iq_goto hS J_MSquareRows_least_d33 (t := 38) rfl ?_
          exact J13 _ _ (by simp only [if_neg q28]) (lk_1r l6 (by decide)) (lk_1i l7 (by decide)) (lk_1i l8 (by decide)) (lk_1i l9 (by decide)) (lk_1i l11 (by decide))
  exact I1 n1 _ _ _ (lk_1r (lk_1r l0 (by decide)) (by decide)) (lk_1i (lk_1i l1 (by decide)) (by decide)) (lk_1i (lk_1i l2 (by decide)) (by decide)) (lk_1i (lk_1i l3 (by decide)) (by decide)) (lk_1i lk_1s (by decide)) lk_1s hn1
noncomputable def f_MSquareRows_divide_L2 (v2 : Int32) (x3 : Int32) (M4 : im_M) : Option ((Int32 × im_M) ⊕ (im_M)) := if 6 ≤ x3 then some (.inr M4) else gd (inb (((6 : Int32) * (im_i M4 108 4)) + x3) 18006) <| some (.inl ((x3 + 1), (im_setI M4 118 (Int32.toNatClampNeg (((6 : Int32) * (im_i M4 108 4)) + x3)) 0)))
noncomputable def f_MSquareRows_divide_L42 (v11 : Int32) (v12 : Int32) (x13 : Int32) (M14 : im_M) : Option ((Int32 × im_M) ⊕ (im_M)) := if 6 ≤ x13 then some (.inr M14) else bd1 (f_MSquareRows_least v12 x13 v11 M14) fun (x15 : Int32) => gd (inb (((6 : Int32) * v12) + x13) 18006) <| some (.inl ((x13 + 1), (im_setI M14 118 (Int32.toNatClampNeg (((6 : Int32) * v12) + x13)) x15)))
noncomputable def f_MSquareRows_divide_L36 (v7 : Int32) (x8 : Int32) (M9 : im_M) : Option ((Int32 × im_M) ⊕ (im_M)) := if x8 ≤ 0 then some (.inr M9) else bd1 (lp (uc2 (f_MSquareRows_divide_L42 v7 x8)) (0, M9)) fun (M16 : im_M) => some (.inl ((x8 + (-1)), M16))
noncomputable def f_MSquareRows_divide_L122 (v30 : Int32) (v31 : Int32) (v32 : Int32) (v33 : Int32) (M35 : im_M) (x34 : Int32) : Option ((Int32) ⊕ (Int32)) := bd1 (f_MSquareRows_restOf v33 v31 x34 v30 M35) fun (x36 : Int32) => if x36 = v32 then some (.inr x34) else some (.inl (x34 + 1))
noncomputable def f_MSquareRows_divide_L110 (v24 : Int32) (x25 : Int32) (x26 : Int32) (x27 : Int32) (M28 : im_M) : Option ((Int32 × Int32 × Int32 × im_M) ⊕ (im_M)) := if (im_i M28 108 4) ≤ x27 then some (.inr M28) else bd1 (lp (uc1 (f_MSquareRows_divide_L122 v24 x25 x26 x27 M28)) 0) fun (y37 : Int32) => bd1 (f_MSquareRows_costOf x25 y37 v24 M28) fun (x38 : Int32) => bd1 (f_MSquareRows_stateAfter x25 y37 M28) fun (x39 : Int32) => gd (inb x27 3000) <| some (.inl (x39, (x26 - x38), (x27 + 1), (im_setI M28 117 (Int32.toNatClampNeg x27) y37)))
noncomputable def f_MSquareRows_divide (p0 : Int32) (M : im_M) : Option (im_M) := bd1 (lp (uc2 (f_MSquareRows_divide_L2 p0)) (0, M)) fun (M5 : im_M) => bd1 (lp (uc2 (f_MSquareRows_divide_L36 p0)) (((im_i M5 108 4) - 1), M5)) fun (M17 : im_M) => bd1 (if ¬ (im_i M17 108 4) = 0 then bd1 (f_MSquareRows_least 0 (-1) p0 M17) fun (x19 : Int32) => some x19 else some 0) fun (y20 : Int32) => bd1 (lp (uc4 (f_MSquareRows_divide_L110 p0)) ((-1), (im_i (im_setI M17 108 16 y20) 108 16), 0, (im_setI M17 108 16 y20))) fun (M40 : im_M) => some M40
theorem J_MSquareRows_divide_d0 : decode J_MSquareRows_divide.2.1 0 = .ok (.iconst 0, 1) := by decide +kernel
theorem J_MSquareRows_divide_d1 : decode J_MSquareRows_divide.2.1 1 = .ok (.istore_n 2, 1) := by decide +kernel
theorem J_MSquareRows_divide_d2 : decode J_MSquareRows_divide.2.1 2 = .ok (.iload_n 2, 1) := by decide +kernel
theorem J_MSquareRows_divide_d3 : decode J_MSquareRows_divide.2.1 3 = .ok (.bipush 6, 2) := by decide +kernel
theorem J_MSquareRows_divide_d5 : decode J_MSquareRows_divide.2.1 5 = .ok (.if_icmp .ge 24, 3) := by decide +kernel
theorem J_MSquareRows_divide_d8 : decode J_MSquareRows_divide.2.1 8 = .ok (.aload_n 0, 1) := by decide +kernel
theorem J_MSquareRows_divide_d9 : decode J_MSquareRows_divide.2.1 9 = .ok (.getfield 37, 3) := by decide +kernel
theorem J_MSquareRows_divide_d12 : decode J_MSquareRows_divide.2.1 12 = .ok (.bipush 6, 2) := by decide +kernel
theorem J_MSquareRows_divide_d14 : decode J_MSquareRows_divide.2.1 14 = .ok (.aload_n 0, 1) := by decide +kernel
theorem J_MSquareRows_divide_d15 : decode J_MSquareRows_divide.2.1 15 = .ok (.getfield 77, 3) := by decide +kernel
theorem J_MSquareRows_divide_d18 : decode J_MSquareRows_divide.2.1 18 = .ok (.imul, 1) := by decide +kernel
theorem J_MSquareRows_divide_d19 : decode J_MSquareRows_divide.2.1 19 = .ok (.iload_n 2, 1) := by decide +kernel
theorem J_MSquareRows_divide_d20 : decode J_MSquareRows_divide.2.1 20 = .ok (.iadd, 1) := by decide +kernel
theorem J_MSquareRows_divide_d21 : decode J_MSquareRows_divide.2.1 21 = .ok (.iconst 0, 1) := by decide +kernel
theorem J_MSquareRows_divide_d22 : decode J_MSquareRows_divide.2.1 22 = .ok (.iastore, 1) := by decide +kernel
theorem J_MSquareRows_divide_d23 : decode J_MSquareRows_divide.2.1 23 = .ok (.iinc 2 1, 3) := by decide +kernel
theorem J_MSquareRows_divide_d26 : decode J_MSquareRows_divide.2.1 26 = .ok (.goto (-24), 3) := by decide +kernel
theorem J_MSquareRows_divide_d29 : decode J_MSquareRows_divide.2.1 29 = .ok (.aload_n 0, 1) := by decide +kernel
theorem J_MSquareRows_divide_d30 : decode J_MSquareRows_divide.2.1 30 = .ok (.getfield 77, 3) := by decide +kernel
theorem J_MSquareRows_divide_d33 : decode J_MSquareRows_divide.2.1 33 = .ok (.iconst 1, 1) := by decide +kernel
theorem J_MSquareRows_divide_d34 : decode J_MSquareRows_divide.2.1 34 = .ok (.isub, 1) := by decide +kernel
theorem J_MSquareRows_divide_d35 : decode J_MSquareRows_divide.2.1 35 = .ok (.istore_n 2, 1) := by decide +kernel
theorem J_MSquareRows_divide_d36 : decode J_MSquareRows_divide.2.1 36 = .ok (.iload_n 2, 1) := by decide +kernel
theorem J_MSquareRows_divide_d37 : decode J_MSquareRows_divide.2.1 37 = .ok (.ifCond .le 41, 3) := by decide +kernel
theorem J_MSquareRows_divide_d40 : decode J_MSquareRows_divide.2.1 40 = .ok (.iconst 0, 1) := by decide +kernel
theorem J_MSquareRows_divide_d41 : decode J_MSquareRows_divide.2.1 41 = .ok (.istore_n 3, 1) := by decide +kernel
theorem J_MSquareRows_divide_d42 : decode J_MSquareRows_divide.2.1 42 = .ok (.iload_n 3, 1) := by decide +kernel
theorem J_MSquareRows_divide_d43 : decode J_MSquareRows_divide.2.1 43 = .ok (.bipush 6, 2) := by decide +kernel
theorem J_MSquareRows_divide_d45 : decode J_MSquareRows_divide.2.1 45 = .ok (.if_icmp .ge 27, 3) := by decide +kernel
theorem J_MSquareRows_divide_d48 : decode J_MSquareRows_divide.2.1 48 = .ok (.aload_n 0, 1) := by decide +kernel
theorem J_MSquareRows_divide_d49 : decode J_MSquareRows_divide.2.1 49 = .ok (.getfield 37, 3) := by decide +kernel
theorem J_MSquareRows_divide_d52 : decode J_MSquareRows_divide.2.1 52 = .ok (.bipush 6, 2) := by decide +kernel
theorem J_MSquareRows_divide_d54 : decode J_MSquareRows_divide.2.1 54 = .ok (.iload_n 2, 1) := by decide +kernel
theorem J_MSquareRows_divide_d55 : decode J_MSquareRows_divide.2.1 55 = .ok (.imul, 1) := by decide +kernel
theorem J_MSquareRows_divide_d56 : decode J_MSquareRows_divide.2.1 56 = .ok (.iload_n 3, 1) := by decide +kernel
theorem J_MSquareRows_divide_d57 : decode J_MSquareRows_divide.2.1 57 = .ok (.iadd, 1) := by decide +kernel
theorem J_MSquareRows_divide_d58 : decode J_MSquareRows_divide.2.1 58 = .ok (.aload_n 0, 1) := by decide +kernel
theorem J_MSquareRows_divide_d59 : decode J_MSquareRows_divide.2.1 59 = .ok (.iload_n 2, 1) := by decide +kernel
theorem J_MSquareRows_divide_d60 : decode J_MSquareRows_divide.2.1 60 = .ok (.iload_n 3, 1) := by decide +kernel
theorem J_MSquareRows_divide_d61 : decode J_MSquareRows_divide.2.1 61 = .ok (.iload_n 1, 1) := by decide +kernel
theorem J_MSquareRows_divide_d62 : decode J_MSquareRows_divide.2.1 62 = .ok (.invokevirtual 118, 3) := by decide +kernel
theorem J_MSquareRows_divide_d65 : decode J_MSquareRows_divide.2.1 65 = .ok (.iastore, 1) := by decide +kernel
theorem J_MSquareRows_divide_d66 : decode J_MSquareRows_divide.2.1 66 = .ok (.iinc 3 1, 3) := by decide +kernel
theorem J_MSquareRows_divide_d69 : decode J_MSquareRows_divide.2.1 69 = .ok (.goto (-27), 3) := by decide +kernel
theorem J_MSquareRows_divide_d72 : decode J_MSquareRows_divide.2.1 72 = .ok (.iinc 2 (-1), 3) := by decide +kernel
theorem J_MSquareRows_divide_d75 : decode J_MSquareRows_divide.2.1 75 = .ok (.goto (-39), 3) := by decide +kernel
theorem J_MSquareRows_divide_d78 : decode J_MSquareRows_divide.2.1 78 = .ok (.aload_n 0, 1) := by decide +kernel
theorem J_MSquareRows_divide_d79 : decode J_MSquareRows_divide.2.1 79 = .ok (.aload_n 0, 1) := by decide +kernel
theorem J_MSquareRows_divide_d80 : decode J_MSquareRows_divide.2.1 80 = .ok (.getfield 77, 3) := by decide +kernel
theorem J_MSquareRows_divide_d83 : decode J_MSquareRows_divide.2.1 83 = .ok (.ifCond .ne 7, 3) := by decide +kernel
theorem J_MSquareRows_divide_d86 : decode J_MSquareRows_divide.2.1 86 = .ok (.iconst 0, 1) := by decide +kernel
theorem J_MSquareRows_divide_d87 : decode J_MSquareRows_divide.2.1 87 = .ok (.goto 10, 3) := by decide +kernel
theorem J_MSquareRows_divide_d90 : decode J_MSquareRows_divide.2.1 90 = .ok (.aload_n 0, 1) := by decide +kernel
theorem J_MSquareRows_divide_d91 : decode J_MSquareRows_divide.2.1 91 = .ok (.iconst 0, 1) := by decide +kernel
theorem J_MSquareRows_divide_d92 : decode J_MSquareRows_divide.2.1 92 = .ok (.iconst (-1), 1) := by decide +kernel
theorem J_MSquareRows_divide_d93 : decode J_MSquareRows_divide.2.1 93 = .ok (.iload_n 1, 1) := by decide +kernel
theorem J_MSquareRows_divide_d94 : decode J_MSquareRows_divide.2.1 94 = .ok (.invokevirtual 118, 3) := by decide +kernel
theorem J_MSquareRows_divide_d97 : decode J_MSquareRows_divide.2.1 97 = .ok (.putfield 121, 3) := by decide +kernel
theorem J_MSquareRows_divide_d100 : decode J_MSquareRows_divide.2.1 100 = .ok (.iconst (-1), 1) := by decide +kernel
theorem J_MSquareRows_divide_d101 : decode J_MSquareRows_divide.2.1 101 = .ok (.istore_n 2, 1) := by decide +kernel
theorem J_MSquareRows_divide_d102 : decode J_MSquareRows_divide.2.1 102 = .ok (.aload_n 0, 1) := by decide +kernel
theorem J_MSquareRows_divide_d103 : decode J_MSquareRows_divide.2.1 103 = .ok (.getfield 121, 3) := by decide +kernel
theorem J_MSquareRows_divide_d106 : decode J_MSquareRows_divide.2.1 106 = .ok (.istore_n 3, 1) := by decide +kernel
theorem J_MSquareRows_divide_d107 : decode J_MSquareRows_divide.2.1 107 = .ok (.iconst 0, 1) := by decide +kernel
theorem J_MSquareRows_divide_d108 : decode J_MSquareRows_divide.2.1 108 = .ok (.istore 4, 2) := by decide +kernel
theorem J_MSquareRows_divide_d110 : decode J_MSquareRows_divide.2.1 110 = .ok (.iload 4, 2) := by decide +kernel
theorem J_MSquareRows_divide_d112 : decode J_MSquareRows_divide.2.1 112 = .ok (.aload_n 0, 1) := by decide +kernel
theorem J_MSquareRows_divide_d113 : decode J_MSquareRows_divide.2.1 113 = .ok (.getfield 77, 3) := by decide +kernel
theorem J_MSquareRows_divide_d116 : decode J_MSquareRows_divide.2.1 116 = .ok (.if_icmp .ge 58, 3) := by decide +kernel
theorem J_MSquareRows_divide_d119 : decode J_MSquareRows_divide.2.1 119 = .ok (.iconst 0, 1) := by decide +kernel
theorem J_MSquareRows_divide_d120 : decode J_MSquareRows_divide.2.1 120 = .ok (.istore 5, 2) := by decide +kernel
theorem J_MSquareRows_divide_d122 : decode J_MSquareRows_divide.2.1 122 = .ok (.aload_n 0, 1) := by decide +kernel
theorem J_MSquareRows_divide_d123 : decode J_MSquareRows_divide.2.1 123 = .ok (.iload 4, 2) := by decide +kernel
theorem J_MSquareRows_divide_d125 : decode J_MSquareRows_divide.2.1 125 = .ok (.iload_n 2, 1) := by decide +kernel
theorem J_MSquareRows_divide_d126 : decode J_MSquareRows_divide.2.1 126 = .ok (.iload 5, 2) := by decide +kernel
theorem J_MSquareRows_divide_d128 : decode J_MSquareRows_divide.2.1 128 = .ok (.iload_n 1, 1) := by decide +kernel
theorem J_MSquareRows_divide_d129 : decode J_MSquareRows_divide.2.1 129 = .ok (.invokevirtual 114, 3) := by decide +kernel
theorem J_MSquareRows_divide_d132 : decode J_MSquareRows_divide.2.1 132 = .ok (.iload_n 3, 1) := by decide +kernel
theorem J_MSquareRows_divide_d133 : decode J_MSquareRows_divide.2.1 133 = .ok (.if_icmp .eq 9, 3) := by decide +kernel
theorem J_MSquareRows_divide_d136 : decode J_MSquareRows_divide.2.1 136 = .ok (.iinc 5 1, 3) := by decide +kernel
theorem J_MSquareRows_divide_d139 : decode J_MSquareRows_divide.2.1 139 = .ok (.goto (-17), 3) := by decide +kernel
theorem J_MSquareRows_divide_d142 : decode J_MSquareRows_divide.2.1 142 = .ok (.iload_n 3, 1) := by decide +kernel
theorem J_MSquareRows_divide_d143 : decode J_MSquareRows_divide.2.1 143 = .ok (.iload_n 2, 1) := by decide +kernel
theorem J_MSquareRows_divide_d144 : decode J_MSquareRows_divide.2.1 144 = .ok (.iload 5, 2) := by decide +kernel
theorem J_MSquareRows_divide_d146 : decode J_MSquareRows_divide.2.1 146 = .ok (.iload_n 1, 1) := by decide +kernel
theorem J_MSquareRows_divide_d147 : decode J_MSquareRows_divide.2.1 147 = .ok (.invokestatic 109, 3) := by decide +kernel
theorem J_MSquareRows_divide_d150 : decode J_MSquareRows_divide.2.1 150 = .ok (.isub, 1) := by decide +kernel
theorem J_MSquareRows_divide_d151 : decode J_MSquareRows_divide.2.1 151 = .ok (.istore_n 3, 1) := by decide +kernel
theorem J_MSquareRows_divide_d152 : decode J_MSquareRows_divide.2.1 152 = .ok (.iload_n 2, 1) := by decide +kernel
theorem J_MSquareRows_divide_d153 : decode J_MSquareRows_divide.2.1 153 = .ok (.iload 5, 2) := by decide +kernel
theorem J_MSquareRows_divide_d155 : decode J_MSquareRows_divide.2.1 155 = .ok (.invokestatic 102, 3) := by decide +kernel
theorem J_MSquareRows_divide_d158 : decode J_MSquareRows_divide.2.1 158 = .ok (.istore_n 2, 1) := by decide +kernel
theorem J_MSquareRows_divide_d159 : decode J_MSquareRows_divide.2.1 159 = .ok (.aload_n 0, 1) := by decide +kernel
theorem J_MSquareRows_divide_d160 : decode J_MSquareRows_divide.2.1 160 = .ok (.getfield 34, 3) := by decide +kernel
theorem J_MSquareRows_divide_d163 : decode J_MSquareRows_divide.2.1 163 = .ok (.iload 4, 2) := by decide +kernel
theorem J_MSquareRows_divide_d165 : decode J_MSquareRows_divide.2.1 165 = .ok (.iload 5, 2) := by decide +kernel
theorem J_MSquareRows_divide_d167 : decode J_MSquareRows_divide.2.1 167 = .ok (.iastore, 1) := by decide +kernel
theorem J_MSquareRows_divide_d168 : decode J_MSquareRows_divide.2.1 168 = .ok (.iinc 4 1, 3) := by decide +kernel
theorem J_MSquareRows_divide_d171 : decode J_MSquareRows_divide.2.1 171 = .ok (.goto (-61), 3) := by decide +kernel
theorem J_MSquareRows_divide_d174 : decode J_MSquareRows_divide.2.1 174 = .ok (.return_, 1) := by decide +kernel
theorem f_MSquareRows_divide_ok {L : Nat} {xs : Nat → Int32} {dep : Nat} {w : Bool} {p0 : Int32} {M : im_M} {Q : im_M → Prop} (hM : lw_S w M) (h : ed (f_MSquareRows_divide p0 M) Q) : ia (tb_G L xs) (dep + 5) J_MSquareRows_divide (rwV w Q) (0, lv_args 0 [.ref 108, .int p0], [], M) := by
  have hS : im_St (tb_G L xs) (dep + 5) J_MSquareRows_divide (ia (tb_G L xs) (dep + 5) J_MSquareRows_divide (rwV w Q)) := ia_St
  unfold f_MSquareRows_divide at h
  have l0 : im_lk (lv_args 0 [.ref 108, .int p0]) 0 = some (.ref 108) := rfl
  have l1 : im_lk (lv_args 0 [.ref 108, .int p0]) 1 = some (.int p0) := rfl
  refine iq_iconst hS 1 J_MSquareRows_divide_d0 (v := 0) (by decide +kernel) rfl ?_
  refine iq_istore_n hS 2 J_MSquareRows_divide_d1 (by decide) rfl ?_
  obtain ⟨Q1, hQ1, h⟩ := bd1_ed h
  have K1 : ∀ (M2 : im_M) (L' : List (Nat × Value)), lw_S w M2 → im_lk L' 0 = some (.ref 108) → im_lk L' 1 = some (.int p0) → Q1 M2 → ia (tb_G L xs) (dep + 5) J_MSquareRows_divide (rwV w Q) (29, L', [], M2) := by
    intro M2 L' hM2 l3 l4 h
    replace h := hQ1 _ h
    refine iq_aload_n hS 30 J_MSquareRows_divide_d29 l3 rfl ?_
    refine iq_getI hS 33 J_MSquareRows_divide_d30 lf_16_77 (Or.inl rfl) (ka_108 hM2) rfl ?_
    refine iq_iconst hS 34 J_MSquareRows_divide_d33 (v := 1) (by decide +kernel) rfl ?_
    refine iq_isub hS 35 J_MSquareRows_divide_d34 rfl ?_
    refine iq_istore_n hS 36 J_MSquareRows_divide_d35 (by decide) rfl ?_
    obtain ⟨Q5, hQ5, h⟩ := bd1_ed h
    have K5 : ∀ (M6 : im_M) (L' : List (Nat × Value)), lw_S w M6 → im_lk L' 0 = some (.ref 108) → im_lk L' 1 = some (.int p0) → Q5 M6 → ia (tb_G L xs) (dep + 5) J_MSquareRows_divide (rwV w Q) (78, L', [], M6) := by
      intro M6 L' hM6 l7 l8 h
      replace h := hQ5 _ h
      refine iq_aload_n hS 79 J_MSquareRows_divide_d78 l7 rfl ?_
      refine iq_aload_n hS 80 J_MSquareRows_divide_d79 l7 rfl ?_
      refine iq_getI hS 83 J_MSquareRows_divide_d80 lf_16_77 (Or.inl rfl) (ka_108 hM6) rfl ?_
      obtain ⟨Q9, hQ9, h⟩ := bd1_ed h
      have J9 : ∀ (y11 : Int32) (L' : List (Nat × Value)), im_lk L' 0 = some (.ref 108) → im_lk L' 1 = some (.int p0) → Q9 y11 → ia (tb_G L xs) (dep + 5) J_MSquareRows_divide (rwV w Q) (97, L', [.int y11, .ref 108], M6) := by
        intro y11 L' l12 l13 h
        replace h := hQ9 _ h
        refine iq_putI hS 100 J_MSquareRows_divide_d97 lf_16_121 (Or.inl rfl) rfl (ka_108 hM6) rfl ?_
        refine iq_iconst hS 101 J_MSquareRows_divide_d100 (v := (-1)) (by decide +kernel) rfl ?_
        refine iq_istore_n hS 102 J_MSquareRows_divide_d101 (by decide) rfl ?_
        refine iq_aload_n hS 103 J_MSquareRows_divide_d102 (lk_1r l12 (by decide)) rfl ?_
        refine iq_getI hS 106 J_MSquareRows_divide_d103 lf_16_121 (Or.inl rfl) (ka_108 (lw_sI hM6)) rfl ?_
        refine iq_istore_n hS 107 J_MSquareRows_divide_d106 (by decide) rfl ?_
        refine iq_iconst hS 108 J_MSquareRows_divide_d107 (v := 0) (by decide +kernel) rfl ?_
        refine iq_istore hS 110 J_MSquareRows_divide_d108 (by decide) rfl ?_
        obtain ⟨Q14, hQ14, h⟩ := bd1_ed h
        have K14 : ∀ (M15 : im_M) (L' : List (Nat × Value)), lw_S w M15 → Q14 M15 → ia (tb_G L xs) (dep + 5) J_MSquareRows_divide (rwV w Q) (174, L', [], M15) := by
          intro M15 L' hM15  h
          replace h := hQ14 _ h
          exact iq_ret J_MSquareRows_divide_d174 rfl ⟨rfl, hM15, ed_some h⟩
        obtain ⟨r14, hr14, hq14⟩ := h
        obtain ⟨n14, hn14⟩ := lp_n hr14
        have I14 : ∀ (n : Nat) (x16 : Int32) (x17 : Int32) (x18 : Int32) (M19 : im_M) (L' : List (Nat × Value)), lw_S w M19 → im_lk L' 0 = some (.ref 108) → im_lk L' 1 = some (.int p0) → im_lk L' 2 = some (.int x16) → im_lk L' 3 = some (.int x17) → im_lk L' 4 = some (.int x18) → lpn (uc4 (f_MSquareRows_divide_L110 p0)) n (x16, x17, x18, M19) = some r14 → ia (tb_G L xs) (dep + 5) J_MSquareRows_divide (rwV w Q) (110, L', [], M19) := by
          intro n
          induction n with
          | zero => intro x16 x17 x18 M19 L' hM19 l20 l21 l22 l23 l24 hn; exact (lpn_0 hn).elim
          | succ n ih =>
            intro x16 x17 x18 M19 L' hM19 l20 l21 l22 l23 l24 hn
            have h := lpn_ed4 hn
            unfold f_MSquareRows_divide_L110 at h
            refine iq_iload hS 112 J_MSquareRows_divide_d110 l24 rfl ?_
            refine iq_aload_n hS 113 J_MSquareRows_divide_d112 l20 rfl ?_
            refine iq_getI hS 116 J_MSquareRows_divide_d113 lf_16_77 (Or.inl rfl) (ka_108 hM19) rfl ?_
            refine iq_icmp_ge hS 119 J_MSquareRows_divide_d116 (t := 174) rfl (fun q116 => ?_) rfl (fun q116 => ?_)
            · replace h := ed_pos q116 h
              exact K14 _ _ hM19  (lq_r h hq14)
            · replace h := ed_neg q116 h
              refine iq_iconst hS 120 J_MSquareRows_divide_d119 (v := 0) (by decide +kernel) rfl ?_
              refine iq_istore hS 122 J_MSquareRows_divide_d120 (by decide) rfl ?_
              obtain ⟨Q25, hQ25, h⟩ := bd1_ed h
              have K25 : ∀ (y26 : Int32) (L' : List (Nat × Value)), im_lk L' 0 = some (.ref 108) → im_lk L' 1 = some (.int p0) → im_lk L' 2 = some (.int x16) → im_lk L' 3 = some (.int x17) → im_lk L' 4 = some (.int x18) → im_lk L' 5 = some (.int y26) → Q25 y26 → ia (tb_G L xs) (dep + 5) J_MSquareRows_divide (rwV w Q) (142, L', [], M19) := by
                intro y26 L' l27 l28 l29 l30 l31 l32 h
                replace h := hQ25 _ h
                refine iq_iload_n hS 143 J_MSquareRows_divide_d142 l30 rfl ?_
                refine iq_iload_n hS 144 J_MSquareRows_divide_d143 l29 rfl ?_
                refine iq_iload hS 146 J_MSquareRows_divide_d144 l32 rfl ?_
                refine iq_iload_n hS 147 J_MSquareRows_divide_d146 l28 rfl ?_
                obtain ⟨Q33, hQ33, h⟩ := bd1_ed h
                refine iq_cpI hS 150 J_MSquareRows_divide_d147 rfl (pr_stat (vs := [_, _, _]) lc_16_109 lT_397 rfl rfl (by decide) rfl (Nat.le_of_ble_eq_true rfl) (Nat.le_of_ble_eq_true rfl)) (f_MSquareRows_costOf_ok (dep := dep + 2) hM19 h) rfl ?_
                intro x33 h
                replace h := hQ33 _ h
                refine iq_isub hS 151 J_MSquareRows_divide_d150 rfl ?_
                refine iq_istore_n hS 152 J_MSquareRows_divide_d151 (by decide) rfl ?_
                refine iq_iload_n hS 153 J_MSquareRows_divide_d152 (lk_1i l29 (by decide)) rfl ?_
                refine iq_iload hS 155 J_MSquareRows_divide_d153 (lk_1i l32 (by decide)) rfl ?_
                obtain ⟨Q34, hQ34, h⟩ := bd1_ed h
                refine iq_cpI hS 158 J_MSquareRows_divide_d155 rfl (pr_stat (vs := [_, _]) lc_16_102 lT_400 rfl rfl (by decide) rfl (Nat.le_of_ble_eq_true rfl) (Nat.le_of_ble_eq_true rfl)) (f_MSquareRows_stateAfter_ok (dep := dep + 3) hM19 h) rfl ?_
                intro x34 h
                replace h := hQ34 _ h
                refine iq_istore_n hS 159 J_MSquareRows_divide_d158 (by decide) rfl ?_
                refine iq_aload_n hS 160 J_MSquareRows_divide_d159 (lk_1r (lk_1r l27 (by decide)) (by decide)) rfl ?_
                refine iq_getR hS 163 J_MSquareRows_divide_d160 lf_16_34 (Or.inr ⟨_, rfl⟩) (ka_108 hM19) (ra_108_14 hM19) rfl ?_
                refine iq_iload hS 165 J_MSquareRows_divide_d163 (lk_1i (lk_1i l31 (by decide)) (by decide)) rfl ?_
                refine iq_iload hS 167 J_MSquareRows_divide_d165 (lk_1i (lk_1i l32 (by decide)) (by decide)) rfl ?_
                obtain ⟨g167, h⟩ := ed_gd h
                refine iq_iastore hS 168 J_MSquareRows_divide_d167 ⟨(ka_117 hM19).1, (ka_117 hM19).2, g167.1, ix_lt (kl_117 hM19) g167.2⟩ rfl ?_
                refine iq_iincv hS 171 J_MSquareRows_divide_d168 (c := 1) (by decide +kernel) (lk_1i (lk_1i l31 (by decide)) (by decide)) (by decide) rfl ?_
                refine iq_goto hS J_MSquareRows_divide_d171 (t := 110) rfl ?_
                exact ih _ _ _ _ _ (lw_sI hM19) (lk_1r (lk_1r (lk_1r l27 (by decide)) (by decide)) (by decide)) (lk_1i (lk_1i (lk_1i l28 (by decide)) (by decide)) (by decide)) (lk_1i lk_1s (by decide)) (lk_1i (lk_1i lk_1s (by decide)) (by decide)) lk_1s (lq_l h)
              obtain ⟨r25, hr25, hq25⟩ := h
              obtain ⟨n25, hn25⟩ := lp_n hr25
              have I25 : ∀ (n : Nat) (x35 : Int32) (L' : List (Nat × Value)), im_lk L' 0 = some (.ref 108) → im_lk L' 1 = some (.int p0) → im_lk L' 2 = some (.int x16) → im_lk L' 3 = some (.int x17) → im_lk L' 4 = some (.int x18) → im_lk L' 5 = some (.int x35) → lpn (uc1 (f_MSquareRows_divide_L122 p0 x16 x17 x18 M19)) n x35 = some r25 → ia (tb_G L xs) (dep + 5) J_MSquareRows_divide (rwV w Q) (122, L', [], M19) := by
                intro n
                induction n with
                | zero => intro x35 L' l36 l37 l38 l39 l40 l41 hn; exact (lpn_0 hn).elim
                | succ n ih =>
                  intro x35 L' l36 l37 l38 l39 l40 l41 hn
                  have h := lpn_ed1 hn
                  unfold f_MSquareRows_divide_L122 at h
                  refine iq_aload_n hS 123 J_MSquareRows_divide_d122 l36 rfl ?_
                  refine iq_iload hS 125 J_MSquareRows_divide_d123 l40 rfl ?_
                  refine iq_iload_n hS 126 J_MSquareRows_divide_d125 l38 rfl ?_
                  refine iq_iload hS 128 J_MSquareRows_divide_d126 l41 rfl ?_
                  refine iq_iload_n hS 129 J_MSquareRows_divide_d128 l37 rfl ?_
                  obtain ⟨Q42, hQ42, h⟩ := bd1_ed h
                  refine iq_cpI hS 132 J_MSquareRows_divide_d129 rfl (pr_inst (vs := [_, _, _, _]) lc_16_114 lT_394 rfl rfl (by decide) (by decide) rfl (Nat.le_of_ble_eq_true rfl) (Nat.le_of_ble_eq_true rfl) (fun _ => Or.inl (pr_b (ka_108 hM19) (by decide) rfl))) (f_MSquareRows_restOf_ok (dep := dep + 1) hM19 h) rfl ?_
                  intro x42 h
                  replace h := hQ42 _ h
                  refine iq_iload_n hS 133 J_MSquareRows_divide_d132 l39 rfl ?_
                  refine iq_icmp_eq hS 136 J_MSquareRows_divide_d133 (t := 142) rfl (fun q133 => ?_) rfl (fun q133 => ?_)
                  · replace h := ed_pos q133 h
                    exact K25 _ _ l36 l37 l38 l39 l40 l41 (lq_r h hq25)
                  · replace h := ed_neg q133 h
                    refine iq_iincv hS 139 J_MSquareRows_divide_d136 (c := 1) (by decide +kernel) l41 (by decide) rfl ?_
                    refine iq_goto hS J_MSquareRows_divide_d139 (t := 122) rfl ?_
                    exact ih _ _ (lk_1r l36 (by decide)) (lk_1i l37 (by decide)) (lk_1i l38 (by decide)) (lk_1i l39 (by decide)) (lk_1i l40 (by decide)) lk_1s (lq_l h)
              exact I25 n25 _ _ (lk_1r l20 (by decide)) (lk_1i l21 (by decide)) (lk_1i l22 (by decide)) (lk_1i l23 (by decide)) (lk_1i l24 (by decide)) lk_1s hn25
        exact I14 n14 _ _ _ _ _ (lw_sI hM6) (lk_1r (lk_1r (lk_1r l12 (by decide)) (by decide)) (by decide)) (lk_1i (lk_1i (lk_1i l13 (by decide)) (by decide)) (by decide)) (lk_1i (lk_1i lk_1s (by decide)) (by decide)) (lk_1i lk_1s (by decide)) lk_1s hn14
      refine iq_if_ne hS 86 J_MSquareRows_divide_d83 (t := 90) rfl (fun q83 => ?_) rfl (fun q83 => ?_)
      · replace h := ed_pos q83 h
        refine iq_aload_n hS 91 J_MSquareRows_divide_d90 l7 rfl ?_
        refine iq_iconst hS 92 J_MSquareRows_divide_d91 (v := 0) (by decide +kernel) rfl ?_
        refine iq_iconst hS 93 J_MSquareRows_divide_d92 (v := (-1)) (by decide +kernel) rfl ?_
        refine iq_iload_n hS 94 J_MSquareRows_divide_d93 l8 rfl ?_
        obtain ⟨Q10, hQ10, h⟩ := bd1_ed h
        refine iq_cpI hS 97 J_MSquareRows_divide_d94 rfl (pr_inst (vs := [_, _, _]) lc_16_118 lT_393 rfl rfl (by decide) (by decide) rfl (Nat.le_of_ble_eq_true rfl) (Nat.le_of_ble_eq_true rfl) (fun _ => Or.inl (pr_b (ka_108 hM6) (by decide) rfl))) (f_MSquareRows_least_ok (dep := dep + 0) hM6 h) rfl ?_
        intro x10 h
        replace h := hQ10 _ h
        exact J9 _ _ l7 l8 (ed_some h)
      · replace h := ed_neg q83 h
        refine iq_iconst hS 87 J_MSquareRows_divide_d86 (v := 0) (by decide +kernel) rfl ?_
        refine iq_goto hS J_MSquareRows_divide_d87 (t := 97) rfl ?_
        exact J9 _ _ l7 l8 (ed_some h)
    obtain ⟨r5, hr5, hq5⟩ := h
    obtain ⟨n5, hn5⟩ := lp_n hr5
    have I5 : ∀ (n : Nat) (x43 : Int32) (M44 : im_M) (L' : List (Nat × Value)), lw_S w M44 → im_lk L' 0 = some (.ref 108) → im_lk L' 1 = some (.int p0) → im_lk L' 2 = some (.int x43) → lpn (uc2 (f_MSquareRows_divide_L36 p0)) n (x43, M44) = some r5 → ia (tb_G L xs) (dep + 5) J_MSquareRows_divide (rwV w Q) (36, L', [], M44) := by
      intro n
      induction n with
      | zero => intro x43 M44 L' hM44 l45 l46 l47 hn; exact (lpn_0 hn).elim
      | succ n ih =>
        intro x43 M44 L' hM44 l45 l46 l47 hn
        have h := lpn_ed2 hn
        unfold f_MSquareRows_divide_L36 at h
        refine iq_iload_n hS 37 J_MSquareRows_divide_d36 l47 rfl ?_
        refine iq_if_le hS 40 J_MSquareRows_divide_d37 (t := 78) rfl (fun q37 => ?_) rfl (fun q37 => ?_)
        · replace h := ed_pos q37 h
          exact K5 _ _ hM44 l45 l46 (lq_r h hq5)
        · replace h := ed_neg q37 h
          refine iq_iconst hS 41 J_MSquareRows_divide_d40 (v := 0) (by decide +kernel) rfl ?_
          refine iq_istore_n hS 42 J_MSquareRows_divide_d41 (by decide) rfl ?_
          obtain ⟨Q48, hQ48, h⟩ := bd1_ed h
          have K48 : ∀ (M49 : im_M) (L' : List (Nat × Value)), lw_S w M49 → im_lk L' 0 = some (.ref 108) → im_lk L' 1 = some (.int p0) → im_lk L' 2 = some (.int x43) → Q48 M49 → ia (tb_G L xs) (dep + 5) J_MSquareRows_divide (rwV w Q) (72, L', [], M49) := by
            intro M49 L' hM49 l50 l51 l52 h
            replace h := hQ48 _ h
            refine iq_iincv hS 75 J_MSquareRows_divide_d72 (c := (-1)) (by decide +kernel) l52 (by decide) rfl ?_
            refine iq_goto hS J_MSquareRows_divide_d75 (t := 36) rfl ?_
            exact ih _ _ _ hM49 (lk_1r l50 (by decide)) (lk_1i l51 (by decide)) lk_1s (lq_l h)
          obtain ⟨r48, hr48, hq48⟩ := h
          obtain ⟨n48, hn48⟩ := lp_n hr48
          have I48 : ∀ (n : Nat) (x53 : Int32) (M54 : im_M) (L' : List (Nat × Value)), lw_S w M54 → im_lk L' 0 = some (.ref 108) → im_lk L' 1 = some (.int p0) → im_lk L' 2 = some (.int x43) → im_lk L' 3 = some (.int x53) → lpn (uc2 (f_MSquareRows_divide_L42 p0 x43)) n (x53, M54) = some r48 → ia (tb_G L xs) (dep + 5) J_MSquareRows_divide (rwV w Q) (42, L', [], M54) := by
            intro n
            induction n with
            | zero => intro x53 M54 L' hM54 l55 l56 l57 l58 hn; exact (lpn_0 hn).elim
            | succ n ih =>
              intro x53 M54 L' hM54 l55 l56 l57 l58 hn
              have h := lpn_ed2 hn
              unfold f_MSquareRows_divide_L42 at h
              refine iq_iload_n hS 43 J_MSquareRows_divide_d42 l58 rfl ?_
              refine iq_bipush hS 45 J_MSquareRows_divide_d43 (v := 6) (by decide +kernel) rfl ?_
              refine iq_icmp_ge hS 48 J_MSquareRows_divide_d45 (t := 72) rfl (fun q45 => ?_) rfl (fun q45 => ?_)
              · replace h := ed_pos q45 h
                exact K48 _ _ hM54 l55 l56 l57 (lq_r h hq48)
              · replace h := ed_neg q45 h
                refine iq_aload_n hS 49 J_MSquareRows_divide_d48 l55 rfl ?_
                refine iq_getR hS 52 J_MSquareRows_divide_d49 lf_16_37 (Or.inr ⟨_, rfl⟩) (ka_108 hM54) (ra_108_15 hM54) rfl ?_
                refine iq_bipush hS 54 J_MSquareRows_divide_d52 (v := 6) (by decide +kernel) rfl ?_
                refine iq_iload_n hS 55 J_MSquareRows_divide_d54 l57 rfl ?_
                refine iq_imul hS 56 J_MSquareRows_divide_d55 rfl ?_
                refine iq_iload_n hS 57 J_MSquareRows_divide_d56 l58 rfl ?_
                refine iq_iadd hS 58 J_MSquareRows_divide_d57 rfl ?_
                refine iq_aload_n hS 59 J_MSquareRows_divide_d58 l55 rfl ?_
                refine iq_iload_n hS 60 J_MSquareRows_divide_d59 l57 rfl ?_
                refine iq_iload_n hS 61 J_MSquareRows_divide_d60 l58 rfl ?_
                refine iq_iload_n hS 62 J_MSquareRows_divide_d61 l56 rfl ?_
                obtain ⟨Q59, hQ59, h⟩ := bd1_ed h
                refine iq_cpI hS 65 J_MSquareRows_divide_d62 rfl (pr_inst (vs := [_, _, _]) lc_16_118 lT_393 rfl rfl (by decide) (by decide) rfl (Nat.le_of_ble_eq_true rfl) (Nat.le_of_ble_eq_true rfl) (fun _ => Or.inl (pr_b (ka_108 hM54) (by decide) rfl))) (f_MSquareRows_least_ok (dep := dep + 0) hM54 h) rfl ?_
                intro x59 h
                replace h := hQ59 _ h
                obtain ⟨g65, h⟩ := ed_gd h
                refine iq_iastore hS 66 J_MSquareRows_divide_d65 ⟨(ka_118 hM54).1, (ka_118 hM54).2, g65.1, ix_lt (kl_118 hM54) g65.2⟩ rfl ?_
                refine iq_iincv hS 69 J_MSquareRows_divide_d66 (c := 1) (by decide +kernel) l58 (by decide) rfl ?_
                refine iq_goto hS J_MSquareRows_divide_d69 (t := 42) rfl ?_
                exact ih _ _ _ (lw_sI hM54) (lk_1r l55 (by decide)) (lk_1i l56 (by decide)) (lk_1i l57 (by decide)) lk_1s (lq_l h)
          exact I48 n48 _ _ _ hM44 (lk_1r l45 (by decide)) (lk_1i l46 (by decide)) (lk_1i l47 (by decide)) lk_1s hn48
    exact I5 n5 _ _ _ hM2 (lk_1r l3 (by decide)) (lk_1i l4 (by decide)) lk_1s hn5
  obtain ⟨r1, hr1, hq1⟩ := h
  obtain ⟨n1, hn1⟩ := lp_n hr1
  have I1 : ∀ (n : Nat) (x60 : Int32) (M61 : im_M) (L' : List (Nat × Value)), lw_S w M61 → im_lk L' 0 = some (.ref 108) → im_lk L' 1 = some (.int p0) → im_lk L' 2 = some (.int x60) → lpn (uc2 (f_MSquareRows_divide_L2 p0)) n (x60, M61) = some r1 → ia (tb_G L xs) (dep + 5) J_MSquareRows_divide (rwV w Q) (2, L', [], M61) := by
    intro n
    induction n with
    | zero => intro x60 M61 L' hM61 l62 l63 l64 hn; exact (lpn_0 hn).elim
    | succ n ih =>
      intro x60 M61 L' hM61 l62 l63 l64 hn
      have h := lpn_ed2 hn
      unfold f_MSquareRows_divide_L2 at h
      refine iq_iload_n hS 3 J_MSquareRows_divide_d2 l64 rfl ?_
      refine iq_bipush hS 5 J_MSquareRows_divide_d3 (v := 6) (by decide +kernel) rfl ?_
      refine iq_icmp_ge hS 8 J_MSquareRows_divide_d5 (t := 29) rfl (fun q5 => ?_) rfl (fun q5 => ?_)
      · replace h := ed_pos q5 h
        exact K1 _ _ hM61 l62 l63 (lq_r h hq1)
      · replace h := ed_neg q5 h
        refine iq_aload_n hS 9 J_MSquareRows_divide_d8 l62 rfl ?_
        refine iq_getR hS 12 J_MSquareRows_divide_d9 lf_16_37 (Or.inr ⟨_, rfl⟩) (ka_108 hM61) (ra_108_15 hM61) rfl ?_
        refine iq_bipush hS 14 J_MSquareRows_divide_d12 (v := 6) (by decide +kernel) rfl ?_
        refine iq_aload_n hS 15 J_MSquareRows_divide_d14 l62 rfl ?_
        refine iq_getI hS 18 J_MSquareRows_divide_d15 lf_16_77 (Or.inl rfl) (ka_108 hM61) rfl ?_
        refine iq_imul hS 19 J_MSquareRows_divide_d18 rfl ?_
        refine iq_iload_n hS 20 J_MSquareRows_divide_d19 l64 rfl ?_
        refine iq_iadd hS 21 J_MSquareRows_divide_d20 rfl ?_
        refine iq_iconst hS 22 J_MSquareRows_divide_d21 (v := 0) (by decide +kernel) rfl ?_
        obtain ⟨g22, h⟩ := ed_gd h
        refine iq_iastore hS 23 J_MSquareRows_divide_d22 ⟨(ka_118 hM61).1, (ka_118 hM61).2, g22.1, ix_lt (kl_118 hM61) g22.2⟩ rfl ?_
        refine iq_iincv hS 26 J_MSquareRows_divide_d23 (c := 1) (by decide +kernel) l64 (by decide) rfl ?_
        refine iq_goto hS J_MSquareRows_divide_d26 (t := 2) rfl ?_
        exact ih _ _ _ (lw_sI hM61) (lk_1r l62 (by decide)) (lk_1i l63 (by decide)) lk_1s (lq_l h)
  exact I1 n1 _ _ _ hM (lk_1r l0 (by decide)) (lk_1i l1 (by decide)) lk_1s hn1
theorem f_MSquareRows_divide_fr {p0 : Int32} {M : im_M} {r : im_M} (h : f_MSquareRows_divide p0 M = some r) : fr 498460498419343452338927647605129216 [(108, 16)] M r := by
  replace h : ed (f_MSquareRows_divide p0 M) (fun x => x = r) := ⟨r, h, rfl⟩
  unfold f_MSquareRows_divide at h
  obtain ⟨Q1, hQ1, h⟩ := bd1_ed h
  have K1 : ∀ (M2 : im_M), fr 498460498419343452338927647605129216 [(108, 16)] M M2 → Q1 M2 → fr 498460498419343452338927647605129216 [(108, 16)] M r := by
    intro M2 hM2 h
    replace h := hQ1 _ h
    obtain ⟨Q3, hQ3, h⟩ := bd1_ed h
    have K3 : ∀ (M4 : im_M), fr 498460498419343452338927647605129216 [(108, 16)] M M4 → Q3 M4 → fr 498460498419343452338927647605129216 [(108, 16)] M r := by
      intro M4 hM4 h
      replace h := hQ3 _ h
      obtain ⟨Q5, hQ5, h⟩ := bd1_ed h
      have J5 : ∀ (y7 : Int32), Q5 y7 → fr 498460498419343452338927647605129216 [(108, 16)] M r := by
        intro y7 h
        replace h := hQ5 _ h
        obtain ⟨Q10, hQ10, h⟩ := bd1_ed h
        have K10 : ∀ (M11 : im_M), fr 498460498419343452338927647605129216 [(108, 16)] M M11 → Q10 M11 → fr 498460498419343452338927647605129216 [(108, 16)] M r := by
          intro M11 hM11 h
          replace h := hQ10 _ h
          exact fr_retV h hM11
        obtain ⟨r10, hr10, hq10⟩ := h
        obtain ⟨n10, hn10⟩ := lp_n hr10
        have I10 : ∀ (n : Nat) (x12 : Int32) (x13 : Int32) (x14 : Int32) (M15 : im_M), fr 498460498419343452338927647605129216 [(108, 16)] M M15 → lpn (uc4 (f_MSquareRows_divide_L110 p0)) n (x12, x13, x14, M15) = some r10 → fr 498460498419343452338927647605129216 [(108, 16)] M r := by
          intro n
          induction n with
          | zero => intro x12 x13 x14 M15 hM15 hn; exact (lpn_0 hn).elim
          | succ n ih =>
            intro x12 x13 x14 M15 hM15 hn
            have h := lpn_ed4 hn
            unfold f_MSquareRows_divide_L110 at h
            by_cases q116 : (im_i M15 108 4) ≤ x14
            · replace h := ed_pos q116 h
              exact K10 _ hM15 (lq_r h hq10)
            · replace h := ed_neg q116 h
              obtain ⟨Q16, hQ16, h⟩ := bd1_ed h
              have K16 : ∀ (y17 : Int32), Q16 y17 → fr 498460498419343452338927647605129216 [(108, 16)] M r := by
                intro y17 h
                replace h := hQ16 _ h
                obtain ⟨Q18, hQ18, h⟩ := bd1_ed h
                obtain ⟨x18, e18, h⟩ := h
                replace h := hQ18 _ h
                obtain ⟨Q19, hQ19, h⟩ := bd1_ed h
                obtain ⟨x19, e19, h⟩ := h
                replace h := hQ19 _ h
                obtain ⟨g167, h⟩ := ed_gd h
                exact ih _ _ _ _ (fr_I (by decide) hM15) (lq_l h)
              obtain ⟨r16, hr16, hq16⟩ := h
              obtain ⟨n16, hn16⟩ := lp_n hr16
              have I16 : ∀ (n : Nat) (x20 : Int32), lpn (uc1 (f_MSquareRows_divide_L122 p0 x12 x13 x14 M15)) n x20 = some r16 → fr 498460498419343452338927647605129216 [(108, 16)] M r := by
                intro n
                induction n with
                | zero => intro x20 hn; exact (lpn_0 hn).elim
                | succ n ih =>
                  intro x20 hn
                  have h := lpn_ed1 hn
                  unfold f_MSquareRows_divide_L122 at h
                  obtain ⟨Q21, hQ21, h⟩ := bd1_ed h
                  obtain ⟨x21, e21, h⟩ := h
                  replace h := hQ21 _ h
                  by_cases q133 : x21 = x13
                  · replace h := ed_pos q133 h
                    exact K16 _ (lq_r h hq16)
                  · replace h := ed_neg q133 h
                    exact ih _ (lq_l h)
              exact I16 n16 _ hn16
        exact I10 n10 _ _ _ _ (fr_F (by decide) hM4) hn10
      by_cases q83 : ¬ (im_i M4 108 4) = 0
      · replace h := ed_pos q83 h
        obtain ⟨Q6, hQ6, h⟩ := bd1_ed h
        obtain ⟨x6, e6, h⟩ := h
        replace h := hQ6 _ h
        exact J5 _ (ed_some h)
      · replace h := ed_neg q83 h
        exact J5 _ (ed_some h)
    obtain ⟨r3, hr3, hq3⟩ := h
    obtain ⟨n3, hn3⟩ := lp_n hr3
    have I3 : ∀ (n : Nat) (x22 : Int32) (M23 : im_M), fr 498460498419343452338927647605129216 [(108, 16)] M M23 → lpn (uc2 (f_MSquareRows_divide_L36 p0)) n (x22, M23) = some r3 → fr 498460498419343452338927647605129216 [(108, 16)] M r := by
      intro n
      induction n with
      | zero => intro x22 M23 hM23 hn; exact (lpn_0 hn).elim
      | succ n ih =>
        intro x22 M23 hM23 hn
        have h := lpn_ed2 hn
        unfold f_MSquareRows_divide_L36 at h
        by_cases q37 : x22 ≤ 0
        · replace h := ed_pos q37 h
          exact K3 _ hM23 (lq_r h hq3)
        · replace h := ed_neg q37 h
          obtain ⟨Q24, hQ24, h⟩ := bd1_ed h
          have K24 : ∀ (M25 : im_M), fr 498460498419343452338927647605129216 [(108, 16)] M M25 → Q24 M25 → fr 498460498419343452338927647605129216 [(108, 16)] M r := by
            intro M25 hM25 h
            replace h := hQ24 _ h
            exact ih _ _ hM25 (lq_l h)
          obtain ⟨r24, hr24, hq24⟩ := h
          obtain ⟨n24, hn24⟩ := lp_n hr24
          have I24 : ∀ (n : Nat) (x26 : Int32) (M27 : im_M), fr 498460498419343452338927647605129216 [(108, 16)] M M27 → lpn (uc2 (f_MSquareRows_divide_L42 p0 x22)) n (x26, M27) = some r24 → fr 498460498419343452338927647605129216 [(108, 16)] M r := by
            intro n
            induction n with
            | zero => intro x26 M27 hM27 hn; exact (lpn_0 hn).elim
            | succ n ih =>
              intro x26 M27 hM27 hn
              have h := lpn_ed2 hn
              unfold f_MSquareRows_divide_L42 at h
              by_cases q45 : 6 ≤ x26
              · replace h := ed_pos q45 h
                exact K24 _ hM27 (lq_r h hq24)
              · replace h := ed_neg q45 h
                obtain ⟨Q28, hQ28, h⟩ := bd1_ed h
                obtain ⟨x28, e28, h⟩ := h
                replace h := hQ28 _ h
                obtain ⟨g65, h⟩ := ed_gd h
                exact ih _ _ (fr_I (by decide) hM27) (lq_l h)
          exact I24 n24 _ _ hM23 hn24
    exact I3 n3 _ _ hM2 hn3
  obtain ⟨r1, hr1, hq1⟩ := h
  obtain ⟨n1, hn1⟩ := lp_n hr1
  have I1 : ∀ (n : Nat) (x29 : Int32) (M30 : im_M), fr 498460498419343452338927647605129216 [(108, 16)] M M30 → lpn (uc2 (f_MSquareRows_divide_L2 p0)) n (x29, M30) = some r1 → fr 498460498419343452338927647605129216 [(108, 16)] M r := by
    intro n
    induction n with
    | zero => intro x29 M30 hM30 hn; exact (lpn_0 hn).elim
    | succ n ih =>
      intro x29 M30 hM30 hn
      have h := lpn_ed2 hn
      unfold f_MSquareRows_divide_L2 at h
      by_cases q5 : 6 ≤ x29
      · replace h := ed_pos q5 h
        exact K1 _ hM30 (lq_r h hq1)
      · replace h := ed_neg q5 h
        obtain ⟨g22, h⟩ := ed_gd h
        exact ih _ _ (fr_I (by decide) hM30) (lq_l h)
  exact I1 n1 _ _ fr_refl hn1
noncomputable def f_MSquareRows_allCodewords (p0 : Int32) (M : im_M) : Option (Int32) := some (((if p0 ≤ 6 then ((if p0 ≤ 1 then (((((16 : Int32) * p0) + 128) * p0) + 64) else ((((((16 : Int32) * p0) + 128) * p0) + 64) - (((((25 : Int32) * ((p0 / 7) + 2)) - 10) * ((p0 / 7) + 2)) - 55))) : Int32) else (((if p0 ≤ 1 then (((((16 : Int32) * p0) + 128) * p0) + 64) else ((((((16 : Int32) * p0) + 128) * p0) + 64) - (((((25 : Int32) * ((p0 / 7) + 2)) - 10) * ((p0 / 7) + 2)) - 55))) : Int32) - 36)) : Int32) / 8)
theorem J_MSquareRows_allCodewords_d0 : decode J_MSquareRows_allCodewords.2.1 0 = .ok (.iload_n 0, 1) := by decide +kernel
theorem J_MSquareRows_allCodewords_d1 : decode J_MSquareRows_allCodewords.2.1 1 = .ok (.bipush 7, 2) := by decide +kernel
theorem J_MSquareRows_allCodewords_d3 : decode J_MSquareRows_allCodewords.2.1 3 = .ok (.idiv, 1) := by decide +kernel
theorem J_MSquareRows_allCodewords_d4 : decode J_MSquareRows_allCodewords.2.1 4 = .ok (.iconst 2, 1) := by decide +kernel
theorem J_MSquareRows_allCodewords_d5 : decode J_MSquareRows_allCodewords.2.1 5 = .ok (.iadd, 1) := by decide +kernel
theorem J_MSquareRows_allCodewords_d6 : decode J_MSquareRows_allCodewords.2.1 6 = .ok (.istore_n 1, 1) := by decide +kernel
theorem J_MSquareRows_allCodewords_d7 : decode J_MSquareRows_allCodewords.2.1 7 = .ok (.bipush 16, 2) := by decide +kernel
theorem J_MSquareRows_allCodewords_d9 : decode J_MSquareRows_allCodewords.2.1 9 = .ok (.iload_n 0, 1) := by decide +kernel
theorem J_MSquareRows_allCodewords_d10 : decode J_MSquareRows_allCodewords.2.1 10 = .ok (.imul, 1) := by decide +kernel
theorem J_MSquareRows_allCodewords_d11 : decode J_MSquareRows_allCodewords.2.1 11 = .ok (.sipush 128, 3) := by decide +kernel
theorem J_MSquareRows_allCodewords_d14 : decode J_MSquareRows_allCodewords.2.1 14 = .ok (.iadd, 1) := by decide +kernel
theorem J_MSquareRows_allCodewords_d15 : decode J_MSquareRows_allCodewords.2.1 15 = .ok (.iload_n 0, 1) := by decide +kernel
theorem J_MSquareRows_allCodewords_d16 : decode J_MSquareRows_allCodewords.2.1 16 = .ok (.imul, 1) := by decide +kernel
theorem J_MSquareRows_allCodewords_d17 : decode J_MSquareRows_allCodewords.2.1 17 = .ok (.bipush 64, 2) := by decide +kernel
theorem J_MSquareRows_allCodewords_d19 : decode J_MSquareRows_allCodewords.2.1 19 = .ok (.iadd, 1) := by decide +kernel
theorem J_MSquareRows_allCodewords_d20 : decode J_MSquareRows_allCodewords.2.1 20 = .ok (.istore_n 2, 1) := by decide +kernel
theorem J_MSquareRows_allCodewords_d21 : decode J_MSquareRows_allCodewords.2.1 21 = .ok (.iload_n 0, 1) := by decide +kernel
theorem J_MSquareRows_allCodewords_d22 : decode J_MSquareRows_allCodewords.2.1 22 = .ok (.iconst 1, 1) := by decide +kernel
theorem J_MSquareRows_allCodewords_d23 : decode J_MSquareRows_allCodewords.2.1 23 = .ok (.if_icmp .le 20, 3) := by decide +kernel
theorem J_MSquareRows_allCodewords_d26 : decode J_MSquareRows_allCodewords.2.1 26 = .ok (.iload_n 2, 1) := by decide +kernel
theorem J_MSquareRows_allCodewords_d27 : decode J_MSquareRows_allCodewords.2.1 27 = .ok (.bipush 25, 2) := by decide +kernel
theorem J_MSquareRows_allCodewords_d29 : decode J_MSquareRows_allCodewords.2.1 29 = .ok (.iload_n 1, 1) := by decide +kernel
theorem J_MSquareRows_allCodewords_d30 : decode J_MSquareRows_allCodewords.2.1 30 = .ok (.imul, 1) := by decide +kernel
theorem J_MSquareRows_allCodewords_d31 : decode J_MSquareRows_allCodewords.2.1 31 = .ok (.bipush 10, 2) := by decide +kernel
theorem J_MSquareRows_allCodewords_d33 : decode J_MSquareRows_allCodewords.2.1 33 = .ok (.isub, 1) := by decide +kernel
theorem J_MSquareRows_allCodewords_d34 : decode J_MSquareRows_allCodewords.2.1 34 = .ok (.iload_n 1, 1) := by decide +kernel
theorem J_MSquareRows_allCodewords_d35 : decode J_MSquareRows_allCodewords.2.1 35 = .ok (.imul, 1) := by decide +kernel
theorem J_MSquareRows_allCodewords_d36 : decode J_MSquareRows_allCodewords.2.1 36 = .ok (.bipush 55, 2) := by decide +kernel
theorem J_MSquareRows_allCodewords_d38 : decode J_MSquareRows_allCodewords.2.1 38 = .ok (.isub, 1) := by decide +kernel
theorem J_MSquareRows_allCodewords_d39 : decode J_MSquareRows_allCodewords.2.1 39 = .ok (.isub, 1) := by decide +kernel
theorem J_MSquareRows_allCodewords_d40 : decode J_MSquareRows_allCodewords.2.1 40 = .ok (.goto 4, 3) := by decide +kernel
theorem J_MSquareRows_allCodewords_d43 : decode J_MSquareRows_allCodewords.2.1 43 = .ok (.iload_n 2, 1) := by decide +kernel
theorem J_MSquareRows_allCodewords_d44 : decode J_MSquareRows_allCodewords.2.1 44 = .ok (.istore_n 2, 1) := by decide +kernel
theorem J_MSquareRows_allCodewords_d45 : decode J_MSquareRows_allCodewords.2.1 45 = .ok (.iload_n 0, 1) := by decide +kernel
theorem J_MSquareRows_allCodewords_d46 : decode J_MSquareRows_allCodewords.2.1 46 = .ok (.bipush 6, 2) := by decide +kernel
theorem J_MSquareRows_allCodewords_d48 : decode J_MSquareRows_allCodewords.2.1 48 = .ok (.if_icmp .le 10, 3) := by decide +kernel
theorem J_MSquareRows_allCodewords_d51 : decode J_MSquareRows_allCodewords.2.1 51 = .ok (.iload_n 2, 1) := by decide +kernel
theorem J_MSquareRows_allCodewords_d52 : decode J_MSquareRows_allCodewords.2.1 52 = .ok (.bipush 36, 2) := by decide +kernel
theorem J_MSquareRows_allCodewords_d54 : decode J_MSquareRows_allCodewords.2.1 54 = .ok (.isub, 1) := by decide +kernel
theorem J_MSquareRows_allCodewords_d55 : decode J_MSquareRows_allCodewords.2.1 55 = .ok (.goto 4, 3) := by decide +kernel
theorem J_MSquareRows_allCodewords_d58 : decode J_MSquareRows_allCodewords.2.1 58 = .ok (.iload_n 2, 1) := by decide +kernel
theorem J_MSquareRows_allCodewords_d59 : decode J_MSquareRows_allCodewords.2.1 59 = .ok (.bipush 8, 2) := by decide +kernel
theorem J_MSquareRows_allCodewords_d61 : decode J_MSquareRows_allCodewords.2.1 61 = .ok (.idiv, 1) := by decide +kernel
theorem J_MSquareRows_allCodewords_d62 : decode J_MSquareRows_allCodewords.2.1 62 = .ok (.ireturn, 1) := by decide +kernel
theorem f_MSquareRows_allCodewords_ok {L : Nat} {xs : Nat → Int32} {dep : Nat} {w : Bool} {p0 : Int32} {M : im_M} {Q : Int32 → Prop} (hM : lw_S w M) (h : ed (f_MSquareRows_allCodewords p0 M) Q) : ia (tb_G L xs) dep J_MSquareRows_allCodewords (rpI M Q) (0, lv_args 0 [.int p0], [], M) := by
  have hS : im_St (tb_G L xs) dep J_MSquareRows_allCodewords (ia (tb_G L xs) dep J_MSquareRows_allCodewords (rpI M Q)) := ia_St
  unfold f_MSquareRows_allCodewords at h
  have l0 : im_lk (lv_args 0 [.int p0]) 0 = some (.int p0) := rfl
  refine iq_iload_n hS 1 J_MSquareRows_allCodewords_d0 l0 rfl ?_
  refine iq_bipush hS 3 J_MSquareRows_allCodewords_d1 (v := 7) (by decide +kernel) rfl ?_
  refine iq_idiv hS 4 J_MSquareRows_allCodewords_d3 (by decide) rfl ?_
  refine iq_iconst hS 5 J_MSquareRows_allCodewords_d4 (v := 2) (by decide +kernel) rfl ?_
  refine iq_iadd hS 6 J_MSquareRows_allCodewords_d5 rfl ?_
  refine iq_istore_n hS 7 J_MSquareRows_allCodewords_d6 (by decide) rfl ?_
  refine iq_bipush hS 9 J_MSquareRows_allCodewords_d7 (v := 16) (by decide +kernel) rfl ?_
  refine iq_iload_n hS 10 J_MSquareRows_allCodewords_d9 (lk_1i l0 (by decide)) rfl ?_
  refine iq_imul hS 11 J_MSquareRows_allCodewords_d10 rfl ?_
  refine iq_sipush hS 14 J_MSquareRows_allCodewords_d11 (v := 128) (by decide +kernel) rfl ?_
  refine iq_iadd hS 15 J_MSquareRows_allCodewords_d14 rfl ?_
  refine iq_iload_n hS 16 J_MSquareRows_allCodewords_d15 (lk_1i l0 (by decide)) rfl ?_
  refine iq_imul hS 17 J_MSquareRows_allCodewords_d16 rfl ?_
  refine iq_bipush hS 19 J_MSquareRows_allCodewords_d17 (v := 64) (by decide +kernel) rfl ?_
  refine iq_iadd hS 20 J_MSquareRows_allCodewords_d19 rfl ?_
  refine iq_istore_n hS 21 J_MSquareRows_allCodewords_d20 (by decide) rfl ?_
  refine iq_iload_n hS 22 J_MSquareRows_allCodewords_d21 (lk_1i (lk_1i l0 (by decide)) (by decide)) rfl ?_
  refine iq_iconst hS 23 J_MSquareRows_allCodewords_d22 (v := 1) (by decide +kernel) rfl ?_
  have J1 : ∀ (z2 : Int32) (L' : List (Nat × Value)), z2 = ((if p0 ≤ 1 then (((((16 : Int32) * p0) + 128) * p0) + 64) else ((((((16 : Int32) * p0) + 128) * p0) + 64) - (((((25 : Int32) * ((p0 / 7) + 2)) - 10) * ((p0 / 7) + 2)) - 55))) : Int32) → im_lk L' 0 = some (.int p0) → ia (tb_G L xs) dep J_MSquareRows_allCodewords (rpI M Q) (44, L', [.int z2], M) := by
    intro z2 L' e3 l4
    subst e3
    refine iq_istore_n hS 45 J_MSquareRows_allCodewords_d44 (by decide) rfl ?_
    refine iq_iload_n hS 46 J_MSquareRows_allCodewords_d45 (lk_1i l4 (by decide)) rfl ?_
    refine iq_bipush hS 48 J_MSquareRows_allCodewords_d46 (v := 6) (by decide +kernel) rfl ?_
    have J5 : ∀ (z6 : Int32) (L' : List (Nat × Value)), z6 = ((if p0 ≤ 6 then ((if p0 ≤ 1 then (((((16 : Int32) * p0) + 128) * p0) + 64) else ((((((16 : Int32) * p0) + 128) * p0) + 64) - (((((25 : Int32) * ((p0 / 7) + 2)) - 10) * ((p0 / 7) + 2)) - 55))) : Int32) else (((if p0 ≤ 1 then (((((16 : Int32) * p0) + 128) * p0) + 64) else ((((((16 : Int32) * p0) + 128) * p0) + 64) - (((((25 : Int32) * ((p0 / 7) + 2)) - 10) * ((p0 / 7) + 2)) - 55))) : Int32) - 36)) : Int32) → ia (tb_G L xs) dep J_MSquareRows_allCodewords (rpI M Q) (59, L', [.int z6], M) := by
      intro z6 L' e7 
      subst e7
      refine iq_bipush hS 61 J_MSquareRows_allCodewords_d59 (v := 8) (by decide +kernel) rfl ?_
      refine iq_idiv hS 62 J_MSquareRows_allCodewords_d61 (by decide) rfl ?_
      exact iq_iret J_MSquareRows_allCodewords_d62 rfl rfl ⟨_, rfl, rfl, ed_some h⟩
    refine iq_icmp_le hS 51 J_MSquareRows_allCodewords_d48 (t := 58) rfl (fun q48 => ?_) rfl (fun q48 => ?_)
    · refine iq_iload_n hS 59 J_MSquareRows_allCodewords_d58 lk_1s rfl ?_
      exact J5 _ _ (by simp only [if_pos q48]) 
    · refine iq_iload_n hS 52 J_MSquareRows_allCodewords_d51 lk_1s rfl ?_
      refine iq_bipush hS 54 J_MSquareRows_allCodewords_d52 (v := 36) (by decide +kernel) rfl ?_
      refine iq_isub hS 55 J_MSquareRows_allCodewords_d54 rfl ?_
      refine iq_goto hS J_MSquareRows_allCodewords_d55 (t := 59) rfl ?_
      exact J5 _ _ (by simp only [if_neg q48]) 
  refine iq_icmp_le hS 26 J_MSquareRows_allCodewords_d23 (t := 43) rfl (fun q23 => ?_) rfl (fun q23 => ?_)
  · refine iq_iload_n hS 44 J_MSquareRows_allCodewords_d43 lk_1s rfl ?_
    exact J1 _ _ (by simp only [if_pos q23]) (lk_1i (lk_1i l0 (by decide)) (by decide))
  · refine iq_iload_n hS 27 J_MSquareRows_allCodewords_d26 lk_1s rfl ?_
    refine iq_bipush hS 29 J_MSquareRows_allCodewords_d27 (v := 25) (by decide +kernel) rfl ?_
    refine iq_iload_n hS 30 J_MSquareRows_allCodewords_d29 (lk_1i lk_1s (by decide)) rfl ?_
    refine iq_imul hS 31 J_MSquareRows_allCodewords_d30 rfl ?_
    refine iq_bipush hS 33 J_MSquareRows_allCodewords_d31 (v := 10) (by decide +kernel) rfl ?_
    refine iq_isub hS 34 J_MSquareRows_allCodewords_d33 rfl ?_
    refine iq_iload_n hS 35 J_MSquareRows_allCodewords_d34 (lk_1i lk_1s (by decide)) rfl ?_
    refine iq_imul hS 36 J_MSquareRows_allCodewords_d35 rfl ?_
    refine iq_bipush hS 38 J_MSquareRows_allCodewords_d36 (v := 55) (by decide +kernel) rfl ?_
    refine iq_isub hS 39 J_MSquareRows_allCodewords_d38 rfl ?_
    refine iq_isub hS 40 J_MSquareRows_allCodewords_d39 rfl ?_
    refine iq_goto hS J_MSquareRows_allCodewords_d40 (t := 44) rfl ?_
    exact J1 _ _ (by simp only [if_neg q23]) (lk_1i (lk_1i l0 (by decide)) (by decide))
noncomputable def f_MSquareRows_checkOf (p0 : Int32) (p1 : Int32) (M : im_M) : Option (Int32) := gd (inb ((((40 : Int32) * p1) + p0) - 1) 160) <| some (im_i M 109 (Int32.toNatClampNeg ((((40 : Int32) * p1) + p0) - 1)))
theorem J_MSquareRows_checkOf_d0 : decode J_MSquareRows_checkOf.2.1 0 = .ok (.aload_n 0, 1) := by decide +kernel
theorem J_MSquareRows_checkOf_d1 : decode J_MSquareRows_checkOf.2.1 1 = .ok (.getfield 7, 3) := by decide +kernel
theorem J_MSquareRows_checkOf_d4 : decode J_MSquareRows_checkOf.2.1 4 = .ok (.bipush 40, 2) := by decide +kernel
theorem J_MSquareRows_checkOf_d6 : decode J_MSquareRows_checkOf.2.1 6 = .ok (.iload_n 2, 1) := by decide +kernel
theorem J_MSquareRows_checkOf_d7 : decode J_MSquareRows_checkOf.2.1 7 = .ok (.imul, 1) := by decide +kernel
theorem J_MSquareRows_checkOf_d8 : decode J_MSquareRows_checkOf.2.1 8 = .ok (.iload_n 1, 1) := by decide +kernel
theorem J_MSquareRows_checkOf_d9 : decode J_MSquareRows_checkOf.2.1 9 = .ok (.iadd, 1) := by decide +kernel
theorem J_MSquareRows_checkOf_d10 : decode J_MSquareRows_checkOf.2.1 10 = .ok (.iconst 1, 1) := by decide +kernel
theorem J_MSquareRows_checkOf_d11 : decode J_MSquareRows_checkOf.2.1 11 = .ok (.isub, 1) := by decide +kernel
theorem J_MSquareRows_checkOf_d12 : decode J_MSquareRows_checkOf.2.1 12 = .ok (.iaload, 1) := by decide +kernel
theorem J_MSquareRows_checkOf_d13 : decode J_MSquareRows_checkOf.2.1 13 = .ok (.ireturn, 1) := by decide +kernel
theorem f_MSquareRows_checkOf_ok {L : Nat} {xs : Nat → Int32} {dep : Nat} {w : Bool} {p0 : Int32} {p1 : Int32} {M : im_M} {Q : Int32 → Prop} (hM : lw_S w M) (h : ed (f_MSquareRows_checkOf p0 p1 M) Q) : ia (tb_G L xs) dep J_MSquareRows_checkOf (rpI M Q) (0, lv_args 0 [.ref 108, .int p0, .int p1], [], M) := by
  have hS : im_St (tb_G L xs) dep J_MSquareRows_checkOf (ia (tb_G L xs) dep J_MSquareRows_checkOf (rpI M Q)) := ia_St
  unfold f_MSquareRows_checkOf at h
  have l0 : im_lk (lv_args 0 [.ref 108, .int p0, .int p1]) 0 = some (.ref 108) := rfl
  have l1 : im_lk (lv_args 0 [.ref 108, .int p0, .int p1]) 1 = some (.int p0) := rfl
  have l2 : im_lk (lv_args 0 [.ref 108, .int p0, .int p1]) 2 = some (.int p1) := rfl
  refine iq_aload_n hS 1 J_MSquareRows_checkOf_d0 l0 rfl ?_
  refine iq_getR hS 4 J_MSquareRows_checkOf_d1 lf_16_7 (Or.inr ⟨_, rfl⟩) (ka_108 hM) (ra_108_1 hM) rfl ?_
  refine iq_bipush hS 6 J_MSquareRows_checkOf_d4 (v := 40) (by decide +kernel) rfl ?_
  refine iq_iload_n hS 7 J_MSquareRows_checkOf_d6 l2 rfl ?_
  refine iq_imul hS 8 J_MSquareRows_checkOf_d7 rfl ?_
  refine iq_iload_n hS 9 J_MSquareRows_checkOf_d8 l1 rfl ?_
  refine iq_iadd hS 10 J_MSquareRows_checkOf_d9 rfl ?_
  refine iq_iconst hS 11 J_MSquareRows_checkOf_d10 (v := 1) (by decide +kernel) rfl ?_
  refine iq_isub hS 12 J_MSquareRows_checkOf_d11 rfl ?_
  obtain ⟨g12, h⟩ := ed_gd h
  refine iq_iaload hS 13 J_MSquareRows_checkOf_d12 ⟨(ka_109 hM).1, (ka_109 hM).2, g12.1, ix_lt (kl_109 hM) g12.2⟩ rfl ?_
  exact iq_iret J_MSquareRows_checkOf_d13 rfl rfl ⟨_, rfl, rfl, ed_some h⟩
noncomputable def f_MSquareRows_blocksOf (p0 : Int32) (p1 : Int32) (M : im_M) : Option (Int32) := gd (inb ((((40 : Int32) * p1) + p0) - 1) 160) <| some (im_i M 110 (Int32.toNatClampNeg ((((40 : Int32) * p1) + p0) - 1)))
theorem J_MSquareRows_blocksOf_d0 : decode J_MSquareRows_blocksOf.2.1 0 = .ok (.aload_n 0, 1) := by decide +kernel
theorem J_MSquareRows_blocksOf_d1 : decode J_MSquareRows_blocksOf.2.1 1 = .ok (.getfield 13, 3) := by decide +kernel
theorem J_MSquareRows_blocksOf_d4 : decode J_MSquareRows_blocksOf.2.1 4 = .ok (.bipush 40, 2) := by decide +kernel
theorem J_MSquareRows_blocksOf_d6 : decode J_MSquareRows_blocksOf.2.1 6 = .ok (.iload_n 2, 1) := by decide +kernel
theorem J_MSquareRows_blocksOf_d7 : decode J_MSquareRows_blocksOf.2.1 7 = .ok (.imul, 1) := by decide +kernel
theorem J_MSquareRows_blocksOf_d8 : decode J_MSquareRows_blocksOf.2.1 8 = .ok (.iload_n 1, 1) := by decide +kernel
theorem J_MSquareRows_blocksOf_d9 : decode J_MSquareRows_blocksOf.2.1 9 = .ok (.iadd, 1) := by decide +kernel
theorem J_MSquareRows_blocksOf_d10 : decode J_MSquareRows_blocksOf.2.1 10 = .ok (.iconst 1, 1) := by decide +kernel
theorem J_MSquareRows_blocksOf_d11 : decode J_MSquareRows_blocksOf.2.1 11 = .ok (.isub, 1) := by decide +kernel
theorem J_MSquareRows_blocksOf_d12 : decode J_MSquareRows_blocksOf.2.1 12 = .ok (.iaload, 1) := by decide +kernel
theorem J_MSquareRows_blocksOf_d13 : decode J_MSquareRows_blocksOf.2.1 13 = .ok (.ireturn, 1) := by decide +kernel
theorem f_MSquareRows_blocksOf_ok {L : Nat} {xs : Nat → Int32} {dep : Nat} {w : Bool} {p0 : Int32} {p1 : Int32} {M : im_M} {Q : Int32 → Prop} (hM : lw_S w M) (h : ed (f_MSquareRows_blocksOf p0 p1 M) Q) : ia (tb_G L xs) dep J_MSquareRows_blocksOf (rpI M Q) (0, lv_args 0 [.ref 108, .int p0, .int p1], [], M) := by
  have hS : im_St (tb_G L xs) dep J_MSquareRows_blocksOf (ia (tb_G L xs) dep J_MSquareRows_blocksOf (rpI M Q)) := ia_St
  unfold f_MSquareRows_blocksOf at h
  have l0 : im_lk (lv_args 0 [.ref 108, .int p0, .int p1]) 0 = some (.ref 108) := rfl
  have l1 : im_lk (lv_args 0 [.ref 108, .int p0, .int p1]) 1 = some (.int p0) := rfl
  have l2 : im_lk (lv_args 0 [.ref 108, .int p0, .int p1]) 2 = some (.int p1) := rfl
  refine iq_aload_n hS 1 J_MSquareRows_blocksOf_d0 l0 rfl ?_
  refine iq_getR hS 4 J_MSquareRows_blocksOf_d1 lf_16_13 (Or.inr ⟨_, rfl⟩) (ka_108 hM) (ra_108_2 hM) rfl ?_
  refine iq_bipush hS 6 J_MSquareRows_blocksOf_d4 (v := 40) (by decide +kernel) rfl ?_
  refine iq_iload_n hS 7 J_MSquareRows_blocksOf_d6 l2 rfl ?_
  refine iq_imul hS 8 J_MSquareRows_blocksOf_d7 rfl ?_
  refine iq_iload_n hS 9 J_MSquareRows_blocksOf_d8 l1 rfl ?_
  refine iq_iadd hS 10 J_MSquareRows_blocksOf_d9 rfl ?_
  refine iq_iconst hS 11 J_MSquareRows_blocksOf_d10 (v := 1) (by decide +kernel) rfl ?_
  refine iq_isub hS 12 J_MSquareRows_blocksOf_d11 rfl ?_
  obtain ⟨g12, h⟩ := ed_gd h
  refine iq_iaload hS 13 J_MSquareRows_blocksOf_d12 ⟨(ka_110 hM).1, (ka_110 hM).2, g12.1, ix_lt (kl_110 hM) g12.2⟩ rfl ?_
  exact iq_iret J_MSquareRows_blocksOf_d13 rfl rfl ⟨_, rfl, rfl, ed_some h⟩
noncomputable def f_MSquareRows_holds (p0 : Int32) (p1 : Int32) (M : im_M) : Option (Int32) := bd1 (f_MSquareRows_allCodewords p0 M) fun (x1 : Int32) => bd1 (f_MSquareRows_checkOf p0 p1 M) fun (x2 : Int32) => bd1 (f_MSquareRows_blocksOf p0 p1 M) fun (x3 : Int32) => some (x1 - (x2 * x3))
theorem J_MSquareRows_holds_d0 : decode J_MSquareRows_holds.2.1 0 = .ok (.iload_n 1, 1) := by decide +kernel
theorem J_MSquareRows_holds_d1 : decode J_MSquareRows_holds.2.1 1 = .ok (.invokestatic 82, 3) := by decide +kernel
theorem J_MSquareRows_holds_d4 : decode J_MSquareRows_holds.2.1 4 = .ok (.aload_n 0, 1) := by decide +kernel
theorem J_MSquareRows_holds_d5 : decode J_MSquareRows_holds.2.1 5 = .ok (.iload_n 1, 1) := by decide +kernel
theorem J_MSquareRows_holds_d6 : decode J_MSquareRows_holds.2.1 6 = .ok (.iload_n 2, 1) := by decide +kernel
theorem J_MSquareRows_holds_d7 : decode J_MSquareRows_holds.2.1 7 = .ok (.invokevirtual 86, 3) := by decide +kernel
theorem J_MSquareRows_holds_d10 : decode J_MSquareRows_holds.2.1 10 = .ok (.aload_n 0, 1) := by decide +kernel
theorem J_MSquareRows_holds_d11 : decode J_MSquareRows_holds.2.1 11 = .ok (.iload_n 1, 1) := by decide +kernel
theorem J_MSquareRows_holds_d12 : decode J_MSquareRows_holds.2.1 12 = .ok (.iload_n 2, 1) := by decide +kernel
theorem J_MSquareRows_holds_d13 : decode J_MSquareRows_holds.2.1 13 = .ok (.invokevirtual 90, 3) := by decide +kernel
theorem J_MSquareRows_holds_d16 : decode J_MSquareRows_holds.2.1 16 = .ok (.imul, 1) := by decide +kernel
theorem J_MSquareRows_holds_d17 : decode J_MSquareRows_holds.2.1 17 = .ok (.isub, 1) := by decide +kernel
theorem J_MSquareRows_holds_d18 : decode J_MSquareRows_holds.2.1 18 = .ok (.ireturn, 1) := by decide +kernel
theorem f_MSquareRows_holds_ok {L : Nat} {xs : Nat → Int32} {dep : Nat} {w : Bool} {p0 : Int32} {p1 : Int32} {M : im_M} {Q : Int32 → Prop} (hM : lw_S w M) (h : ed (f_MSquareRows_holds p0 p1 M) Q) : ia (tb_G L xs) (dep + 1) J_MSquareRows_holds (rpI M Q) (0, lv_args 0 [.ref 108, .int p0, .int p1], [], M) := by
  have hS : im_St (tb_G L xs) (dep + 1) J_MSquareRows_holds (ia (tb_G L xs) (dep + 1) J_MSquareRows_holds (rpI M Q)) := ia_St
  unfold f_MSquareRows_holds at h
  have l0 : im_lk (lv_args 0 [.ref 108, .int p0, .int p1]) 0 = some (.ref 108) := rfl
  have l1 : im_lk (lv_args 0 [.ref 108, .int p0, .int p1]) 1 = some (.int p0) := rfl
  have l2 : im_lk (lv_args 0 [.ref 108, .int p0, .int p1]) 2 = some (.int p1) := rfl
  refine iq_iload_n hS 1 J_MSquareRows_holds_d0 l1 rfl ?_
  obtain ⟨Q1, hQ1, h⟩ := bd1_ed h
  refine iq_cpI hS 4 J_MSquareRows_holds_d1 rfl (pr_stat (vs := [_]) lc_16_82 lT_402 rfl rfl (by decide) rfl (Nat.le_of_ble_eq_true rfl) (Nat.le_of_ble_eq_true rfl)) (f_MSquareRows_allCodewords_ok (dep := dep + 0) hM h) rfl ?_
  intro x1 h
  replace h := hQ1 _ h
  refine iq_aload_n hS 5 J_MSquareRows_holds_d4 l0 rfl ?_
  refine iq_iload_n hS 6 J_MSquareRows_holds_d5 l1 rfl ?_
  refine iq_iload_n hS 7 J_MSquareRows_holds_d6 l2 rfl ?_
  obtain ⟨Q2, hQ2, h⟩ := bd1_ed h
  refine iq_cpI hS 10 J_MSquareRows_holds_d7 rfl (pr_inst (vs := [_, _]) lc_16_86 lT_403 rfl rfl (by decide) (by decide) rfl (Nat.le_of_ble_eq_true rfl) (Nat.le_of_ble_eq_true rfl) (fun _ => Or.inl (pr_b (ka_108 hM) (by decide) rfl))) (f_MSquareRows_checkOf_ok (dep := dep + 0) hM h) rfl ?_
  intro x2 h
  replace h := hQ2 _ h
  refine iq_aload_n hS 11 J_MSquareRows_holds_d10 l0 rfl ?_
  refine iq_iload_n hS 12 J_MSquareRows_holds_d11 l1 rfl ?_
  refine iq_iload_n hS 13 J_MSquareRows_holds_d12 l2 rfl ?_
  obtain ⟨Q3, hQ3, h⟩ := bd1_ed h
  refine iq_cpI hS 16 J_MSquareRows_holds_d13 rfl (pr_inst (vs := [_, _]) lc_16_90 lT_404 rfl rfl (by decide) (by decide) rfl (Nat.le_of_ble_eq_true rfl) (Nat.le_of_ble_eq_true rfl) (fun _ => Or.inl (pr_b (ka_108 hM) (by decide) rfl))) (f_MSquareRows_blocksOf_ok (dep := dep + 0) hM h) rfl ?_
  intro x3 h
  replace h := hQ3 _ h
  refine iq_imul hS 17 J_MSquareRows_holds_d16 rfl ?_
  refine iq_isub hS 18 J_MSquareRows_holds_d17 rfl ?_
  exact iq_iret J_MSquareRows_holds_d18 rfl rfl ⟨_, rfl, rfl, ed_some h⟩
noncomputable def f_MSquareRows_rank (p0 : Int32) (M : im_M) : Option (Int32) := if 10 ≤ p0 then if 27 ≤ p0 then some 2 else some 1 else some 0
theorem J_MSquareRows_rank_d0 : decode J_MSquareRows_rank.2.1 0 = .ok (.iload_n 0, 1) := by decide +kernel
theorem J_MSquareRows_rank_d1 : decode J_MSquareRows_rank.2.1 1 = .ok (.bipush 10, 2) := by decide +kernel
theorem J_MSquareRows_rank_d3 : decode J_MSquareRows_rank.2.1 3 = .ok (.if_icmp .ge 7, 3) := by decide +kernel
theorem J_MSquareRows_rank_d6 : decode J_MSquareRows_rank.2.1 6 = .ok (.iconst 0, 1) := by decide +kernel
theorem J_MSquareRows_rank_d7 : decode J_MSquareRows_rank.2.1 7 = .ok (.goto 14, 3) := by decide +kernel
theorem J_MSquareRows_rank_d10 : decode J_MSquareRows_rank.2.1 10 = .ok (.iload_n 0, 1) := by decide +kernel
theorem J_MSquareRows_rank_d11 : decode J_MSquareRows_rank.2.1 11 = .ok (.bipush 27, 2) := by decide +kernel
theorem J_MSquareRows_rank_d13 : decode J_MSquareRows_rank.2.1 13 = .ok (.if_icmp .ge 7, 3) := by decide +kernel
theorem J_MSquareRows_rank_d16 : decode J_MSquareRows_rank.2.1 16 = .ok (.iconst 1, 1) := by decide +kernel
theorem J_MSquareRows_rank_d17 : decode J_MSquareRows_rank.2.1 17 = .ok (.goto 4, 3) := by decide +kernel
theorem J_MSquareRows_rank_d20 : decode J_MSquareRows_rank.2.1 20 = .ok (.iconst 2, 1) := by decide +kernel
theorem J_MSquareRows_rank_d21 : decode J_MSquareRows_rank.2.1 21 = .ok (.ireturn, 1) := by decide +kernel
theorem f_MSquareRows_rank_ok {L : Nat} {xs : Nat → Int32} {dep : Nat} {w : Bool} {p0 : Int32} {M : im_M} {Q : Int32 → Prop} (hM : lw_S w M) (h : ed (f_MSquareRows_rank p0 M) Q) : ia (tb_G L xs) dep J_MSquareRows_rank (rpI M Q) (0, lv_args 0 [.int p0], [], M) := by
  have hS : im_St (tb_G L xs) dep J_MSquareRows_rank (ia (tb_G L xs) dep J_MSquareRows_rank (rpI M Q)) := ia_St
  unfold f_MSquareRows_rank at h
  have l0 : im_lk (lv_args 0 [.int p0]) 0 = some (.int p0) := rfl
  refine iq_iload_n hS 1 J_MSquareRows_rank_d0 l0 rfl ?_
  refine iq_bipush hS 3 J_MSquareRows_rank_d1 (v := 10) (by decide +kernel) rfl ?_
  refine iq_icmp_ge hS 6 J_MSquareRows_rank_d3 (t := 10) rfl (fun q3 => ?_) rfl (fun q3 => ?_)
  · replace h := ed_pos q3 h
    refine iq_iload_n hS 11 J_MSquareRows_rank_d10 l0 rfl ?_
    refine iq_bipush hS 13 J_MSquareRows_rank_d11 (v := 27) (by decide +kernel) rfl ?_
    refine iq_icmp_ge hS 16 J_MSquareRows_rank_d13 (t := 20) rfl (fun q13 => ?_) rfl (fun q13 => ?_)
    · replace h := ed_pos q13 h
      refine iq_iconst hS 21 J_MSquareRows_rank_d20 (v := 2) (by decide +kernel) rfl ?_
      exact iq_iret J_MSquareRows_rank_d21 rfl rfl ⟨_, rfl, rfl, ed_some h⟩
    · replace h := ed_neg q13 h
      refine iq_iconst hS 17 J_MSquareRows_rank_d16 (v := 1) (by decide +kernel) rfl ?_
      refine iq_goto hS J_MSquareRows_rank_d17 (t := 21) rfl ?_
      exact iq_iret J_MSquareRows_rank_d21 rfl rfl ⟨_, rfl, rfl, ed_some h⟩
  · replace h := ed_neg q3 h
    refine iq_iconst hS 7 J_MSquareRows_rank_d6 (v := 0) (by decide +kernel) rfl ?_
    refine iq_goto hS J_MSquareRows_rank_d7 (t := 21) rfl ?_
    exact iq_iret J_MSquareRows_rank_d21 rfl rfl ⟨_, rfl, rfl, ed_some h⟩
noncomputable def f_MSquareRows_fits_L36 (v6 : Int32) (M10 : im_M) (x7 : Int32) (x8 : Int32) (x9 : Int32) : Option ((Int32 × Int32 × Int32) ⊕ (Int32)) := if (im_i M10 108 4) ≤ x9 then some (.inr x7) else bd1 (jn0 (fun (_ : Unit) => some 1) fun k12 => if x9 ≤ 0 then k12 () else gd (inb x9 3000) <| gd (inb (x9 - 1) 3000) <| if ¬ (im_i M10 117 (Int32.toNatClampNeg x9)) = (im_i M10 117 (Int32.toNatClampNeg (x9 - 1))) then k12 () else some (x8 + 1)) fun (y17 : Int32) => bd1 (jn0 (fun (_ : Unit) => some 0) fun k23 => if x7 = 0 then k23 () else gd (inb x9 3000) <| bd1 (f_MSquareRows_rank v6 M10) fun (x24 : Int32) => bd1 (f_MSquareRows_lengthBits (im_i M10 117 (Int32.toNatClampNeg x9)) x24 M10) fun (x25 : Int32) => if ((1 : Int32) <<< (x25 &&& 31 : Int32) : Int32) ≤ y17 then k23 () else some 1) fun (y30 : Int32) => some (.inl (y30, y17, (x9 + 1)))
noncomputable def f_MSquareRows_fits (p0 : Int32) (p1 : Int32) (M : im_M) : Option (Int32 × im_M) := bd1 (f_MSquareRows_rank p0 M) fun (x1 : Int32) => bd1 (f_MSquareRows_divide x1 M) fun (M2 : im_M) => bd1 (f_MSquareRows_holds p0 p1 M2) fun (x3 : Int32) => bd1 (lp (uc3 (f_MSquareRows_fits_L36 p0 M2)) (((if ((8 : Int32) * x3) < (im_i M2 108 16) then 0 else 1) : Int32), 0, 0)) fun (y35 : Int32) => gd (y35 = 0 ∨ y35 = 1) <| some (y35, M2)
theorem J_MSquareRows_fits_d0 : decode J_MSquareRows_fits.2.1 0 = .ok (.aload_n 0, 1) := by decide +kernel
theorem J_MSquareRows_fits_d1 : decode J_MSquareRows_fits.2.1 1 = .ok (.iload_n 1, 1) := by decide +kernel
theorem J_MSquareRows_fits_d2 : decode J_MSquareRows_fits.2.1 2 = .ok (.invokestatic 134, 3) := by decide +kernel
theorem J_MSquareRows_fits_d5 : decode J_MSquareRows_fits.2.1 5 = .ok (.invokevirtual 214, 3) := by decide +kernel
theorem J_MSquareRows_fits_d8 : decode J_MSquareRows_fits.2.1 8 = .ok (.aload_n 0, 1) := by decide +kernel
theorem J_MSquareRows_fits_d9 : decode J_MSquareRows_fits.2.1 9 = .ok (.getfield 121, 3) := by decide +kernel
theorem J_MSquareRows_fits_d12 : decode J_MSquareRows_fits.2.1 12 = .ok (.bipush 8, 2) := by decide +kernel
theorem J_MSquareRows_fits_d14 : decode J_MSquareRows_fits.2.1 14 = .ok (.aload_n 0, 1) := by decide +kernel
theorem J_MSquareRows_fits_d15 : decode J_MSquareRows_fits.2.1 15 = .ok (.iload_n 1, 1) := by decide +kernel
theorem J_MSquareRows_fits_d16 : decode J_MSquareRows_fits.2.1 16 = .ok (.iload_n 2, 1) := by decide +kernel
theorem J_MSquareRows_fits_d17 : decode J_MSquareRows_fits.2.1 17 = .ok (.invokevirtual 141, 3) := by decide +kernel
theorem J_MSquareRows_fits_d20 : decode J_MSquareRows_fits.2.1 20 = .ok (.imul, 1) := by decide +kernel
theorem J_MSquareRows_fits_d21 : decode J_MSquareRows_fits.2.1 21 = .ok (.if_icmp .gt 7, 3) := by decide +kernel
theorem J_MSquareRows_fits_d24 : decode J_MSquareRows_fits.2.1 24 = .ok (.iconst 1, 1) := by decide +kernel
theorem J_MSquareRows_fits_d25 : decode J_MSquareRows_fits.2.1 25 = .ok (.goto 4, 3) := by decide +kernel
theorem J_MSquareRows_fits_d28 : decode J_MSquareRows_fits.2.1 28 = .ok (.iconst 0, 1) := by decide +kernel
theorem J_MSquareRows_fits_d29 : decode J_MSquareRows_fits.2.1 29 = .ok (.istore_n 3, 1) := by decide +kernel
theorem J_MSquareRows_fits_d30 : decode J_MSquareRows_fits.2.1 30 = .ok (.iconst 0, 1) := by decide +kernel
theorem J_MSquareRows_fits_d31 : decode J_MSquareRows_fits.2.1 31 = .ok (.istore 4, 2) := by decide +kernel
theorem J_MSquareRows_fits_d33 : decode J_MSquareRows_fits.2.1 33 = .ok (.iconst 0, 1) := by decide +kernel
theorem J_MSquareRows_fits_d34 : decode J_MSquareRows_fits.2.1 34 = .ok (.istore 5, 2) := by decide +kernel
theorem J_MSquareRows_fits_d36 : decode J_MSquareRows_fits.2.1 36 = .ok (.iload 5, 2) := by decide +kernel
theorem J_MSquareRows_fits_d38 : decode J_MSquareRows_fits.2.1 38 = .ok (.aload_n 0, 1) := by decide +kernel
theorem J_MSquareRows_fits_d39 : decode J_MSquareRows_fits.2.1 39 = .ok (.getfield 77, 3) := by decide +kernel
theorem J_MSquareRows_fits_d42 : decode J_MSquareRows_fits.2.1 42 = .ok (.if_icmp .ge 74, 3) := by decide +kernel
theorem J_MSquareRows_fits_d45 : decode J_MSquareRows_fits.2.1 45 = .ok (.iload 5, 2) := by decide +kernel
theorem J_MSquareRows_fits_d47 : decode J_MSquareRows_fits.2.1 47 = .ok (.ifCond .le 29, 3) := by decide +kernel
theorem J_MSquareRows_fits_d50 : decode J_MSquareRows_fits.2.1 50 = .ok (.aload_n 0, 1) := by decide +kernel
theorem J_MSquareRows_fits_d51 : decode J_MSquareRows_fits.2.1 51 = .ok (.getfield 34, 3) := by decide +kernel
theorem J_MSquareRows_fits_d54 : decode J_MSquareRows_fits.2.1 54 = .ok (.iload 5, 2) := by decide +kernel
theorem J_MSquareRows_fits_d56 : decode J_MSquareRows_fits.2.1 56 = .ok (.iaload, 1) := by decide +kernel
theorem J_MSquareRows_fits_d57 : decode J_MSquareRows_fits.2.1 57 = .ok (.aload_n 0, 1) := by decide +kernel
theorem J_MSquareRows_fits_d58 : decode J_MSquareRows_fits.2.1 58 = .ok (.getfield 34, 3) := by decide +kernel
theorem J_MSquareRows_fits_d61 : decode J_MSquareRows_fits.2.1 61 = .ok (.iload 5, 2) := by decide +kernel
theorem J_MSquareRows_fits_d63 : decode J_MSquareRows_fits.2.1 63 = .ok (.iconst 1, 1) := by decide +kernel
theorem J_MSquareRows_fits_d64 : decode J_MSquareRows_fits.2.1 64 = .ok (.isub, 1) := by decide +kernel
theorem J_MSquareRows_fits_d65 : decode J_MSquareRows_fits.2.1 65 = .ok (.iaload, 1) := by decide +kernel
theorem J_MSquareRows_fits_d66 : decode J_MSquareRows_fits.2.1 66 = .ok (.if_icmp .ne 10, 3) := by decide +kernel
theorem J_MSquareRows_fits_d69 : decode J_MSquareRows_fits.2.1 69 = .ok (.iload 4, 2) := by decide +kernel
theorem J_MSquareRows_fits_d71 : decode J_MSquareRows_fits.2.1 71 = .ok (.iconst 1, 1) := by decide +kernel
theorem J_MSquareRows_fits_d72 : decode J_MSquareRows_fits.2.1 72 = .ok (.iadd, 1) := by decide +kernel
theorem J_MSquareRows_fits_d73 : decode J_MSquareRows_fits.2.1 73 = .ok (.goto 4, 3) := by decide +kernel
theorem J_MSquareRows_fits_d76 : decode J_MSquareRows_fits.2.1 76 = .ok (.iconst 1, 1) := by decide +kernel
theorem J_MSquareRows_fits_d77 : decode J_MSquareRows_fits.2.1 77 = .ok (.istore 4, 2) := by decide +kernel
theorem J_MSquareRows_fits_d79 : decode J_MSquareRows_fits.2.1 79 = .ok (.iload_n 3, 1) := by decide +kernel
theorem J_MSquareRows_fits_d80 : decode J_MSquareRows_fits.2.1 80 = .ok (.ifCond .eq 28, 3) := by decide +kernel
theorem J_MSquareRows_fits_d83 : decode J_MSquareRows_fits.2.1 83 = .ok (.iload 4, 2) := by decide +kernel
theorem J_MSquareRows_fits_d85 : decode J_MSquareRows_fits.2.1 85 = .ok (.iconst 1, 1) := by decide +kernel
theorem J_MSquareRows_fits_d86 : decode J_MSquareRows_fits.2.1 86 = .ok (.aload_n 0, 1) := by decide +kernel
theorem J_MSquareRows_fits_d87 : decode J_MSquareRows_fits.2.1 87 = .ok (.getfield 34, 3) := by decide +kernel
theorem J_MSquareRows_fits_d90 : decode J_MSquareRows_fits.2.1 90 = .ok (.iload 5, 2) := by decide +kernel
theorem J_MSquareRows_fits_d92 : decode J_MSquareRows_fits.2.1 92 = .ok (.iaload, 1) := by decide +kernel
theorem J_MSquareRows_fits_d93 : decode J_MSquareRows_fits.2.1 93 = .ok (.iload_n 1, 1) := by decide +kernel
theorem J_MSquareRows_fits_d94 : decode J_MSquareRows_fits.2.1 94 = .ok (.invokestatic 134, 3) := by decide +kernel
theorem J_MSquareRows_fits_d97 : decode J_MSquareRows_fits.2.1 97 = .ok (.invokestatic 99, 3) := by decide +kernel
theorem J_MSquareRows_fits_d100 : decode J_MSquareRows_fits.2.1 100 = .ok (.ishl, 1) := by decide +kernel
theorem J_MSquareRows_fits_d101 : decode J_MSquareRows_fits.2.1 101 = .ok (.if_icmp .ge 7, 3) := by decide +kernel
theorem J_MSquareRows_fits_d104 : decode J_MSquareRows_fits.2.1 104 = .ok (.iconst 1, 1) := by decide +kernel
theorem J_MSquareRows_fits_d105 : decode J_MSquareRows_fits.2.1 105 = .ok (.goto 4, 3) := by decide +kernel
theorem J_MSquareRows_fits_d108 : decode J_MSquareRows_fits.2.1 108 = .ok (.iconst 0, 1) := by decide +kernel
theorem J_MSquareRows_fits_d109 : decode J_MSquareRows_fits.2.1 109 = .ok (.istore_n 3, 1) := by decide +kernel
theorem J_MSquareRows_fits_d110 : decode J_MSquareRows_fits.2.1 110 = .ok (.iinc 5 1, 3) := by decide +kernel
theorem J_MSquareRows_fits_d113 : decode J_MSquareRows_fits.2.1 113 = .ok (.goto (-77), 3) := by decide +kernel
theorem J_MSquareRows_fits_d116 : decode J_MSquareRows_fits.2.1 116 = .ok (.iload_n 3, 1) := by decide +kernel
theorem J_MSquareRows_fits_d117 : decode J_MSquareRows_fits.2.1 117 = .ok (.ireturn, 1) := by decide +kernel
theorem f_MSquareRows_fits_ok {L : Nat} {xs : Nat → Int32} {dep : Nat} {w : Bool} {p0 : Int32} {p1 : Int32} {M : im_M} {Q : Int32 × im_M → Prop} (hM : lw_S w M) (h : ed (f_MSquareRows_fits p0 p1 M) Q) : ia (tb_G L xs) (dep + 6) J_MSquareRows_fits (rwI w Q) (0, lv_args 0 [.ref 108, .int p0, .int p1], [], M) := by
  have hS : im_St (tb_G L xs) (dep + 6) J_MSquareRows_fits (ia (tb_G L xs) (dep + 6) J_MSquareRows_fits (rwI w Q)) := ia_St
  unfold f_MSquareRows_fits at h
  have l0 : im_lk (lv_args 0 [.ref 108, .int p0, .int p1]) 0 = some (.ref 108) := rfl
  have l1 : im_lk (lv_args 0 [.ref 108, .int p0, .int p1]) 1 = some (.int p0) := rfl
  have l2 : im_lk (lv_args 0 [.ref 108, .int p0, .int p1]) 2 = some (.int p1) := rfl
  refine iq_aload_n hS 1 J_MSquareRows_fits_d0 l0 rfl ?_
  refine iq_iload_n hS 2 J_MSquareRows_fits_d1 l1 rfl ?_
  obtain ⟨Q1, hQ1, h⟩ := bd1_ed h
  refine iq_cpI hS 5 J_MSquareRows_fits_d2 rfl (pr_stat (vs := [_]) lc_16_134 lT_391 rfl rfl (by decide) rfl (Nat.le_of_ble_eq_true rfl) (Nat.le_of_ble_eq_true rfl)) (f_MSquareRows_rank_ok (dep := dep + 5) hM h) rfl ?_
  intro x1 h
  replace h := hQ1 _ h
  obtain ⟨Q2, hQ2, h⟩ := bd1_ed h
  refine iq_cwV hS 8 J_MSquareRows_fits_d5 rfl (pr_inst (vs := [_]) lc_16_214 lT_392 rfl rfl (by decide) (by decide) rfl (Nat.le_of_ble_eq_true rfl) (Nat.le_of_ble_eq_true rfl) (fun _ => Or.inl (pr_b (ka_108 hM) (by decide) rfl))) (f_MSquareRows_divide_ok (dep := dep + 0) hM h) rfl ?_
  intro M2 hM2 h
  replace h := hQ2 _ h
  refine iq_aload_n hS 9 J_MSquareRows_fits_d8 l0 rfl ?_
  refine iq_getI hS 12 J_MSquareRows_fits_d9 lf_16_121 (Or.inl rfl) (ka_108 hM2) rfl ?_
  refine iq_bipush hS 14 J_MSquareRows_fits_d12 (v := 8) (by decide +kernel) rfl ?_
  refine iq_aload_n hS 15 J_MSquareRows_fits_d14 l0 rfl ?_
  refine iq_iload_n hS 16 J_MSquareRows_fits_d15 l1 rfl ?_
  refine iq_iload_n hS 17 J_MSquareRows_fits_d16 l2 rfl ?_
  obtain ⟨Q3, hQ3, h⟩ := bd1_ed h
  refine iq_cpI hS 20 J_MSquareRows_fits_d17 rfl (pr_inst (vs := [_, _]) lc_16_141 lT_401 rfl rfl (by decide) (by decide) rfl (Nat.le_of_ble_eq_true rfl) (Nat.le_of_ble_eq_true rfl) (fun _ => Or.inl (pr_b (ka_108 hM2) (by decide) rfl))) (f_MSquareRows_holds_ok (dep := dep + 4) hM2 h) rfl ?_
  intro x3 h
  replace h := hQ3 _ h
  refine iq_imul hS 21 J_MSquareRows_fits_d20 rfl ?_
  have J4 : ∀ (z5 : Int32) (L' : List (Nat × Value)), z5 = ((if ((8 : Int32) * x3) < (im_i M2 108 16) then 0 else 1) : Int32) → im_lk L' 0 = some (.ref 108) → im_lk L' 1 = some (.int p0) → ia (tb_G L xs) (dep + 6) J_MSquareRows_fits (rwI w Q) (29, L', [.int z5], M2) := by
    intro z5 L' e6 l7 l8
    subst e6
    refine iq_istore_n hS 30 J_MSquareRows_fits_d29 (by decide) rfl ?_
    refine iq_iconst hS 31 J_MSquareRows_fits_d30 (v := 0) (by decide +kernel) rfl ?_
    refine iq_istore hS 33 J_MSquareRows_fits_d31 (by decide) rfl ?_
    refine iq_iconst hS 34 J_MSquareRows_fits_d33 (v := 0) (by decide +kernel) rfl ?_
    refine iq_istore hS 36 J_MSquareRows_fits_d34 (by decide) rfl ?_
    obtain ⟨Q9, hQ9, h⟩ := bd1_ed h
    have K9 : ∀ (y10 : Int32) (L' : List (Nat × Value)), im_lk L' 3 = some (.int y10) → Q9 y10 → ia (tb_G L xs) (dep + 6) J_MSquareRows_fits (rwI w Q) (116, L', [], M2) := by
      intro y10 L' l11 h
      replace h := hQ9 _ h
      refine iq_iload_n hS 117 J_MSquareRows_fits_d116 l11 rfl ?_
      obtain ⟨g117, h⟩ := ed_gd h
      exact iq_iret J_MSquareRows_fits_d117 rfl (nar_z g117) ⟨_, rfl, hM2, ed_some h⟩
    obtain ⟨r9, hr9, hq9⟩ := h
    obtain ⟨n9, hn9⟩ := lp_n hr9
    have I9 : ∀ (n : Nat) (x12 : Int32) (x13 : Int32) (x14 : Int32) (L' : List (Nat × Value)), im_lk L' 0 = some (.ref 108) → im_lk L' 1 = some (.int p0) → im_lk L' 3 = some (.int x12) → im_lk L' 4 = some (.int x13) → im_lk L' 5 = some (.int x14) → lpn (uc3 (f_MSquareRows_fits_L36 p0 M2)) n (x12, x13, x14) = some r9 → ia (tb_G L xs) (dep + 6) J_MSquareRows_fits (rwI w Q) (36, L', [], M2) := by
      intro n
      induction n with
      | zero => intro x12 x13 x14 L' l15 l16 l17 l18 l19 hn; exact (lpn_0 hn).elim
      | succ n ih =>
        intro x12 x13 x14 L' l15 l16 l17 l18 l19 hn
        have h := lpn_ed3 hn
        unfold f_MSquareRows_fits_L36 at h
        refine iq_iload hS 38 J_MSquareRows_fits_d36 l19 rfl ?_
        refine iq_aload_n hS 39 J_MSquareRows_fits_d38 l15 rfl ?_
        refine iq_getI hS 42 J_MSquareRows_fits_d39 lf_16_77 (Or.inl rfl) (ka_108 hM2) rfl ?_
        refine iq_icmp_ge hS 45 J_MSquareRows_fits_d42 (t := 116) rfl (fun q42 => ?_) rfl (fun q42 => ?_)
        · replace h := ed_pos q42 h
          exact K9 _ _ l17 (lq_r h hq9)
        · replace h := ed_neg q42 h
          refine iq_iload hS 47 J_MSquareRows_fits_d45 l19 rfl ?_
          obtain ⟨Q20, hQ20, h⟩ := bd1_ed h
          have J20 : ∀ (y26 : Int32) (L' : List (Nat × Value)), im_lk L' 0 = some (.ref 108) → im_lk L' 1 = some (.int p0) → im_lk L' 3 = some (.int x12) → im_lk L' 5 = some (.int x14) → Q20 y26 → ia (tb_G L xs) (dep + 6) J_MSquareRows_fits (rwI w Q) (77, L', [.int y26], M2) := by
            intro y26 L' l27 l28 l29 l30 h
            replace h := hQ20 _ h
            refine iq_istore hS 79 J_MSquareRows_fits_d77 (by decide) rfl ?_
            refine iq_iload_n hS 80 J_MSquareRows_fits_d79 (lk_1i l29 (by decide)) rfl ?_
            obtain ⟨Q31, hQ31, h⟩ := bd1_ed h
            have J31 : ∀ (y39 : Int32) (L' : List (Nat × Value)), im_lk L' 0 = some (.ref 108) → im_lk L' 1 = some (.int p0) → im_lk L' 4 = some (.int y26) → im_lk L' 5 = some (.int x14) → Q31 y39 → ia (tb_G L xs) (dep + 6) J_MSquareRows_fits (rwI w Q) (109, L', [.int y39], M2) := by
              intro y39 L' l40 l41 l42 l43 h
              replace h := hQ31 _ h
              refine iq_istore_n hS 110 J_MSquareRows_fits_d109 (by decide) rfl ?_
              refine iq_iincv hS 113 J_MSquareRows_fits_d110 (c := 1) (by decide +kernel) (lk_1i l43 (by decide)) (by decide) rfl ?_
              refine iq_goto hS J_MSquareRows_fits_d113 (t := 36) rfl ?_
              exact ih _ _ _ _ (lk_1r (lk_1r l40 (by decide)) (by decide)) (lk_1i (lk_1i l41 (by decide)) (by decide)) (lk_1i lk_1s (by decide)) (lk_1i (lk_1i l42 (by decide)) (by decide)) lk_1s (lq_l h)
            obtain ⟨k32, Q32, hQ32, hk32, h⟩ := jn0_ed h
            have J32 : ∀  (L' : List (Nat × Value)), im_lk L' 0 = some (.ref 108) → im_lk L' 1 = some (.int p0) → im_lk L' 4 = some (.int y26) → im_lk L' 5 = some (.int x14) → Q32 () → ia (tb_G L xs) (dep + 6) J_MSquareRows_fits (rwI w Q) (108, L', [], M2) := by
              intro  L' l35 l36 l37 l38 h
              replace h := hQ32  h
              refine iq_iconst hS 109 J_MSquareRows_fits_d108 (v := 0) (by decide +kernel) rfl ?_
              exact J31 _ _ l35 l36 l37 l38 (ed_some h)
            refine iq_if_eq hS 83 J_MSquareRows_fits_d80 (t := 108) rfl (fun q80 => ?_) rfl (fun q80 => ?_)
            · replace h := ed_pos q80 h
              exact J32  _ (lk_1r l27 (by decide)) (lk_1i l28 (by decide)) lk_1s (lk_1i l30 (by decide)) (hk32  h)
            · replace h := ed_neg q80 h
              refine iq_iload hS 85 J_MSquareRows_fits_d83 lk_1s rfl ?_
              refine iq_iconst hS 86 J_MSquareRows_fits_d85 (v := 1) (by decide +kernel) rfl ?_
              refine iq_aload_n hS 87 J_MSquareRows_fits_d86 (lk_1r l27 (by decide)) rfl ?_
              refine iq_getR hS 90 J_MSquareRows_fits_d87 lf_16_34 (Or.inr ⟨_, rfl⟩) (ka_108 hM2) (ra_108_14 hM2) rfl ?_
              refine iq_iload hS 92 J_MSquareRows_fits_d90 (lk_1i l30 (by decide)) rfl ?_
              obtain ⟨g92, h⟩ := ed_gd h
              refine iq_iaload hS 93 J_MSquareRows_fits_d92 ⟨(ka_117 hM2).1, (ka_117 hM2).2, g92.1, ix_lt (kl_117 hM2) g92.2⟩ rfl ?_
              refine iq_iload_n hS 94 J_MSquareRows_fits_d93 (lk_1i l28 (by decide)) rfl ?_
              obtain ⟨Q33, hQ33, h⟩ := bd1_ed h
              refine iq_cpI hS 97 J_MSquareRows_fits_d94 rfl (pr_stat (vs := [_]) lc_16_134 lT_391 rfl rfl (by decide) rfl (Nat.le_of_ble_eq_true rfl) (Nat.le_of_ble_eq_true rfl)) (f_MSquareRows_rank_ok (dep := dep + 5) hM2 h) rfl ?_
              intro x33 h
              replace h := hQ33 _ h
              obtain ⟨Q34, hQ34, h⟩ := bd1_ed h
              refine iq_cpI hS 100 J_MSquareRows_fits_d97 rfl (pr_stat (vs := [_, _]) lc_16_99 lT_399 rfl rfl (by decide) rfl (Nat.le_of_ble_eq_true rfl) (Nat.le_of_ble_eq_true rfl)) (f_MSquareRows_lengthBits_ok (dep := dep + 5) hM2 h) rfl ?_
              intro x34 h
              replace h := hQ34 _ h
              refine iq_ishl hS 101 J_MSquareRows_fits_d100 rfl ?_
              refine iq_icmp_ge hS 104 J_MSquareRows_fits_d101 (t := 108) rfl (fun q101 => ?_) rfl (fun q101 => ?_)
              · replace h := ed_pos q101 h
                exact J32  _ (lk_1r l27 (by decide)) (lk_1i l28 (by decide)) lk_1s (lk_1i l30 (by decide)) (hk32  h)
              · replace h := ed_neg q101 h
                refine iq_iconst hS 105 J_MSquareRows_fits_d104 (v := 1) (by decide +kernel) rfl ?_
                refine iq_goto hS J_MSquareRows_fits_d105 (t := 109) rfl ?_
                exact J31 _ _ (lk_1r l27 (by decide)) (lk_1i l28 (by decide)) lk_1s (lk_1i l30 (by decide)) (ed_some h)
          obtain ⟨k21, Q21, hQ21, hk21, h⟩ := jn0_ed h
          have J21 : ∀  (L' : List (Nat × Value)), im_lk L' 0 = some (.ref 108) → im_lk L' 1 = some (.int p0) → im_lk L' 3 = some (.int x12) → im_lk L' 5 = some (.int x14) → Q21 () → ia (tb_G L xs) (dep + 6) J_MSquareRows_fits (rwI w Q) (76, L', [], M2) := by
            intro  L' l22 l23 l24 l25 h
            replace h := hQ21  h
            refine iq_iconst hS 77 J_MSquareRows_fits_d76 (v := 1) (by decide +kernel) rfl ?_
            exact J20 _ _ l22 l23 l24 l25 (ed_some h)
          refine iq_if_le hS 50 J_MSquareRows_fits_d47 (t := 76) rfl (fun q47 => ?_) rfl (fun q47 => ?_)
          · replace h := ed_pos q47 h
            exact J21  _ l15 l16 l17 l19 (hk21  h)
          · replace h := ed_neg q47 h
            refine iq_aload_n hS 51 J_MSquareRows_fits_d50 l15 rfl ?_
            refine iq_getR hS 54 J_MSquareRows_fits_d51 lf_16_34 (Or.inr ⟨_, rfl⟩) (ka_108 hM2) (ra_108_14 hM2) rfl ?_
            refine iq_iload hS 56 J_MSquareRows_fits_d54 l19 rfl ?_
            obtain ⟨g56, h⟩ := ed_gd h
            refine iq_iaload hS 57 J_MSquareRows_fits_d56 ⟨(ka_117 hM2).1, (ka_117 hM2).2, g56.1, ix_lt (kl_117 hM2) g56.2⟩ rfl ?_
            refine iq_aload_n hS 58 J_MSquareRows_fits_d57 l15 rfl ?_
            refine iq_getR hS 61 J_MSquareRows_fits_d58 lf_16_34 (Or.inr ⟨_, rfl⟩) (ka_108 hM2) (ra_108_14 hM2) rfl ?_
            refine iq_iload hS 63 J_MSquareRows_fits_d61 l19 rfl ?_
            refine iq_iconst hS 64 J_MSquareRows_fits_d63 (v := 1) (by decide +kernel) rfl ?_
            refine iq_isub hS 65 J_MSquareRows_fits_d64 rfl ?_
            obtain ⟨g65, h⟩ := ed_gd h
            refine iq_iaload hS 66 J_MSquareRows_fits_d65 ⟨(ka_117 hM2).1, (ka_117 hM2).2, g65.1, ix_lt (kl_117 hM2) g65.2⟩ rfl ?_
            refine iq_icmp_ne hS 69 J_MSquareRows_fits_d66 (t := 76) rfl (fun q66 => ?_) rfl (fun q66 => ?_)
            · replace h := ed_pos q66 h
              exact J21  _ l15 l16 l17 l19 (hk21  h)
            · replace h := ed_neg q66 h
              refine iq_iload hS 71 J_MSquareRows_fits_d69 l18 rfl ?_
              refine iq_iconst hS 72 J_MSquareRows_fits_d71 (v := 1) (by decide +kernel) rfl ?_
              refine iq_iadd hS 73 J_MSquareRows_fits_d72 rfl ?_
              refine iq_goto hS J_MSquareRows_fits_d73 (t := 77) rfl ?_
              exact J20 _ _ l15 l16 l17 l19 (ed_some h)
    exact I9 n9 _ _ _ _ (lk_1r (lk_1r (lk_1r l7 (by decide)) (by decide)) (by decide)) (lk_1i (lk_1i (lk_1i l8 (by decide)) (by decide)) (by decide)) (lk_1i (lk_1i lk_1s (by decide)) (by decide)) (lk_1i lk_1s (by decide)) lk_1s hn9
  refine iq_icmp_gt hS 24 J_MSquareRows_fits_d21 (t := 28) rfl (fun q21 => ?_) rfl (fun q21 => ?_)
  · refine iq_iconst hS 29 J_MSquareRows_fits_d28 (v := 0) (by decide +kernel) rfl ?_
    exact J4 _ _ (by simp only [if_pos q21]) l0 l1
  · refine iq_iconst hS 25 J_MSquareRows_fits_d24 (v := 1) (by decide +kernel) rfl ?_
    refine iq_goto hS J_MSquareRows_fits_d25 (t := 29) rfl ?_
    exact J4 _ _ (by simp only [if_neg q21]) l0 l1
theorem f_MSquareRows_fits_fr {p0 : Int32} {p1 : Int32} {M : im_M} {r : Int32 × im_M} (h : f_MSquareRows_fits p0 p1 M = some r) : fr 498460498419343452338927647605129216 [(108, 16)] M r.2 := by
  replace h : ed (f_MSquareRows_fits p0 p1 M) (fun x => x = r) := ⟨r, h, rfl⟩
  unfold f_MSquareRows_fits at h
  obtain ⟨Q1, hQ1, h⟩ := bd1_ed h
  obtain ⟨x1, e1, h⟩ := h
  replace h := hQ1 _ h
  obtain ⟨Q2, hQ2, h⟩ := bd1_ed h
  obtain ⟨M2, e2, h⟩ := h
  replace h := hQ2 _ h
  obtain ⟨Q3, hQ3, h⟩ := bd1_ed h
  obtain ⟨x3, e3, h⟩ := h
  replace h := hQ3 _ h
  obtain ⟨Q5, hQ5, h⟩ := bd1_ed h
  have K5 : ∀ (y6 : Int32), Q5 y6 → fr 498460498419343452338927647605129216 [(108, 16)] M r.2 := by
    intro y6 h
    replace h := hQ5 _ h
    obtain ⟨g117, h⟩ := ed_gd h
    exact fr_ret h (fr_tr (fr_mono (by decide) (by decide +kernel) (f_MSquareRows_divide_fr e2)) fr_refl)
  obtain ⟨r5, hr5, hq5⟩ := h
  obtain ⟨n5, hn5⟩ := lp_n hr5
  have I5 : ∀ (n : Nat) (x7 : Int32) (x8 : Int32) (x9 : Int32), lpn (uc3 (f_MSquareRows_fits_L36 p0 M2)) n (x7, x8, x9) = some r5 → fr 498460498419343452338927647605129216 [(108, 16)] M r.2 := by
    intro n
    induction n with
    | zero => intro x7 x8 x9 hn; exact (lpn_0 hn).elim
    | succ n ih =>
      intro x7 x8 x9 hn
      have h := lpn_ed3 hn
      unfold f_MSquareRows_fits_L36 at h
      by_cases q42 : (im_i M2 108 4) ≤ x9
      · replace h := ed_pos q42 h
        exact K5 _ (lq_r h hq5)
      · replace h := ed_neg q42 h
        obtain ⟨Q10, hQ10, h⟩ := bd1_ed h
        have J10 : ∀ (y16 : Int32), Q10 y16 → fr 498460498419343452338927647605129216 [(108, 16)] M r.2 := by
          intro y16 h
          replace h := hQ10 _ h
          obtain ⟨Q21, hQ21, h⟩ := bd1_ed h
          have J21 : ∀ (y29 : Int32), Q21 y29 → fr 498460498419343452338927647605129216 [(108, 16)] M r.2 := by
            intro y29 h
            replace h := hQ21 _ h
            exact ih _ _ _ (lq_l h)
          obtain ⟨k22, Q22, hQ22, hk22, h⟩ := jn0_ed h
          have J22 : Q22 () → fr 498460498419343452338927647605129216 [(108, 16)] M r.2 := by
            intro  h
            replace h := hQ22  h
            exact J21 _ (ed_some h)
          by_cases q80 : x7 = 0
          · replace h := ed_pos q80 h
            exact J22  (hk22  h)
          · replace h := ed_neg q80 h
            obtain ⟨g92, h⟩ := ed_gd h
            obtain ⟨Q23, hQ23, h⟩ := bd1_ed h
            obtain ⟨x23, e23, h⟩ := h
            replace h := hQ23 _ h
            obtain ⟨Q24, hQ24, h⟩ := bd1_ed h
            obtain ⟨x24, e24, h⟩ := h
            replace h := hQ24 _ h
            by_cases q101 : ((1 : Int32) <<< (x24 &&& 31 : Int32) : Int32) ≤ y16
            · replace h := ed_pos q101 h
              exact J22  (hk22  h)
            · replace h := ed_neg q101 h
              exact J21 _ (ed_some h)
        obtain ⟨k11, Q11, hQ11, hk11, h⟩ := jn0_ed h
        have J11 : Q11 () → fr 498460498419343452338927647605129216 [(108, 16)] M r.2 := by
          intro  h
          replace h := hQ11  h
          exact J10 _ (ed_some h)
        by_cases q47 : x9 ≤ 0
        · replace h := ed_pos q47 h
          exact J11  (hk11  h)
        · replace h := ed_neg q47 h
          obtain ⟨g56, h⟩ := ed_gd h
          obtain ⟨g65, h⟩ := ed_gd h
          by_cases q66 : ¬ (im_i M2 117 (Int32.toNatClampNeg x9)) = (im_i M2 117 (Int32.toNatClampNeg (x9 - 1)))
          · replace h := ed_pos q66 h
            exact J11  (hk11  h)
          · replace h := ed_neg q66 h
            exact J10 _ (ed_some h)
  exact I5 n5 _ _ _ hn5
noncomputable def f_MSquareRows_versionFor_L80 (v9 : Int32) (v10 : Int32) (v11 : Int32) (x12 : Int32) (M13 : im_M) : Option ((Int32 × im_M) ⊕ ((im_M) ⊕ (Int32 × im_M))) := if v11 < x12 then some (.inr (.inl M13)) else bd1 (f_MSquareRows_holds x12 v9 M13) fun (x14 : Int32) => jn1 (fun (M17 : im_M) => some (.inl ((x12 + 1), M17))) fun k15 => if ((8 : Int32) * x14) < (im_i M13 108 16) then k15 M13 else bd2 (f_MSquareRows_fits x12 v9 M13) fun (x16 : Int32) (M16 : im_M) => if x16 = 0 then k15 M16 else some (.inr (.inr (x12, M16)))
noncomputable def f_MSquareRows_versionFor_L21 (v2 : Int32) (x3 : Int32) (M4 : im_M) : Option ((Int32 × im_M) ⊕ ((im_M) ⊕ (Int32 × im_M))) := if 3 ≤ x3 then some (.inr (.inl M4)) else bd1 (f_MSquareRows_divide x3 M4) fun (M7 : im_M) => bs1 (lp (uc2 (f_MSquareRows_versionFor_L80 v2 x3 ((if ¬ x3 = 0 then (if ¬ x3 = 1 then 40 else 26) else 9) : Int32))) (((if ¬ x3 = 0 then (if ¬ x3 = 1 then 27 else 10) else 1) : Int32), M7)) (fun (M23 : im_M) => some (.inl ((x3 + 1), M23))) (fun t => some (.inr (.inr t)))
noncomputable def f_MSquareRows_versionFor (p0 : Int32) (p1 : Int32) (M : im_M) : Option (Int32 × im_M) := if p1 ≤ 0 then bs1 (lp (uc2 (f_MSquareRows_versionFor_L21 p0)) (0, M)) (fun (M24 : im_M) => some ((-1), M24)) (fun t => some t) else bd2 (f_MSquareRows_fits p1 p0 M) fun (x25 : Int32) (M25 : im_M) => if x25 = 0 then some ((-1), M25) else some (p1, M25)
theorem J_MSquareRows_versionFor_d0 : decode J_MSquareRows_versionFor.2.1 0 = .ok (.iload_n 2, 1) := by decide +kernel
theorem J_MSquareRows_versionFor_d1 : decode J_MSquareRows_versionFor.2.1 1 = .ok (.ifCond .le 18, 3) := by decide +kernel
theorem J_MSquareRows_versionFor_d4 : decode J_MSquareRows_versionFor.2.1 4 = .ok (.aload_n 0, 1) := by decide +kernel
theorem J_MSquareRows_versionFor_d5 : decode J_MSquareRows_versionFor.2.1 5 = .ok (.iload_n 2, 1) := by decide +kernel
theorem J_MSquareRows_versionFor_d6 : decode J_MSquareRows_versionFor.2.1 6 = .ok (.iload_n 1, 1) := by decide +kernel
theorem J_MSquareRows_versionFor_d7 : decode J_MSquareRows_versionFor.2.1 7 = .ok (.invokevirtual 217, 3) := by decide +kernel
theorem J_MSquareRows_versionFor_d10 : decode J_MSquareRows_versionFor.2.1 10 = .ok (.ifCond .eq 7, 3) := by decide +kernel
theorem J_MSquareRows_versionFor_d13 : decode J_MSquareRows_versionFor.2.1 13 = .ok (.iload_n 2, 1) := by decide +kernel
theorem J_MSquareRows_versionFor_d14 : decode J_MSquareRows_versionFor.2.1 14 = .ok (.goto 4, 3) := by decide +kernel
theorem J_MSquareRows_versionFor_d17 : decode J_MSquareRows_versionFor.2.1 17 = .ok (.iconst (-1), 1) := by decide +kernel
theorem J_MSquareRows_versionFor_d18 : decode J_MSquareRows_versionFor.2.1 18 = .ok (.ireturn, 1) := by decide +kernel
theorem J_MSquareRows_versionFor_d19 : decode J_MSquareRows_versionFor.2.1 19 = .ok (.iconst 0, 1) := by decide +kernel
theorem J_MSquareRows_versionFor_d20 : decode J_MSquareRows_versionFor.2.1 20 = .ok (.istore_n 3, 1) := by decide +kernel
theorem J_MSquareRows_versionFor_d21 : decode J_MSquareRows_versionFor.2.1 21 = .ok (.iload_n 3, 1) := by decide +kernel
theorem J_MSquareRows_versionFor_d22 : decode J_MSquareRows_versionFor.2.1 22 = .ok (.iconst 3, 1) := by decide +kernel
theorem J_MSquareRows_versionFor_d23 : decode J_MSquareRows_versionFor.2.1 23 = .ok (.if_icmp .ge 106, 3) := by decide +kernel
theorem J_MSquareRows_versionFor_d26 : decode J_MSquareRows_versionFor.2.1 26 = .ok (.iload_n 3, 1) := by decide +kernel
theorem J_MSquareRows_versionFor_d27 : decode J_MSquareRows_versionFor.2.1 27 = .ok (.ifCond .ne 7, 3) := by decide +kernel
theorem J_MSquareRows_versionFor_d30 : decode J_MSquareRows_versionFor.2.1 30 = .ok (.iconst 1, 1) := by decide +kernel
theorem J_MSquareRows_versionFor_d31 : decode J_MSquareRows_versionFor.2.1 31 = .ok (.goto 15, 3) := by decide +kernel
theorem J_MSquareRows_versionFor_d34 : decode J_MSquareRows_versionFor.2.1 34 = .ok (.iload_n 3, 1) := by decide +kernel
theorem J_MSquareRows_versionFor_d35 : decode J_MSquareRows_versionFor.2.1 35 = .ok (.iconst 1, 1) := by decide +kernel
theorem J_MSquareRows_versionFor_d36 : decode J_MSquareRows_versionFor.2.1 36 = .ok (.if_icmp .ne 8, 3) := by decide +kernel
theorem J_MSquareRows_versionFor_d39 : decode J_MSquareRows_versionFor.2.1 39 = .ok (.bipush 10, 2) := by decide +kernel
theorem J_MSquareRows_versionFor_d41 : decode J_MSquareRows_versionFor.2.1 41 = .ok (.goto 5, 3) := by decide +kernel
theorem J_MSquareRows_versionFor_d44 : decode J_MSquareRows_versionFor.2.1 44 = .ok (.bipush 27, 2) := by decide +kernel
theorem J_MSquareRows_versionFor_d46 : decode J_MSquareRows_versionFor.2.1 46 = .ok (.istore 4, 2) := by decide +kernel
theorem J_MSquareRows_versionFor_d48 : decode J_MSquareRows_versionFor.2.1 48 = .ok (.iload_n 3, 1) := by decide +kernel
theorem J_MSquareRows_versionFor_d49 : decode J_MSquareRows_versionFor.2.1 49 = .ok (.ifCond .ne 8, 3) := by decide +kernel
theorem J_MSquareRows_versionFor_d52 : decode J_MSquareRows_versionFor.2.1 52 = .ok (.bipush 9, 2) := by decide +kernel
theorem J_MSquareRows_versionFor_d54 : decode J_MSquareRows_versionFor.2.1 54 = .ok (.goto 15, 3) := by decide +kernel
theorem J_MSquareRows_versionFor_d57 : decode J_MSquareRows_versionFor.2.1 57 = .ok (.iload_n 3, 1) := by decide +kernel
theorem J_MSquareRows_versionFor_d58 : decode J_MSquareRows_versionFor.2.1 58 = .ok (.iconst 1, 1) := by decide +kernel
theorem J_MSquareRows_versionFor_d59 : decode J_MSquareRows_versionFor.2.1 59 = .ok (.if_icmp .ne 8, 3) := by decide +kernel
theorem J_MSquareRows_versionFor_d62 : decode J_MSquareRows_versionFor.2.1 62 = .ok (.bipush 26, 2) := by decide +kernel
theorem J_MSquareRows_versionFor_d64 : decode J_MSquareRows_versionFor.2.1 64 = .ok (.goto 5, 3) := by decide +kernel
theorem J_MSquareRows_versionFor_d67 : decode J_MSquareRows_versionFor.2.1 67 = .ok (.bipush 40, 2) := by decide +kernel
theorem J_MSquareRows_versionFor_d69 : decode J_MSquareRows_versionFor.2.1 69 = .ok (.istore 5, 2) := by decide +kernel
theorem J_MSquareRows_versionFor_d71 : decode J_MSquareRows_versionFor.2.1 71 = .ok (.aload_n 0, 1) := by decide +kernel
theorem J_MSquareRows_versionFor_d72 : decode J_MSquareRows_versionFor.2.1 72 = .ok (.iload_n 3, 1) := by decide +kernel
theorem J_MSquareRows_versionFor_d73 : decode J_MSquareRows_versionFor.2.1 73 = .ok (.invokevirtual 214, 3) := by decide +kernel
theorem J_MSquareRows_versionFor_d76 : decode J_MSquareRows_versionFor.2.1 76 = .ok (.iload 4, 2) := by decide +kernel
theorem J_MSquareRows_versionFor_d78 : decode J_MSquareRows_versionFor.2.1 78 = .ok (.istore 6, 2) := by decide +kernel
theorem J_MSquareRows_versionFor_d80 : decode J_MSquareRows_versionFor.2.1 80 = .ok (.iload 6, 2) := by decide +kernel
theorem J_MSquareRows_versionFor_d82 : decode J_MSquareRows_versionFor.2.1 82 = .ok (.iload 5, 2) := by decide +kernel
theorem J_MSquareRows_versionFor_d84 : decode J_MSquareRows_versionFor.2.1 84 = .ok (.if_icmp .gt 39, 3) := by decide +kernel
theorem J_MSquareRows_versionFor_d87 : decode J_MSquareRows_versionFor.2.1 87 = .ok (.aload_n 0, 1) := by decide +kernel
theorem J_MSquareRows_versionFor_d88 : decode J_MSquareRows_versionFor.2.1 88 = .ok (.getfield 121, 3) := by decide +kernel
theorem J_MSquareRows_versionFor_d91 : decode J_MSquareRows_versionFor.2.1 91 = .ok (.bipush 8, 2) := by decide +kernel
theorem J_MSquareRows_versionFor_d93 : decode J_MSquareRows_versionFor.2.1 93 = .ok (.aload_n 0, 1) := by decide +kernel
theorem J_MSquareRows_versionFor_d94 : decode J_MSquareRows_versionFor.2.1 94 = .ok (.iload 6, 2) := by decide +kernel
theorem J_MSquareRows_versionFor_d96 : decode J_MSquareRows_versionFor.2.1 96 = .ok (.iload_n 1, 1) := by decide +kernel
theorem J_MSquareRows_versionFor_d97 : decode J_MSquareRows_versionFor.2.1 97 = .ok (.invokevirtual 141, 3) := by decide +kernel
theorem J_MSquareRows_versionFor_d100 : decode J_MSquareRows_versionFor.2.1 100 = .ok (.imul, 1) := by decide +kernel
theorem J_MSquareRows_versionFor_d101 : decode J_MSquareRows_versionFor.2.1 101 = .ok (.if_icmp .gt 16, 3) := by decide +kernel
theorem J_MSquareRows_versionFor_d104 : decode J_MSquareRows_versionFor.2.1 104 = .ok (.aload_n 0, 1) := by decide +kernel
theorem J_MSquareRows_versionFor_d105 : decode J_MSquareRows_versionFor.2.1 105 = .ok (.iload 6, 2) := by decide +kernel
theorem J_MSquareRows_versionFor_d107 : decode J_MSquareRows_versionFor.2.1 107 = .ok (.iload_n 1, 1) := by decide +kernel
theorem J_MSquareRows_versionFor_d108 : decode J_MSquareRows_versionFor.2.1 108 = .ok (.invokevirtual 217, 3) := by decide +kernel
theorem J_MSquareRows_versionFor_d111 : decode J_MSquareRows_versionFor.2.1 111 = .ok (.ifCond .eq 6, 3) := by decide +kernel
theorem J_MSquareRows_versionFor_d114 : decode J_MSquareRows_versionFor.2.1 114 = .ok (.iload 6, 2) := by decide +kernel
theorem J_MSquareRows_versionFor_d116 : decode J_MSquareRows_versionFor.2.1 116 = .ok (.ireturn, 1) := by decide +kernel
theorem J_MSquareRows_versionFor_d117 : decode J_MSquareRows_versionFor.2.1 117 = .ok (.iinc 6 1, 3) := by decide +kernel
theorem J_MSquareRows_versionFor_d120 : decode J_MSquareRows_versionFor.2.1 120 = .ok (.goto (-40), 3) := by decide +kernel
theorem J_MSquareRows_versionFor_d123 : decode J_MSquareRows_versionFor.2.1 123 = .ok (.iinc 3 1, 3) := by decide +kernel
theorem J_MSquareRows_versionFor_d126 : decode J_MSquareRows_versionFor.2.1 126 = .ok (.goto (-105), 3) := by decide +kernel
theorem J_MSquareRows_versionFor_d129 : decode J_MSquareRows_versionFor.2.1 129 = .ok (.iconst (-1), 1) := by decide +kernel
theorem J_MSquareRows_versionFor_d130 : decode J_MSquareRows_versionFor.2.1 130 = .ok (.ireturn, 1) := by decide +kernel
theorem f_MSquareRows_versionFor_ok {L : Nat} {xs : Nat → Int32} {dep : Nat} {w : Bool} {p0 : Int32} {p1 : Int32} {M : im_M} {Q : Int32 × im_M → Prop} (hM : lw_S w M) (h : ed (f_MSquareRows_versionFor p0 p1 M) Q) : ia (tb_G L xs) (dep + 7) J_MSquareRows_versionFor (rwI w Q) (0, lv_args 0 [.ref 108, .int p0, .int p1], [], M) := by
  have hS : im_St (tb_G L xs) (dep + 7) J_MSquareRows_versionFor (ia (tb_G L xs) (dep + 7) J_MSquareRows_versionFor (rwI w Q)) := ia_St
  unfold f_MSquareRows_versionFor at h
  have l0 : im_lk (lv_args 0 [.ref 108, .int p0, .int p1]) 0 = some (.ref 108) := rfl
  have l1 : im_lk (lv_args 0 [.ref 108, .int p0, .int p1]) 1 = some (.int p0) := rfl
  have l2 : im_lk (lv_args 0 [.ref 108, .int p0, .int p1]) 2 = some (.int p1) := rfl
  refine iq_iload_n hS 1 J_MSquareRows_versionFor_d0 l2 rfl ?_
  refine iq_if_le hS 4 J_MSquareRows_versionFor_d1 (t := 19) rfl (fun q1 => ?_) rfl (fun q1 => ?_)
  · replace h := ed_pos q1 h
    refine iq_iconst hS 20 J_MSquareRows_versionFor_d19 (v := 0) (by decide +kernel) rfl ?_
    refine iq_istore_n hS 21 J_MSquareRows_versionFor_d20 (by decide) rfl ?_
    obtain ⟨Q1, hQ1, hR1, h⟩ := bs1_ed h
    have K1 : ∀ (M2 : im_M) (L' : List (Nat × Value)), lw_S w M2 → Q1 (.inl M2) → ia (tb_G L xs) (dep + 7) J_MSquareRows_versionFor (rwI w Q) (129, L', [], M2) := by
      intro M2 L' hM2  h
      replace h := hQ1 _ h
      refine iq_iconst hS 130 J_MSquareRows_versionFor_d129 (v := (-1)) (by decide +kernel) rfl ?_
      exact iq_iret J_MSquareRows_versionFor_d130 rfl rfl ⟨_, rfl, hM2, ed_some h⟩
    obtain ⟨r1, hr1, hq1⟩ := h
    obtain ⟨n1, hn1⟩ := lp_n hr1
    have I1 : ∀ (n : Nat) (x3 : Int32) (M4 : im_M) (L' : List (Nat × Value)), lw_S w M4 → im_lk L' 0 = some (.ref 108) → im_lk L' 1 = some (.int p0) → im_lk L' 3 = some (.int x3) → lpn (uc2 (f_MSquareRows_versionFor_L21 p0)) n (x3, M4) = some r1 → ia (tb_G L xs) (dep + 7) J_MSquareRows_versionFor (rwI w Q) (21, L', [], M4) := by
      intro n
      induction n with
      | zero => intro x3 M4 L' hM4 l5 l6 l7 hn; exact (lpn_0 hn).elim
      | succ n ih =>
        intro x3 M4 L' hM4 l5 l6 l7 hn
        have h := lpn_ed2 hn
        unfold f_MSquareRows_versionFor_L21 at h
        refine iq_iload_n hS 22 J_MSquareRows_versionFor_d21 l7 rfl ?_
        refine iq_iconst hS 23 J_MSquareRows_versionFor_d22 (v := 3) (by decide +kernel) rfl ?_
        refine iq_icmp_ge hS 26 J_MSquareRows_versionFor_d23 (t := 129) rfl (fun q23 => ?_) rfl (fun q23 => ?_)
        · replace h := ed_pos q23 h
          exact K1 _ _ hM4  (lq_r h hq1)
        · replace h := ed_neg q23 h
          refine iq_iload_n hS 27 J_MSquareRows_versionFor_d26 l7 rfl ?_
          have J8 : ∀ (z9 : Int32) (L' : List (Nat × Value)), z9 = ((if ¬ x3 = 0 then (if ¬ x3 = 1 then 27 else 10) else 1) : Int32) → im_lk L' 0 = some (.ref 108) → im_lk L' 1 = some (.int p0) → im_lk L' 3 = some (.int x3) → ia (tb_G L xs) (dep + 7) J_MSquareRows_versionFor (rwI w Q) (46, L', [.int z9], M4) := by
            intro z9 L' e10 l11 l12 l13
            subst e10
            refine iq_istore hS 48 J_MSquareRows_versionFor_d46 (by decide) rfl ?_
            refine iq_iload_n hS 49 J_MSquareRows_versionFor_d48 (lk_1i l13 (by decide)) rfl ?_
            have J14 : ∀ (z15 : Int32) (L' : List (Nat × Value)), z15 = ((if ¬ x3 = 0 then (if ¬ x3 = 1 then 40 else 26) else 9) : Int32) → im_lk L' 0 = some (.ref 108) → im_lk L' 1 = some (.int p0) → im_lk L' 3 = some (.int x3) → im_lk L' 4 = some (.int ((if ¬ x3 = 0 then (if ¬ x3 = 1 then 27 else 10) else 1) : Int32)) → ia (tb_G L xs) (dep + 7) J_MSquareRows_versionFor (rwI w Q) (69, L', [.int z15], M4) := by
              intro z15 L' e16 l17 l18 l19 l20
              subst e16
              refine iq_istore hS 71 J_MSquareRows_versionFor_d69 (by decide) rfl ?_
              refine iq_aload_n hS 72 J_MSquareRows_versionFor_d71 (lk_1r l17 (by decide)) rfl ?_
              refine iq_iload_n hS 73 J_MSquareRows_versionFor_d72 (lk_1i l19 (by decide)) rfl ?_
              obtain ⟨Q21, hQ21, h⟩ := bd1_ed h
              refine iq_cwV hS 76 J_MSquareRows_versionFor_d73 rfl (pr_inst (vs := [_]) lc_16_214 lT_392 rfl rfl (by decide) (by decide) rfl (Nat.le_of_ble_eq_true rfl) (Nat.le_of_ble_eq_true rfl) (fun _ => Or.inl (pr_b (ka_108 hM4) (by decide) rfl))) (f_MSquareRows_divide_ok (dep := dep + 1) hM4 h) rfl ?_
              intro M21 hM21 h
              replace h := hQ21 _ h
              refine iq_iload hS 78 J_MSquareRows_versionFor_d76 (lk_1i l20 (by decide)) rfl ?_
              refine iq_istore hS 80 J_MSquareRows_versionFor_d78 (by decide) rfl ?_
              obtain ⟨Q22, hQ22, hR22, h⟩ := bs1_ed h
              have K22 : ∀ (M23 : im_M) (L' : List (Nat × Value)), lw_S w M23 → im_lk L' 0 = some (.ref 108) → im_lk L' 1 = some (.int p0) → im_lk L' 3 = some (.int x3) → Q22 (.inl M23) → ia (tb_G L xs) (dep + 7) J_MSquareRows_versionFor (rwI w Q) (123, L', [], M23) := by
                intro M23 L' hM23 l24 l25 l26 h
                replace h := hQ22 _ h
                refine iq_iincv hS 126 J_MSquareRows_versionFor_d123 (c := 1) (by decide +kernel) l26 (by decide) rfl ?_
                refine iq_goto hS J_MSquareRows_versionFor_d126 (t := 21) rfl ?_
                exact ih _ _ _ hM23 (lk_1r l24 (by decide)) (lk_1i l25 (by decide)) lk_1s (lq_l h)
              obtain ⟨r22, hr22, hq22⟩ := h
              obtain ⟨n22, hn22⟩ := lp_n hr22
              have I22 : ∀ (n : Nat) (x27 : Int32) (M28 : im_M) (L' : List (Nat × Value)), lw_S w M28 → im_lk L' 0 = some (.ref 108) → im_lk L' 1 = some (.int p0) → im_lk L' 3 = some (.int x3) → im_lk L' 5 = some (.int ((if ¬ x3 = 0 then (if ¬ x3 = 1 then 40 else 26) else 9) : Int32)) → im_lk L' 6 = some (.int x27) → lpn (uc2 (f_MSquareRows_versionFor_L80 p0 x3 ((if ¬ x3 = 0 then (if ¬ x3 = 1 then 40 else 26) else 9) : Int32))) n (x27, M28) = some r22 → ia (tb_G L xs) (dep + 7) J_MSquareRows_versionFor (rwI w Q) (80, L', [], M28) := by
                intro n
                induction n with
                | zero => intro x27 M28 L' hM28 l29 l30 l31 l32 l33 hn; exact (lpn_0 hn).elim
                | succ n ih =>
                  intro x27 M28 L' hM28 l29 l30 l31 l32 l33 hn
                  have h := lpn_ed2 hn
                  unfold f_MSquareRows_versionFor_L80 at h
                  refine iq_iload hS 82 J_MSquareRows_versionFor_d80 l33 rfl ?_
                  refine iq_iload hS 84 J_MSquareRows_versionFor_d82 l32 rfl ?_
                  refine iq_icmp_gt hS 87 J_MSquareRows_versionFor_d84 (t := 123) rfl (fun q84 => ?_) rfl (fun q84 => ?_)
                  · replace h := ed_pos q84 h
                    exact K22 _ _ hM28 l29 l30 l31 (lq_r h hq22)
                  · replace h := ed_neg q84 h
                    refine iq_aload_n hS 88 J_MSquareRows_versionFor_d87 l29 rfl ?_
                    refine iq_getI hS 91 J_MSquareRows_versionFor_d88 lf_16_121 (Or.inl rfl) (ka_108 hM28) rfl ?_
                    refine iq_bipush hS 93 J_MSquareRows_versionFor_d91 (v := 8) (by decide +kernel) rfl ?_
                    refine iq_aload_n hS 94 J_MSquareRows_versionFor_d93 l29 rfl ?_
                    refine iq_iload hS 96 J_MSquareRows_versionFor_d94 l33 rfl ?_
                    refine iq_iload_n hS 97 J_MSquareRows_versionFor_d96 l30 rfl ?_
                    obtain ⟨Q34, hQ34, h⟩ := bd1_ed h
                    refine iq_cpI hS 100 J_MSquareRows_versionFor_d97 rfl (pr_inst (vs := [_, _]) lc_16_141 lT_401 rfl rfl (by decide) (by decide) rfl (Nat.le_of_ble_eq_true rfl) (Nat.le_of_ble_eq_true rfl) (fun _ => Or.inl (pr_b (ka_108 hM28) (by decide) rfl))) (f_MSquareRows_holds_ok (dep := dep + 5) hM28 h) rfl ?_
                    intro x34 h
                    replace h := hQ34 _ h
                    refine iq_imul hS 101 J_MSquareRows_versionFor_d100 rfl ?_
                    obtain ⟨k35, Q35, hQ35, hk35, h⟩ := jn1_ed h
                    have J35 : ∀ (M37 : im_M) (L' : List (Nat × Value)), lw_S w M37 → im_lk L' 0 = some (.ref 108) → im_lk L' 1 = some (.int p0) → im_lk L' 3 = some (.int x3) → im_lk L' 5 = some (.int ((if ¬ x3 = 0 then (if ¬ x3 = 1 then 40 else 26) else 9) : Int32)) → im_lk L' 6 = some (.int x27) → Q35 M37 → ia (tb_G L xs) (dep + 7) J_MSquareRows_versionFor (rwI w Q) (117, L', [], M37) := by
                      intro M37 L' hM37 l38 l39 l40 l41 l42 h
                      replace h := hQ35 _ h
                      refine iq_iincv hS 120 J_MSquareRows_versionFor_d117 (c := 1) (by decide +kernel) l42 (by decide) rfl ?_
                      refine iq_goto hS J_MSquareRows_versionFor_d120 (t := 80) rfl ?_
                      exact ih _ _ _ hM37 (lk_1r l38 (by decide)) (lk_1i l39 (by decide)) (lk_1i l40 (by decide)) (lk_1i l41 (by decide)) lk_1s (lq_l h)
                    refine iq_icmp_gt hS 104 J_MSquareRows_versionFor_d101 (t := 117) rfl (fun q101 => ?_) rfl (fun q101 => ?_)
                    · replace h := ed_pos q101 h
                      exact J35 _ _ hM28 l29 l30 l31 l32 l33 (hk35 _ h)
                    · replace h := ed_neg q101 h
                      refine iq_aload_n hS 105 J_MSquareRows_versionFor_d104 l29 rfl ?_
                      refine iq_iload hS 107 J_MSquareRows_versionFor_d105 l33 rfl ?_
                      refine iq_iload_n hS 108 J_MSquareRows_versionFor_d107 l30 rfl ?_
                      obtain ⟨Q36, hQ36, h⟩ := bd2_ed h
                      refine iq_cwI hS 111 J_MSquareRows_versionFor_d108 rfl (pr_inst (vs := [_, _]) lc_16_217 lT_390 rfl rfl (by decide) (by decide) rfl (Nat.le_of_ble_eq_true rfl) (Nat.le_of_ble_eq_true rfl) (fun _ => Or.inl (pr_b (ka_108 hM28) (by decide) rfl))) (f_MSquareRows_fits_ok (dep := dep + 0) hM28 h) rfl ?_
                      intro x36 M36 hM36 h
                      replace h := hQ36 _ _ h
                      refine iq_if_eq hS 114 J_MSquareRows_versionFor_d111 (t := 117) rfl (fun q111 => ?_) rfl (fun q111 => ?_)
                      · replace h := ed_pos q111 h
                        exact J35 _ _ hM36 l29 l30 l31 l32 l33 (hk35 _ h)
                      · replace h := ed_neg q111 h
                        refine iq_iload hS 116 J_MSquareRows_versionFor_d114 l33 rfl ?_
                        exact iq_iret J_MSquareRows_versionFor_d116 rfl rfl ⟨_, rfl, hM36, ed_some (hR1 _ (lq_r (hR22 _ (lq_r h hq22)) hq1))⟩
              exact I22 n22 _ _ _ hM21 (lk_1r (lk_1r l17 (by decide)) (by decide)) (lk_1i (lk_1i l18 (by decide)) (by decide)) (lk_1i (lk_1i l19 (by decide)) (by decide)) (lk_1i lk_1s (by decide)) lk_1s hn22
            refine iq_if_ne hS 52 J_MSquareRows_versionFor_d49 (t := 57) rfl (fun q49 => ?_) rfl (fun q49 => ?_)
            · refine iq_iload_n hS 58 J_MSquareRows_versionFor_d57 (lk_1i l13 (by decide)) rfl ?_
              refine iq_iconst hS 59 J_MSquareRows_versionFor_d58 (v := 1) (by decide +kernel) rfl ?_
              refine iq_icmp_ne hS 62 J_MSquareRows_versionFor_d59 (t := 67) rfl (fun q59 => ?_) rfl (fun q59 => ?_)
              · refine iq_bipush hS 69 J_MSquareRows_versionFor_d67 (v := 40) (by decide +kernel) rfl ?_
                exact J14 _ _ (by simp only [if_pos q49, if_pos q59]) (lk_1r l11 (by decide)) (lk_1i l12 (by decide)) (lk_1i l13 (by decide)) lk_1s
              · refine iq_bipush hS 64 J_MSquareRows_versionFor_d62 (v := 26) (by decide +kernel) rfl ?_
                refine iq_goto hS J_MSquareRows_versionFor_d64 (t := 69) rfl ?_
                exact J14 _ _ (by simp only [if_pos q49, if_neg q59]) (lk_1r l11 (by decide)) (lk_1i l12 (by decide)) (lk_1i l13 (by decide)) lk_1s
            · refine iq_bipush hS 54 J_MSquareRows_versionFor_d52 (v := 9) (by decide +kernel) rfl ?_
              refine iq_goto hS J_MSquareRows_versionFor_d54 (t := 69) rfl ?_
              exact J14 _ _ (by simp only [if_neg q49]) (lk_1r l11 (by decide)) (lk_1i l12 (by decide)) (lk_1i l13 (by decide)) lk_1s
          refine iq_if_ne hS 30 J_MSquareRows_versionFor_d27 (t := 34) rfl (fun q27 => ?_) rfl (fun q27 => ?_)
          · refine iq_iload_n hS 35 J_MSquareRows_versionFor_d34 l7 rfl ?_
            refine iq_iconst hS 36 J_MSquareRows_versionFor_d35 (v := 1) (by decide +kernel) rfl ?_
            refine iq_icmp_ne hS 39 J_MSquareRows_versionFor_d36 (t := 44) rfl (fun q36 => ?_) rfl (fun q36 => ?_)
            · refine iq_bipush hS 46 J_MSquareRows_versionFor_d44 (v := 27) (by decide +kernel) rfl ?_
              exact J8 _ _ (by simp only [if_pos q27, if_pos q36]) l5 l6 l7
            · refine iq_bipush hS 41 J_MSquareRows_versionFor_d39 (v := 10) (by decide +kernel) rfl ?_
              refine iq_goto hS J_MSquareRows_versionFor_d41 (t := 46) rfl ?_
              exact J8 _ _ (by simp only [if_pos q27, if_neg q36]) l5 l6 l7
          · refine iq_iconst hS 31 J_MSquareRows_versionFor_d30 (v := 1) (by decide +kernel) rfl ?_
            refine iq_goto hS J_MSquareRows_versionFor_d31 (t := 46) rfl ?_
            exact J8 _ _ (by simp only [if_neg q27]) l5 l6 l7
    exact I1 n1 _ _ _ hM (lk_1r l0 (by decide)) (lk_1i l1 (by decide)) lk_1s hn1
  · replace h := ed_neg q1 h
    refine iq_aload_n hS 5 J_MSquareRows_versionFor_d4 l0 rfl ?_
    refine iq_iload_n hS 6 J_MSquareRows_versionFor_d5 l2 rfl ?_
    refine iq_iload_n hS 7 J_MSquareRows_versionFor_d6 l1 rfl ?_
    obtain ⟨Q43, hQ43, h⟩ := bd2_ed h
    refine iq_cwI hS 10 J_MSquareRows_versionFor_d7 rfl (pr_inst (vs := [_, _]) lc_16_217 lT_390 rfl rfl (by decide) (by decide) rfl (Nat.le_of_ble_eq_true rfl) (Nat.le_of_ble_eq_true rfl) (fun _ => Or.inl (pr_b (ka_108 hM) (by decide) rfl))) (f_MSquareRows_fits_ok (dep := dep + 0) hM h) rfl ?_
    intro x43 M43 hM43 h
    replace h := hQ43 _ _ h
    refine iq_if_eq hS 13 J_MSquareRows_versionFor_d10 (t := 17) rfl (fun q10 => ?_) rfl (fun q10 => ?_)
    · replace h := ed_pos q10 h
      refine iq_iconst hS 18 J_MSquareRows_versionFor_d17 (v := (-1)) (by decide +kernel) rfl ?_
      exact iq_iret J_MSquareRows_versionFor_d18 rfl rfl ⟨_, rfl, hM43, ed_some h⟩
    · replace h := ed_neg q10 h
      refine iq_iload_n hS 14 J_MSquareRows_versionFor_d13 l2 rfl ?_
      refine iq_goto hS J_MSquareRows_versionFor_d14 (t := 18) rfl ?_
      exact iq_iret J_MSquareRows_versionFor_d18 rfl rfl ⟨_, rfl, hM43, ed_some h⟩
theorem f_MSquareRows_versionFor_fr {p0 : Int32} {p1 : Int32} {M : im_M} {r : Int32 × im_M} (h : f_MSquareRows_versionFor p0 p1 M = some r) : fr 498460498419343452338927647605129216 [(108, 16)] M r.2 := by
  replace h : ed (f_MSquareRows_versionFor p0 p1 M) (fun x => x = r) := ⟨r, h, rfl⟩
  unfold f_MSquareRows_versionFor at h
  by_cases q1 : p1 ≤ 0
  · replace h := ed_pos q1 h
    obtain ⟨Q1, hQ1, hR1, h⟩ := bs1_ed h
    have K1 : ∀ (M2 : im_M), fr 498460498419343452338927647605129216 [(108, 16)] M M2 → Q1 (.inl M2) → fr 498460498419343452338927647605129216 [(108, 16)] M r.2 := by
      intro M2 hM2 h
      replace h := hQ1 _ h
      exact fr_ret h hM2
    obtain ⟨r1, hr1, hq1⟩ := h
    obtain ⟨n1, hn1⟩ := lp_n hr1
    have I1 : ∀ (n : Nat) (x3 : Int32) (M4 : im_M), fr 498460498419343452338927647605129216 [(108, 16)] M M4 → lpn (uc2 (f_MSquareRows_versionFor_L21 p0)) n (x3, M4) = some r1 → fr 498460498419343452338927647605129216 [(108, 16)] M r.2 := by
      intro n
      induction n with
      | zero => intro x3 M4 hM4 hn; exact (lpn_0 hn).elim
      | succ n ih =>
        intro x3 M4 hM4 hn
        have h := lpn_ed2 hn
        unfold f_MSquareRows_versionFor_L21 at h
        by_cases q23 : 3 ≤ x3
        · replace h := ed_pos q23 h
          exact K1 _ hM4 (lq_r h hq1)
        · replace h := ed_neg q23 h
          obtain ⟨Q7, hQ7, h⟩ := bd1_ed h
          obtain ⟨M7, e7, h⟩ := h
          replace h := hQ7 _ h
          obtain ⟨Q8, hQ8, hR8, h⟩ := bs1_ed h
          have K8 : ∀ (M9 : im_M), fr 498460498419343452338927647605129216 [(108, 16)] M M9 → Q8 (.inl M9) → fr 498460498419343452338927647605129216 [(108, 16)] M r.2 := by
            intro M9 hM9 h
            replace h := hQ8 _ h
            exact ih _ _ hM9 (lq_l h)
          obtain ⟨r8, hr8, hq8⟩ := h
          obtain ⟨n8, hn8⟩ := lp_n hr8
          have I8 : ∀ (n : Nat) (x10 : Int32) (M11 : im_M), fr 498460498419343452338927647605129216 [(108, 16)] M M11 → lpn (uc2 (f_MSquareRows_versionFor_L80 p0 x3 ((if ¬ x3 = 0 then (if ¬ x3 = 1 then 40 else 26) else 9) : Int32))) n (x10, M11) = some r8 → fr 498460498419343452338927647605129216 [(108, 16)] M r.2 := by
            intro n
            induction n with
            | zero => intro x10 M11 hM11 hn; exact (lpn_0 hn).elim
            | succ n ih =>
              intro x10 M11 hM11 hn
              have h := lpn_ed2 hn
              unfold f_MSquareRows_versionFor_L80 at h
              by_cases q84 : ((if ¬ x3 = 0 then (if ¬ x3 = 1 then 40 else 26) else 9) : Int32) < x10
              · replace h := ed_pos q84 h
                exact K8 _ hM11 (lq_r h hq8)
              · replace h := ed_neg q84 h
                obtain ⟨Q12, hQ12, h⟩ := bd1_ed h
                obtain ⟨x12, e12, h⟩ := h
                replace h := hQ12 _ h
                obtain ⟨k13, Q13, hQ13, hk13, h⟩ := jn1_ed h
                have J13 : ∀ (M15 : im_M), fr 498460498419343452338927647605129216 [(108, 16)] M M15 → Q13 M15 → fr 498460498419343452338927647605129216 [(108, 16)] M r.2 := by
                  intro M15 hM15 h
                  replace h := hQ13 _ h
                  exact ih _ _ hM15 (lq_l h)
                by_cases q101 : ((8 : Int32) * x12) < (im_i M11 108 16)
                · replace h := ed_pos q101 h
                  exact J13 _ hM11 (hk13 _ h)
                · replace h := ed_neg q101 h
                  obtain ⟨Q14, hQ14, h⟩ := bd2_ed h
                  obtain ⟨⟨x14, M14⟩, e14, h⟩ := h
                  replace h := hQ14 _ _ h
                  by_cases q111 : x14 = 0
                  · replace h := ed_pos q111 h
                    exact J13 _ (fr_tr (fr_mono (by decide) (by decide +kernel) (f_MSquareRows_fits_fr e14)) hM11) (hk13 _ h)
                  · replace h := ed_neg q111 h
                    exact fr_ret (hR1 _ (lq_r (hR8 _ (lq_r h hq8)) hq1)) (fr_tr (fr_mono (by decide) (by decide +kernel) (f_MSquareRows_fits_fr e14)) hM11)
          exact I8 n8 _ _ (fr_tr (fr_mono (by decide) (by decide +kernel) (f_MSquareRows_divide_fr e7)) hM4) hn8
    exact I1 n1 _ _ fr_refl hn1
  · replace h := ed_neg q1 h
    obtain ⟨Q21, hQ21, h⟩ := bd2_ed h
    obtain ⟨⟨x21, M21⟩, e21, h⟩ := h
    replace h := hQ21 _ _ h
    by_cases q10 : x21 = 0
    · replace h := ed_pos q10 h
      exact fr_ret h (fr_tr (fr_mono (by decide) (by decide +kernel) (f_MSquareRows_fits_fr e21)) fr_refl)
    · replace h := ed_neg q10 h
      exact fr_ret h (fr_tr (fr_mono (by decide) (by decide +kernel) (f_MSquareRows_fits_fr e21)) fr_refl)
noncomputable def f_MSquareRows_lay_L4 (v2 : Int32) (x3 : Int32) (M4 : im_M) : Option ((Int32 × im_M) ⊕ (im_M)) := if x3 < 0 then some (.inr M4) else gd (inb ((im_i M4 108 19) / 8) 3800) <| gd (inb ((im_i M4 108 19) / 8) 3800) <| some (.inl ((x3 + (-1)), (im_setI (im_setI M4 119 (Int32.toNatClampNeg ((im_i M4 108 19) / 8)) ((im_i M4 119 (Int32.toNatClampNeg ((im_i M4 108 19) / 8))) ||| (((v2 >>> (x3 &&& 31 : Int32) : Int32) &&& 1) <<< (((7 : Int32) - ((im_i M4 108 19) - (im_i M4 108 19) / 8 * 8)) &&& 31 : Int32) : Int32))) 108 19 ((im_i (im_setI M4 119 (Int32.toNatClampNeg ((im_i M4 108 19) / 8)) ((im_i M4 119 (Int32.toNatClampNeg ((im_i M4 108 19) / 8))) ||| (((v2 >>> (x3 &&& 31 : Int32) : Int32) &&& 1) <<< (((7 : Int32) - ((im_i M4 108 19) - (im_i M4 108 19) / 8 * 8)) &&& 31 : Int32) : Int32))) 108 19) + 1))))
noncomputable def f_MSquareRows_lay (p0 : Int32) (p1 : Int32) (M : im_M) : Option (im_M) := bd1 (lp (uc2 (f_MSquareRows_lay_L4 p0)) ((p1 - 1), M)) fun (M5 : im_M) => some M5
theorem J_MSquareRows_lay_d0 : decode J_MSquareRows_lay.2.1 0 = .ok (.iload_n 2, 1) := by decide +kernel
theorem J_MSquareRows_lay_d1 : decode J_MSquareRows_lay.2.1 1 = .ok (.iconst 1, 1) := by decide +kernel
theorem J_MSquareRows_lay_d2 : decode J_MSquareRows_lay.2.1 2 = .ok (.isub, 1) := by decide +kernel
theorem J_MSquareRows_lay_d3 : decode J_MSquareRows_lay.2.1 3 = .ok (.istore_n 3, 1) := by decide +kernel
theorem J_MSquareRows_lay_d4 : decode J_MSquareRows_lay.2.1 4 = .ok (.iload_n 3, 1) := by decide +kernel
theorem J_MSquareRows_lay_d5 : decode J_MSquareRows_lay.2.1 5 = .ok (.ifCond .lt 64, 3) := by decide +kernel
theorem J_MSquareRows_lay_d8 : decode J_MSquareRows_lay.2.1 8 = .ok (.iload_n 1, 1) := by decide +kernel
theorem J_MSquareRows_lay_d9 : decode J_MSquareRows_lay.2.1 9 = .ok (.iload_n 3, 1) := by decide +kernel
theorem J_MSquareRows_lay_d10 : decode J_MSquareRows_lay.2.1 10 = .ok (.ishr, 1) := by decide +kernel
theorem J_MSquareRows_lay_d11 : decode J_MSquareRows_lay.2.1 11 = .ok (.iconst 1, 1) := by decide +kernel
theorem J_MSquareRows_lay_d12 : decode J_MSquareRows_lay.2.1 12 = .ok (.iand, 1) := by decide +kernel
theorem J_MSquareRows_lay_d13 : decode J_MSquareRows_lay.2.1 13 = .ok (.istore 4, 2) := by decide +kernel
theorem J_MSquareRows_lay_d15 : decode J_MSquareRows_lay.2.1 15 = .ok (.aload_n 0, 1) := by decide +kernel
theorem J_MSquareRows_lay_d16 : decode J_MSquareRows_lay.2.1 16 = .ok (.getfield 40, 3) := by decide +kernel
theorem J_MSquareRows_lay_d19 : decode J_MSquareRows_lay.2.1 19 = .ok (.aload_n 0, 1) := by decide +kernel
theorem J_MSquareRows_lay_d20 : decode J_MSquareRows_lay.2.1 20 = .ok (.getfield 124, 3) := by decide +kernel
theorem J_MSquareRows_lay_d23 : decode J_MSquareRows_lay.2.1 23 = .ok (.bipush 8, 2) := by decide +kernel
theorem J_MSquareRows_lay_d25 : decode J_MSquareRows_lay.2.1 25 = .ok (.idiv, 1) := by decide +kernel
theorem J_MSquareRows_lay_d26 : decode J_MSquareRows_lay.2.1 26 = .ok (.aload_n 0, 1) := by decide +kernel
theorem J_MSquareRows_lay_d27 : decode J_MSquareRows_lay.2.1 27 = .ok (.getfield 40, 3) := by decide +kernel
theorem J_MSquareRows_lay_d30 : decode J_MSquareRows_lay.2.1 30 = .ok (.aload_n 0, 1) := by decide +kernel
theorem J_MSquareRows_lay_d31 : decode J_MSquareRows_lay.2.1 31 = .ok (.getfield 124, 3) := by decide +kernel
theorem J_MSquareRows_lay_d34 : decode J_MSquareRows_lay.2.1 34 = .ok (.bipush 8, 2) := by decide +kernel
theorem J_MSquareRows_lay_d36 : decode J_MSquareRows_lay.2.1 36 = .ok (.idiv, 1) := by decide +kernel
theorem J_MSquareRows_lay_d37 : decode J_MSquareRows_lay.2.1 37 = .ok (.iaload, 1) := by decide +kernel
theorem J_MSquareRows_lay_d38 : decode J_MSquareRows_lay.2.1 38 = .ok (.iload 4, 2) := by decide +kernel
theorem J_MSquareRows_lay_d40 : decode J_MSquareRows_lay.2.1 40 = .ok (.bipush 7, 2) := by decide +kernel
theorem J_MSquareRows_lay_d42 : decode J_MSquareRows_lay.2.1 42 = .ok (.aload_n 0, 1) := by decide +kernel
theorem J_MSquareRows_lay_d43 : decode J_MSquareRows_lay.2.1 43 = .ok (.getfield 124, 3) := by decide +kernel
theorem J_MSquareRows_lay_d46 : decode J_MSquareRows_lay.2.1 46 = .ok (.bipush 8, 2) := by decide +kernel
theorem J_MSquareRows_lay_d48 : decode J_MSquareRows_lay.2.1 48 = .ok (.irem, 1) := by decide +kernel
theorem J_MSquareRows_lay_d49 : decode J_MSquareRows_lay.2.1 49 = .ok (.isub, 1) := by decide +kernel
theorem J_MSquareRows_lay_d50 : decode J_MSquareRows_lay.2.1 50 = .ok (.ishl, 1) := by decide +kernel
theorem J_MSquareRows_lay_d51 : decode J_MSquareRows_lay.2.1 51 = .ok (.ior, 1) := by decide +kernel
theorem J_MSquareRows_lay_d52 : decode J_MSquareRows_lay.2.1 52 = .ok (.iastore, 1) := by decide +kernel
theorem J_MSquareRows_lay_d53 : decode J_MSquareRows_lay.2.1 53 = .ok (.aload_n 0, 1) := by decide +kernel
theorem J_MSquareRows_lay_d54 : decode J_MSquareRows_lay.2.1 54 = .ok (.dup, 1) := by decide +kernel
theorem J_MSquareRows_lay_d55 : decode J_MSquareRows_lay.2.1 55 = .ok (.getfield 124, 3) := by decide +kernel
theorem J_MSquareRows_lay_d58 : decode J_MSquareRows_lay.2.1 58 = .ok (.iconst 1, 1) := by decide +kernel
theorem J_MSquareRows_lay_d59 : decode J_MSquareRows_lay.2.1 59 = .ok (.iadd, 1) := by decide +kernel
theorem J_MSquareRows_lay_d60 : decode J_MSquareRows_lay.2.1 60 = .ok (.putfield 124, 3) := by decide +kernel
theorem J_MSquareRows_lay_d63 : decode J_MSquareRows_lay.2.1 63 = .ok (.iinc 3 (-1), 3) := by decide +kernel
theorem J_MSquareRows_lay_d66 : decode J_MSquareRows_lay.2.1 66 = .ok (.goto (-62), 3) := by decide +kernel
theorem J_MSquareRows_lay_d69 : decode J_MSquareRows_lay.2.1 69 = .ok (.return_, 1) := by decide +kernel
theorem f_MSquareRows_lay_ok {L : Nat} {xs : Nat → Int32} {dep : Nat} {w : Bool} {p0 : Int32} {p1 : Int32} {M : im_M} {Q : im_M → Prop} (hM : lw_S w M) (h : ed (f_MSquareRows_lay p0 p1 M) Q) : ia (tb_G L xs) dep J_MSquareRows_lay (rwV w Q) (0, lv_args 0 [.ref 108, .int p0, .int p1], [], M) := by
  have hS : im_St (tb_G L xs) dep J_MSquareRows_lay (ia (tb_G L xs) dep J_MSquareRows_lay (rwV w Q)) := ia_St
  unfold f_MSquareRows_lay at h
  have l0 : im_lk (lv_args 0 [.ref 108, .int p0, .int p1]) 0 = some (.ref 108) := rfl
  have l1 : im_lk (lv_args 0 [.ref 108, .int p0, .int p1]) 1 = some (.int p0) := rfl
  have l2 : im_lk (lv_args 0 [.ref 108, .int p0, .int p1]) 2 = some (.int p1) := rfl
  refine iq_iload_n hS 1 J_MSquareRows_lay_d0 l2 rfl ?_
  refine iq_iconst hS 2 J_MSquareRows_lay_d1 (v := 1) (by decide +kernel) rfl ?_
  refine iq_isub hS 3 J_MSquareRows_lay_d2 rfl ?_
  refine iq_istore_n hS 4 J_MSquareRows_lay_d3 (by decide) rfl ?_
  obtain ⟨Q1, hQ1, h⟩ := bd1_ed h
  have K1 : ∀ (M2 : im_M) (L' : List (Nat × Value)), lw_S w M2 → Q1 M2 → ia (tb_G L xs) dep J_MSquareRows_lay (rwV w Q) (69, L', [], M2) := by
    intro M2 L' hM2  h
    replace h := hQ1 _ h
    exact iq_ret J_MSquareRows_lay_d69 rfl ⟨rfl, hM2, ed_some h⟩
  obtain ⟨r1, hr1, hq1⟩ := h
  obtain ⟨n1, hn1⟩ := lp_n hr1
  have I1 : ∀ (n : Nat) (x3 : Int32) (M4 : im_M) (L' : List (Nat × Value)), lw_S w M4 → im_lk L' 0 = some (.ref 108) → im_lk L' 1 = some (.int p0) → im_lk L' 3 = some (.int x3) → lpn (uc2 (f_MSquareRows_lay_L4 p0)) n (x3, M4) = some r1 → ia (tb_G L xs) dep J_MSquareRows_lay (rwV w Q) (4, L', [], M4) := by
    intro n
    induction n with
    | zero => intro x3 M4 L' hM4 l5 l6 l7 hn; exact (lpn_0 hn).elim
    | succ n ih =>
      intro x3 M4 L' hM4 l5 l6 l7 hn
      have h := lpn_ed2 hn
      unfold f_MSquareRows_lay_L4 at h
      refine iq_iload_n hS 5 J_MSquareRows_lay_d4 l7 rfl ?_
      refine iq_if_lt hS 8 J_MSquareRows_lay_d5 (t := 69) rfl (fun q5 => ?_) rfl (fun q5 => ?_)
      · replace h := ed_pos q5 h
        exact K1 _ _ hM4  (lq_r h hq1)
      · replace h := ed_neg q5 h
        refine iq_iload_n hS 9 J_MSquareRows_lay_d8 l6 rfl ?_
        refine iq_iload_n hS 10 J_MSquareRows_lay_d9 l7 rfl ?_
        refine iq_ishr hS 11 J_MSquareRows_lay_d10 rfl ?_
        refine iq_iconst hS 12 J_MSquareRows_lay_d11 (v := 1) (by decide +kernel) rfl ?_
        refine iq_iand hS 13 J_MSquareRows_lay_d12 rfl ?_
        refine iq_istore hS 15 J_MSquareRows_lay_d13 (by decide) rfl ?_
        refine iq_aload_n hS 16 J_MSquareRows_lay_d15 (lk_1r l5 (by decide)) rfl ?_
        refine iq_getR hS 19 J_MSquareRows_lay_d16 lf_16_40 (Or.inr ⟨_, rfl⟩) (ka_108 hM4) (ra_108_17 hM4) rfl ?_
        refine iq_aload_n hS 20 J_MSquareRows_lay_d19 (lk_1r l5 (by decide)) rfl ?_
        refine iq_getI hS 23 J_MSquareRows_lay_d20 lf_16_124 (Or.inl rfl) (ka_108 hM4) rfl ?_
        refine iq_bipush hS 25 J_MSquareRows_lay_d23 (v := 8) (by decide +kernel) rfl ?_
        refine iq_idiv hS 26 J_MSquareRows_lay_d25 (by decide) rfl ?_
        refine iq_aload_n hS 27 J_MSquareRows_lay_d26 (lk_1r l5 (by decide)) rfl ?_
        refine iq_getR hS 30 J_MSquareRows_lay_d27 lf_16_40 (Or.inr ⟨_, rfl⟩) (ka_108 hM4) (ra_108_17 hM4) rfl ?_
        refine iq_aload_n hS 31 J_MSquareRows_lay_d30 (lk_1r l5 (by decide)) rfl ?_
        refine iq_getI hS 34 J_MSquareRows_lay_d31 lf_16_124 (Or.inl rfl) (ka_108 hM4) rfl ?_
        refine iq_bipush hS 36 J_MSquareRows_lay_d34 (v := 8) (by decide +kernel) rfl ?_
        refine iq_idiv hS 37 J_MSquareRows_lay_d36 (by decide) rfl ?_
        obtain ⟨g37, h⟩ := ed_gd h
        refine iq_iaload hS 38 J_MSquareRows_lay_d37 ⟨(ka_119 hM4).1, (ka_119 hM4).2, g37.1, ix_lt (kl_119 hM4) g37.2⟩ rfl ?_
        refine iq_iload hS 40 J_MSquareRows_lay_d38 lk_1s rfl ?_
        refine iq_bipush hS 42 J_MSquareRows_lay_d40 (v := 7) (by decide +kernel) rfl ?_
        refine iq_aload_n hS 43 J_MSquareRows_lay_d42 (lk_1r l5 (by decide)) rfl ?_
        refine iq_getI hS 46 J_MSquareRows_lay_d43 lf_16_124 (Or.inl rfl) (ka_108 hM4) rfl ?_
        refine iq_bipush hS 48 J_MSquareRows_lay_d46 (v := 8) (by decide +kernel) rfl ?_
        refine iq_irem hS 49 J_MSquareRows_lay_d48 (by decide) rfl ?_
        refine iq_isub hS 50 J_MSquareRows_lay_d49 rfl ?_
        refine iq_ishl hS 51 J_MSquareRows_lay_d50 rfl ?_
        refine iq_ior hS 52 J_MSquareRows_lay_d51 rfl ?_
        obtain ⟨g52, h⟩ := ed_gd h
        refine iq_iastore hS 53 J_MSquareRows_lay_d52 ⟨(ka_119 hM4).1, (ka_119 hM4).2, g52.1, ix_lt (kl_119 hM4) g52.2⟩ rfl ?_
        refine iq_aload_n hS 54 J_MSquareRows_lay_d53 (lk_1r l5 (by decide)) rfl ?_
        refine iq_dup hS 55 J_MSquareRows_lay_d54 rfl rfl ?_
        refine iq_getI hS 58 J_MSquareRows_lay_d55 lf_16_124 (Or.inl rfl) (ka_108 (lw_sI hM4)) rfl ?_
        refine iq_iconst hS 59 J_MSquareRows_lay_d58 (v := 1) (by decide +kernel) rfl ?_
        refine iq_iadd hS 60 J_MSquareRows_lay_d59 rfl ?_
        refine iq_putI hS 63 J_MSquareRows_lay_d60 lf_16_124 (Or.inl rfl) rfl (ka_108 (lw_sI hM4)) rfl ?_
        refine iq_iincv hS 66 J_MSquareRows_lay_d63 (c := (-1)) (by decide +kernel) (lk_1i l7 (by decide)) (by decide) rfl ?_
        refine iq_goto hS J_MSquareRows_lay_d66 (t := 4) rfl ?_
        exact ih _ _ _ (lw_sI (lw_sI hM4)) (lk_1r (lk_1r l5 (by decide)) (by decide)) (lk_1i (lk_1i l6 (by decide)) (by decide)) lk_1s (lq_l h)
  exact I1 n1 _ _ _ hM (lk_1r l0 (by decide)) (lk_1i l1 (by decide)) lk_1s hn1
theorem f_MSquareRows_lay_fr {p0 : Int32} {p1 : Int32} {M : im_M} {r : im_M} (h : f_MSquareRows_lay p0 p1 M = some r) : fr 664613997892457936451903530140172288 [(108, 19)] M r := by
  replace h : ed (f_MSquareRows_lay p0 p1 M) (fun x => x = r) := ⟨r, h, rfl⟩
  unfold f_MSquareRows_lay at h
  obtain ⟨Q1, hQ1, h⟩ := bd1_ed h
  have K1 : ∀ (M2 : im_M), fr 664613997892457936451903530140172288 [(108, 19)] M M2 → Q1 M2 → fr 664613997892457936451903530140172288 [(108, 19)] M r := by
    intro M2 hM2 h
    replace h := hQ1 _ h
    exact fr_retV h hM2
  obtain ⟨r1, hr1, hq1⟩ := h
  obtain ⟨n1, hn1⟩ := lp_n hr1
  have I1 : ∀ (n : Nat) (x3 : Int32) (M4 : im_M), fr 664613997892457936451903530140172288 [(108, 19)] M M4 → lpn (uc2 (f_MSquareRows_lay_L4 p0)) n (x3, M4) = some r1 → fr 664613997892457936451903530140172288 [(108, 19)] M r := by
    intro n
    induction n with
    | zero => intro x3 M4 hM4 hn; exact (lpn_0 hn).elim
    | succ n ih =>
      intro x3 M4 hM4 hn
      have h := lpn_ed2 hn
      unfold f_MSquareRows_lay_L4 at h
      by_cases q5 : x3 < 0
      · replace h := ed_pos q5 h
        exact K1 _ hM4 (lq_r h hq1)
      · replace h := ed_neg q5 h
        obtain ⟨g37, h⟩ := ed_gd h
        obtain ⟨g52, h⟩ := ed_gd h
        exact ih _ _ (fr_F (by decide) (fr_I (by decide) hM4)) (lq_l h)
  exact I1 n1 _ _ fr_refl hn1
noncomputable def f_MSquareRows_laySegment_L120 (v12 : Int32) (v13 : Int32) (v14 : Int32) (v15 : Int32) (M18 : im_M) (x16 : Int32) (x17 : Int32) : Option ((Int32 × Int32) ⊕ (Int32)) := if v15 ≤ x17 then some (.inr x16) else bd1 (if ¬ v13 = 0 then if ¬ v13 = 1 then gd (inb (v14 + x17) 3000) <| some (im_i M18 111 (Int32.toNatClampNeg (v14 + x17))) else gd (inb (v14 + x17) 3000) <| bd1 (f_MSquareRows_signOf (im_i M18 111 (Int32.toNatClampNeg (v14 + x17))) M18) fun (x20 : Int32) => some (((45 : Int32) * x16) + x20) else gd (inb (v14 + x17) 3000) <| some ((((10 : Int32) * x16) + (im_i M18 111 (Int32.toNatClampNeg (v14 + x17)))) - 48)) fun (y21 : Int32) => some (.inl (y21, (x17 + 1)))
noncomputable def f_MSquareRows_laySegment_L66 (v5 : Int32) (v6 : Int32) (x7 : Int32) (M8 : im_M) : Option ((Int32 × im_M) ⊕ (im_M)) := if v5 ≤ x7 then some (.inr M8) else bd1 (lp (uc2 (f_MSquareRows_laySegment_L120 v5 v6 x7 ((if ((if ¬ v6 = 0 then (if ¬ v6 = 1 then 1 else 2) else 3) : Int32) ≤ (v5 - x7) then ((if ¬ v6 = 0 then (if ¬ v6 = 1 then 1 else 2) else 3) : Int32) else (v5 - x7)) : Int32) M8)) (0, 0)) fun (y28 : Int32) => bd1 (f_MSquareRows_lay y28 ((if ¬ v6 = 0 then (if ¬ v6 = 1 then 8 else (((5 : Int32) * ((if ((if ¬ v6 = 0 then (if ¬ v6 = 1 then 1 else 2) else 3) : Int32) ≤ (v5 - x7) then ((if ¬ v6 = 0 then (if ¬ v6 = 1 then 1 else 2) else 3) : Int32) else (v5 - x7)) : Int32)) + 1)) else (((3 : Int32) * ((if ((if ¬ v6 = 0 then (if ¬ v6 = 1 then 1 else 2) else 3) : Int32) ≤ (v5 - x7) then ((if ¬ v6 = 0 then (if ¬ v6 = 1 then 1 else 2) else 3) : Int32) else (v5 - x7)) : Int32)) + 1)) : Int32) M8) fun (M30 : im_M) => some (.inl ((x7 + ((if ((if ¬ v6 = 0 then (if ¬ v6 = 1 then 1 else 2) else 3) : Int32) ≤ (v5 - x7) then ((if ¬ v6 = 0 then (if ¬ v6 = 1 then 1 else 2) else 3) : Int32) else (v5 - x7)) : Int32)), M30))
noncomputable def f_MSquareRows_laySegment (p0 : Int32) (p1 : Int32) (p2 : Int32) (M : im_M) : Option (im_M) := gd (inb p0 3000) <| gd (inb (im_i M 108 13) 3000) <| gd (inb (im_i (im_setI M 115 (Int32.toNatClampNeg (im_i M 108 13)) (im_i M 117 (Int32.toNatClampNeg p0))) 108 13) 3000) <| bd1 (f_MSquareRows_lay ((1 : Int32) <<< ((im_i M 117 (Int32.toNatClampNeg p0)) &&& 31 : Int32) : Int32) 4 (im_setI (im_setI (im_setI M 115 (Int32.toNatClampNeg (im_i M 108 13)) (im_i M 117 (Int32.toNatClampNeg p0))) 116 (Int32.toNatClampNeg (im_i (im_setI M 115 (Int32.toNatClampNeg (im_i M 108 13)) (im_i M 117 (Int32.toNatClampNeg p0))) 108 13)) (p1 - p0)) 108 13 ((im_i (im_setI (im_setI M 115 (Int32.toNatClampNeg (im_i M 108 13)) (im_i M 117 (Int32.toNatClampNeg p0))) 116 (Int32.toNatClampNeg (im_i (im_setI M 115 (Int32.toNatClampNeg (im_i M 108 13)) (im_i M 117 (Int32.toNatClampNeg p0))) 108 13)) (p1 - p0)) 108 13) + 1))) fun (M1 : im_M) => bd1 (f_MSquareRows_lengthBits (im_i M 117 (Int32.toNatClampNeg p0)) p2 M1) fun (x2 : Int32) => bd1 (f_MSquareRows_lay (p1 - p0) x2 M1) fun (M3 : im_M) => bd1 (lp (uc2 (f_MSquareRows_laySegment_L66 p1 (im_i M 117 (Int32.toNatClampNeg p0)))) (p0, M3)) fun (M31 : im_M) => some M31
theorem J_MSquareRows_laySegment_d0 : decode J_MSquareRows_laySegment.2.1 0 = .ok (.aload_n 0, 1) := by decide +kernel
theorem J_MSquareRows_laySegment_d1 : decode J_MSquareRows_laySegment.2.1 1 = .ok (.getfield 34, 3) := by decide +kernel
theorem J_MSquareRows_laySegment_d4 : decode J_MSquareRows_laySegment.2.1 4 = .ok (.iload_n 1, 1) := by decide +kernel
theorem J_MSquareRows_laySegment_d5 : decode J_MSquareRows_laySegment.2.1 5 = .ok (.iaload, 1) := by decide +kernel
theorem J_MSquareRows_laySegment_d6 : decode J_MSquareRows_laySegment.2.1 6 = .ok (.istore 4, 2) := by decide +kernel
theorem J_MSquareRows_laySegment_d8 : decode J_MSquareRows_laySegment.2.1 8 = .ok (.aload_n 0, 1) := by decide +kernel
theorem J_MSquareRows_laySegment_d9 : decode J_MSquareRows_laySegment.2.1 9 = .ok (.getfield 28, 3) := by decide +kernel
theorem J_MSquareRows_laySegment_d12 : decode J_MSquareRows_laySegment.2.1 12 = .ok (.aload_n 0, 1) := by decide +kernel
theorem J_MSquareRows_laySegment_d13 : decode J_MSquareRows_laySegment.2.1 13 = .ok (.getfield 127, 3) := by decide +kernel
theorem J_MSquareRows_laySegment_d16 : decode J_MSquareRows_laySegment.2.1 16 = .ok (.iload 4, 2) := by decide +kernel
theorem J_MSquareRows_laySegment_d18 : decode J_MSquareRows_laySegment.2.1 18 = .ok (.iastore, 1) := by decide +kernel
theorem J_MSquareRows_laySegment_d19 : decode J_MSquareRows_laySegment.2.1 19 = .ok (.aload_n 0, 1) := by decide +kernel
theorem J_MSquareRows_laySegment_d20 : decode J_MSquareRows_laySegment.2.1 20 = .ok (.getfield 31, 3) := by decide +kernel
theorem J_MSquareRows_laySegment_d23 : decode J_MSquareRows_laySegment.2.1 23 = .ok (.aload_n 0, 1) := by decide +kernel
theorem J_MSquareRows_laySegment_d24 : decode J_MSquareRows_laySegment.2.1 24 = .ok (.getfield 127, 3) := by decide +kernel
theorem J_MSquareRows_laySegment_d27 : decode J_MSquareRows_laySegment.2.1 27 = .ok (.iload_n 2, 1) := by decide +kernel
theorem J_MSquareRows_laySegment_d28 : decode J_MSquareRows_laySegment.2.1 28 = .ok (.iload_n 1, 1) := by decide +kernel
theorem J_MSquareRows_laySegment_d29 : decode J_MSquareRows_laySegment.2.1 29 = .ok (.isub, 1) := by decide +kernel
theorem J_MSquareRows_laySegment_d30 : decode J_MSquareRows_laySegment.2.1 30 = .ok (.iastore, 1) := by decide +kernel
theorem J_MSquareRows_laySegment_d31 : decode J_MSquareRows_laySegment.2.1 31 = .ok (.aload_n 0, 1) := by decide +kernel
theorem J_MSquareRows_laySegment_d32 : decode J_MSquareRows_laySegment.2.1 32 = .ok (.dup, 1) := by decide +kernel
theorem J_MSquareRows_laySegment_d33 : decode J_MSquareRows_laySegment.2.1 33 = .ok (.getfield 127, 3) := by decide +kernel
theorem J_MSquareRows_laySegment_d36 : decode J_MSquareRows_laySegment.2.1 36 = .ok (.iconst 1, 1) := by decide +kernel
theorem J_MSquareRows_laySegment_d37 : decode J_MSquareRows_laySegment.2.1 37 = .ok (.iadd, 1) := by decide +kernel
theorem J_MSquareRows_laySegment_d38 : decode J_MSquareRows_laySegment.2.1 38 = .ok (.putfield 127, 3) := by decide +kernel
theorem J_MSquareRows_laySegment_d41 : decode J_MSquareRows_laySegment.2.1 41 = .ok (.aload_n 0, 1) := by decide +kernel
theorem J_MSquareRows_laySegment_d42 : decode J_MSquareRows_laySegment.2.1 42 = .ok (.iconst 1, 1) := by decide +kernel
theorem J_MSquareRows_laySegment_d43 : decode J_MSquareRows_laySegment.2.1 43 = .ok (.iload 4, 2) := by decide +kernel
theorem J_MSquareRows_laySegment_d45 : decode J_MSquareRows_laySegment.2.1 45 = .ok (.ishl, 1) := by decide +kernel
theorem J_MSquareRows_laySegment_d46 : decode J_MSquareRows_laySegment.2.1 46 = .ok (.iconst 4, 1) := by decide +kernel
theorem J_MSquareRows_laySegment_d47 : decode J_MSquareRows_laySegment.2.1 47 = .ok (.invokevirtual 130, 3) := by decide +kernel
theorem J_MSquareRows_laySegment_d50 : decode J_MSquareRows_laySegment.2.1 50 = .ok (.aload_n 0, 1) := by decide +kernel
theorem J_MSquareRows_laySegment_d51 : decode J_MSquareRows_laySegment.2.1 51 = .ok (.iload_n 2, 1) := by decide +kernel
theorem J_MSquareRows_laySegment_d52 : decode J_MSquareRows_laySegment.2.1 52 = .ok (.iload_n 1, 1) := by decide +kernel
theorem J_MSquareRows_laySegment_d53 : decode J_MSquareRows_laySegment.2.1 53 = .ok (.isub, 1) := by decide +kernel
theorem J_MSquareRows_laySegment_d54 : decode J_MSquareRows_laySegment.2.1 54 = .ok (.iload 4, 2) := by decide +kernel
theorem J_MSquareRows_laySegment_d56 : decode J_MSquareRows_laySegment.2.1 56 = .ok (.iload_n 3, 1) := by decide +kernel
theorem J_MSquareRows_laySegment_d57 : decode J_MSquareRows_laySegment.2.1 57 = .ok (.invokestatic 99, 3) := by decide +kernel
theorem J_MSquareRows_laySegment_d60 : decode J_MSquareRows_laySegment.2.1 60 = .ok (.invokevirtual 130, 3) := by decide +kernel
theorem J_MSquareRows_laySegment_d63 : decode J_MSquareRows_laySegment.2.1 63 = .ok (.iload_n 1, 1) := by decide +kernel
theorem J_MSquareRows_laySegment_d64 : decode J_MSquareRows_laySegment.2.1 64 = .ok (.istore 5, 2) := by decide +kernel
theorem J_MSquareRows_laySegment_d66 : decode J_MSquareRows_laySegment.2.1 66 = .ok (.iload 5, 2) := by decide +kernel
theorem J_MSquareRows_laySegment_d68 : decode J_MSquareRows_laySegment.2.1 68 = .ok (.iload_n 2, 1) := by decide +kernel
theorem J_MSquareRows_laySegment_d69 : decode J_MSquareRows_laySegment.2.1 69 = .ok (.if_icmp .ge 178, 3) := by decide +kernel
theorem J_MSquareRows_laySegment_d72 : decode J_MSquareRows_laySegment.2.1 72 = .ok (.iload 4, 2) := by decide +kernel
theorem J_MSquareRows_laySegment_d74 : decode J_MSquareRows_laySegment.2.1 74 = .ok (.ifCond .ne 7, 3) := by decide +kernel
theorem J_MSquareRows_laySegment_d77 : decode J_MSquareRows_laySegment.2.1 77 = .ok (.iconst 3, 1) := by decide +kernel
theorem J_MSquareRows_laySegment_d78 : decode J_MSquareRows_laySegment.2.1 78 = .ok (.goto 14, 3) := by decide +kernel
theorem J_MSquareRows_laySegment_d81 : decode J_MSquareRows_laySegment.2.1 81 = .ok (.iload 4, 2) := by decide +kernel
theorem J_MSquareRows_laySegment_d83 : decode J_MSquareRows_laySegment.2.1 83 = .ok (.iconst 1, 1) := by decide +kernel
theorem J_MSquareRows_laySegment_d84 : decode J_MSquareRows_laySegment.2.1 84 = .ok (.if_icmp .ne 7, 3) := by decide +kernel
theorem J_MSquareRows_laySegment_d87 : decode J_MSquareRows_laySegment.2.1 87 = .ok (.iconst 2, 1) := by decide +kernel
theorem J_MSquareRows_laySegment_d88 : decode J_MSquareRows_laySegment.2.1 88 = .ok (.goto 4, 3) := by decide +kernel
theorem J_MSquareRows_laySegment_d91 : decode J_MSquareRows_laySegment.2.1 91 = .ok (.iconst 1, 1) := by decide +kernel
theorem J_MSquareRows_laySegment_d92 : decode J_MSquareRows_laySegment.2.1 92 = .ok (.istore 6, 2) := by decide +kernel
theorem J_MSquareRows_laySegment_d94 : decode J_MSquareRows_laySegment.2.1 94 = .ok (.iload 6, 2) := by decide +kernel
theorem J_MSquareRows_laySegment_d96 : decode J_MSquareRows_laySegment.2.1 96 = .ok (.iload_n 2, 1) := by decide +kernel
theorem J_MSquareRows_laySegment_d97 : decode J_MSquareRows_laySegment.2.1 97 = .ok (.iload 5, 2) := by decide +kernel
theorem J_MSquareRows_laySegment_d99 : decode J_MSquareRows_laySegment.2.1 99 = .ok (.isub, 1) := by decide +kernel
theorem J_MSquareRows_laySegment_d100 : decode J_MSquareRows_laySegment.2.1 100 = .ok (.if_icmp .le 10, 3) := by decide +kernel
theorem J_MSquareRows_laySegment_d103 : decode J_MSquareRows_laySegment.2.1 103 = .ok (.iload_n 2, 1) := by decide +kernel
theorem J_MSquareRows_laySegment_d104 : decode J_MSquareRows_laySegment.2.1 104 = .ok (.iload 5, 2) := by decide +kernel
theorem J_MSquareRows_laySegment_d106 : decode J_MSquareRows_laySegment.2.1 106 = .ok (.isub, 1) := by decide +kernel
theorem J_MSquareRows_laySegment_d107 : decode J_MSquareRows_laySegment.2.1 107 = .ok (.goto 5, 3) := by decide +kernel
theorem J_MSquareRows_laySegment_d110 : decode J_MSquareRows_laySegment.2.1 110 = .ok (.iload 6, 2) := by decide +kernel
theorem J_MSquareRows_laySegment_d112 : decode J_MSquareRows_laySegment.2.1 112 = .ok (.istore 6, 2) := by decide +kernel
theorem J_MSquareRows_laySegment_d114 : decode J_MSquareRows_laySegment.2.1 114 = .ok (.iconst 0, 1) := by decide +kernel
theorem J_MSquareRows_laySegment_d115 : decode J_MSquareRows_laySegment.2.1 115 = .ok (.istore 7, 2) := by decide +kernel
theorem J_MSquareRows_laySegment_d117 : decode J_MSquareRows_laySegment.2.1 117 = .ok (.iconst 0, 1) := by decide +kernel
theorem J_MSquareRows_laySegment_d118 : decode J_MSquareRows_laySegment.2.1 118 = .ok (.istore 8, 2) := by decide +kernel
theorem J_MSquareRows_laySegment_d120 : decode J_MSquareRows_laySegment.2.1 120 = .ok (.iload 8, 2) := by decide +kernel
theorem J_MSquareRows_laySegment_d122 : decode J_MSquareRows_laySegment.2.1 122 = .ok (.iload 6, 2) := by decide +kernel
theorem J_MSquareRows_laySegment_d124 : decode J_MSquareRows_laySegment.2.1 124 = .ok (.if_icmp .ge 76, 3) := by decide +kernel
theorem J_MSquareRows_laySegment_d127 : decode J_MSquareRows_laySegment.2.1 127 = .ok (.iload 4, 2) := by decide +kernel
theorem J_MSquareRows_laySegment_d129 : decode J_MSquareRows_laySegment.2.1 129 = .ok (.ifCond .ne 25, 3) := by decide +kernel
theorem J_MSquareRows_laySegment_d132 : decode J_MSquareRows_laySegment.2.1 132 = .ok (.bipush 10, 2) := by decide +kernel
theorem J_MSquareRows_laySegment_d134 : decode J_MSquareRows_laySegment.2.1 134 = .ok (.iload 7, 2) := by decide +kernel
theorem J_MSquareRows_laySegment_d136 : decode J_MSquareRows_laySegment.2.1 136 = .ok (.imul, 1) := by decide +kernel
theorem J_MSquareRows_laySegment_d137 : decode J_MSquareRows_laySegment.2.1 137 = .ok (.aload_n 0, 1) := by decide +kernel
theorem J_MSquareRows_laySegment_d138 : decode J_MSquareRows_laySegment.2.1 138 = .ok (.getfield 16, 3) := by decide +kernel
theorem J_MSquareRows_laySegment_d141 : decode J_MSquareRows_laySegment.2.1 141 = .ok (.iload 5, 2) := by decide +kernel
theorem J_MSquareRows_laySegment_d143 : decode J_MSquareRows_laySegment.2.1 143 = .ok (.iload 8, 2) := by decide +kernel
theorem J_MSquareRows_laySegment_d145 : decode J_MSquareRows_laySegment.2.1 145 = .ok (.iadd, 1) := by decide +kernel
theorem J_MSquareRows_laySegment_d146 : decode J_MSquareRows_laySegment.2.1 146 = .ok (.iaload, 1) := by decide +kernel
theorem J_MSquareRows_laySegment_d147 : decode J_MSquareRows_laySegment.2.1 147 = .ok (.iadd, 1) := by decide +kernel
theorem J_MSquareRows_laySegment_d148 : decode J_MSquareRows_laySegment.2.1 148 = .ok (.bipush 48, 2) := by decide +kernel
theorem J_MSquareRows_laySegment_d150 : decode J_MSquareRows_laySegment.2.1 150 = .ok (.isub, 1) := by decide +kernel
theorem J_MSquareRows_laySegment_d151 : decode J_MSquareRows_laySegment.2.1 151 = .ok (.goto 41, 3) := by decide +kernel
theorem J_MSquareRows_laySegment_d154 : decode J_MSquareRows_laySegment.2.1 154 = .ok (.iload 4, 2) := by decide +kernel
theorem J_MSquareRows_laySegment_d156 : decode J_MSquareRows_laySegment.2.1 156 = .ok (.iconst 1, 1) := by decide +kernel
theorem J_MSquareRows_laySegment_d157 : decode J_MSquareRows_laySegment.2.1 157 = .ok (.if_icmp .ne 25, 3) := by decide +kernel
theorem J_MSquareRows_laySegment_d160 : decode J_MSquareRows_laySegment.2.1 160 = .ok (.bipush 45, 2) := by decide +kernel
theorem J_MSquareRows_laySegment_d162 : decode J_MSquareRows_laySegment.2.1 162 = .ok (.iload 7, 2) := by decide +kernel
theorem J_MSquareRows_laySegment_d164 : decode J_MSquareRows_laySegment.2.1 164 = .ok (.imul, 1) := by decide +kernel
theorem J_MSquareRows_laySegment_d165 : decode J_MSquareRows_laySegment.2.1 165 = .ok (.aload_n 0, 1) := by decide +kernel
theorem J_MSquareRows_laySegment_d166 : decode J_MSquareRows_laySegment.2.1 166 = .ok (.getfield 16, 3) := by decide +kernel
theorem J_MSquareRows_laySegment_d169 : decode J_MSquareRows_laySegment.2.1 169 = .ok (.iload 5, 2) := by decide +kernel
theorem J_MSquareRows_laySegment_d171 : decode J_MSquareRows_laySegment.2.1 171 = .ok (.iload 8, 2) := by decide +kernel
theorem J_MSquareRows_laySegment_d173 : decode J_MSquareRows_laySegment.2.1 173 = .ok (.iadd, 1) := by decide +kernel
theorem J_MSquareRows_laySegment_d174 : decode J_MSquareRows_laySegment.2.1 174 = .ok (.iaload, 1) := by decide +kernel
theorem J_MSquareRows_laySegment_d175 : decode J_MSquareRows_laySegment.2.1 175 = .ok (.invokestatic 93, 3) := by decide +kernel
theorem J_MSquareRows_laySegment_d178 : decode J_MSquareRows_laySegment.2.1 178 = .ok (.iadd, 1) := by decide +kernel
theorem J_MSquareRows_laySegment_d179 : decode J_MSquareRows_laySegment.2.1 179 = .ok (.goto 13, 3) := by decide +kernel
theorem J_MSquareRows_laySegment_d182 : decode J_MSquareRows_laySegment.2.1 182 = .ok (.aload_n 0, 1) := by decide +kernel
theorem J_MSquareRows_laySegment_d183 : decode J_MSquareRows_laySegment.2.1 183 = .ok (.getfield 16, 3) := by decide +kernel
theorem J_MSquareRows_laySegment_d186 : decode J_MSquareRows_laySegment.2.1 186 = .ok (.iload 5, 2) := by decide +kernel
theorem J_MSquareRows_laySegment_d188 : decode J_MSquareRows_laySegment.2.1 188 = .ok (.iload 8, 2) := by decide +kernel
theorem J_MSquareRows_laySegment_d190 : decode J_MSquareRows_laySegment.2.1 190 = .ok (.iadd, 1) := by decide +kernel
theorem J_MSquareRows_laySegment_d191 : decode J_MSquareRows_laySegment.2.1 191 = .ok (.iaload, 1) := by decide +kernel
theorem J_MSquareRows_laySegment_d192 : decode J_MSquareRows_laySegment.2.1 192 = .ok (.istore 7, 2) := by decide +kernel
theorem J_MSquareRows_laySegment_d194 : decode J_MSquareRows_laySegment.2.1 194 = .ok (.iinc 8 1, 3) := by decide +kernel
theorem J_MSquareRows_laySegment_d197 : decode J_MSquareRows_laySegment.2.1 197 = .ok (.goto (-77), 3) := by decide +kernel
theorem J_MSquareRows_laySegment_d200 : decode J_MSquareRows_laySegment.2.1 200 = .ok (.aload_n 0, 1) := by decide +kernel
theorem J_MSquareRows_laySegment_d201 : decode J_MSquareRows_laySegment.2.1 201 = .ok (.iload 7, 2) := by decide +kernel
theorem J_MSquareRows_laySegment_d203 : decode J_MSquareRows_laySegment.2.1 203 = .ok (.iload 4, 2) := by decide +kernel
theorem J_MSquareRows_laySegment_d205 : decode J_MSquareRows_laySegment.2.1 205 = .ok (.ifCond .ne 12, 3) := by decide +kernel
theorem J_MSquareRows_laySegment_d208 : decode J_MSquareRows_laySegment.2.1 208 = .ok (.iconst 3, 1) := by decide +kernel
theorem J_MSquareRows_laySegment_d209 : decode J_MSquareRows_laySegment.2.1 209 = .ok (.iload 6, 2) := by decide +kernel
theorem J_MSquareRows_laySegment_d211 : decode J_MSquareRows_laySegment.2.1 211 = .ok (.imul, 1) := by decide +kernel
theorem J_MSquareRows_laySegment_d212 : decode J_MSquareRows_laySegment.2.1 212 = .ok (.iconst 1, 1) := by decide +kernel
theorem J_MSquareRows_laySegment_d213 : decode J_MSquareRows_laySegment.2.1 213 = .ok (.iadd, 1) := by decide +kernel
theorem J_MSquareRows_laySegment_d214 : decode J_MSquareRows_laySegment.2.1 214 = .ok (.goto 20, 3) := by decide +kernel
theorem J_MSquareRows_laySegment_d217 : decode J_MSquareRows_laySegment.2.1 217 = .ok (.iload 4, 2) := by decide +kernel
theorem J_MSquareRows_laySegment_d219 : decode J_MSquareRows_laySegment.2.1 219 = .ok (.iconst 1, 1) := by decide +kernel
theorem J_MSquareRows_laySegment_d220 : decode J_MSquareRows_laySegment.2.1 220 = .ok (.if_icmp .ne 12, 3) := by decide +kernel
theorem J_MSquareRows_laySegment_d223 : decode J_MSquareRows_laySegment.2.1 223 = .ok (.iconst 5, 1) := by decide +kernel
theorem J_MSquareRows_laySegment_d224 : decode J_MSquareRows_laySegment.2.1 224 = .ok (.iload 6, 2) := by decide +kernel
theorem J_MSquareRows_laySegment_d226 : decode J_MSquareRows_laySegment.2.1 226 = .ok (.imul, 1) := by decide +kernel
theorem J_MSquareRows_laySegment_d227 : decode J_MSquareRows_laySegment.2.1 227 = .ok (.iconst 1, 1) := by decide +kernel
theorem J_MSquareRows_laySegment_d228 : decode J_MSquareRows_laySegment.2.1 228 = .ok (.iadd, 1) := by decide +kernel
theorem J_MSquareRows_laySegment_d229 : decode J_MSquareRows_laySegment.2.1 229 = .ok (.goto 5, 3) := by decide +kernel
theorem J_MSquareRows_laySegment_d232 : decode J_MSquareRows_laySegment.2.1 232 = .ok (.bipush 8, 2) := by decide +kernel
theorem J_MSquareRows_laySegment_d234 : decode J_MSquareRows_laySegment.2.1 234 = .ok (.invokevirtual 130, 3) := by decide +kernel
theorem J_MSquareRows_laySegment_d237 : decode J_MSquareRows_laySegment.2.1 237 = .ok (.iload 5, 2) := by decide +kernel
theorem J_MSquareRows_laySegment_d239 : decode J_MSquareRows_laySegment.2.1 239 = .ok (.iload 6, 2) := by decide +kernel
theorem J_MSquareRows_laySegment_d241 : decode J_MSquareRows_laySegment.2.1 241 = .ok (.iadd, 1) := by decide +kernel
theorem J_MSquareRows_laySegment_d242 : decode J_MSquareRows_laySegment.2.1 242 = .ok (.istore 5, 2) := by decide +kernel
theorem J_MSquareRows_laySegment_d244 : decode J_MSquareRows_laySegment.2.1 244 = .ok (.goto (-178), 3) := by decide +kernel
theorem J_MSquareRows_laySegment_d247 : decode J_MSquareRows_laySegment.2.1 247 = .ok (.return_, 1) := by decide +kernel
theorem f_MSquareRows_laySegment_ok {L : Nat} {xs : Nat → Int32} {dep : Nat} {w : Bool} {p0 : Int32} {p1 : Int32} {p2 : Int32} {M : im_M} {Q : im_M → Prop} (hM : lw_S w M) (h : ed (f_MSquareRows_laySegment p0 p1 p2 M) Q) : ia (tb_G L xs) (dep + 1) J_MSquareRows_laySegment (rwV w Q) (0, lv_args 0 [.ref 108, .int p0, .int p1, .int p2], [], M) := by
  have hS : im_St (tb_G L xs) (dep + 1) J_MSquareRows_laySegment (ia (tb_G L xs) (dep + 1) J_MSquareRows_laySegment (rwV w Q)) := ia_St
  unfold f_MSquareRows_laySegment at h
  have l0 : im_lk (lv_args 0 [.ref 108, .int p0, .int p1, .int p2]) 0 = some (.ref 108) := rfl
  have l1 : im_lk (lv_args 0 [.ref 108, .int p0, .int p1, .int p2]) 1 = some (.int p0) := rfl
  have l2 : im_lk (lv_args 0 [.ref 108, .int p0, .int p1, .int p2]) 2 = some (.int p1) := rfl
  have l3 : im_lk (lv_args 0 [.ref 108, .int p0, .int p1, .int p2]) 3 = some (.int p2) := rfl
  refine iq_aload_n hS 1 J_MSquareRows_laySegment_d0 l0 rfl ?_
  refine iq_getR hS 4 J_MSquareRows_laySegment_d1 lf_16_34 (Or.inr ⟨_, rfl⟩) (ka_108 hM) (ra_108_14 hM) rfl ?_
  refine iq_iload_n hS 5 J_MSquareRows_laySegment_d4 l1 rfl ?_
  obtain ⟨g5, h⟩ := ed_gd h
  refine iq_iaload hS 6 J_MSquareRows_laySegment_d5 ⟨(ka_117 hM).1, (ka_117 hM).2, g5.1, ix_lt (kl_117 hM) g5.2⟩ rfl ?_
  refine iq_istore hS 8 J_MSquareRows_laySegment_d6 (by decide) rfl ?_
  refine iq_aload_n hS 9 J_MSquareRows_laySegment_d8 (lk_1r l0 (by decide)) rfl ?_
  refine iq_getR hS 12 J_MSquareRows_laySegment_d9 lf_16_28 (Or.inr ⟨_, rfl⟩) (ka_108 hM) (ra_108_11 hM) rfl ?_
  refine iq_aload_n hS 13 J_MSquareRows_laySegment_d12 (lk_1r l0 (by decide)) rfl ?_
  refine iq_getI hS 16 J_MSquareRows_laySegment_d13 lf_16_127 (Or.inl rfl) (ka_108 hM) rfl ?_
  refine iq_iload hS 18 J_MSquareRows_laySegment_d16 lk_1s rfl ?_
  obtain ⟨g18, h⟩ := ed_gd h
  refine iq_iastore hS 19 J_MSquareRows_laySegment_d18 ⟨(ka_115 hM).1, (ka_115 hM).2, g18.1, ix_lt (kl_115 hM) g18.2⟩ rfl ?_
  refine iq_aload_n hS 20 J_MSquareRows_laySegment_d19 (lk_1r l0 (by decide)) rfl ?_
  refine iq_getR hS 23 J_MSquareRows_laySegment_d20 lf_16_31 (Or.inr ⟨_, rfl⟩) (ka_108 (lw_sI hM)) (ra_108_12 (lw_sI hM)) rfl ?_
  refine iq_aload_n hS 24 J_MSquareRows_laySegment_d23 (lk_1r l0 (by decide)) rfl ?_
  refine iq_getI hS 27 J_MSquareRows_laySegment_d24 lf_16_127 (Or.inl rfl) (ka_108 (lw_sI hM)) rfl ?_
  refine iq_iload_n hS 28 J_MSquareRows_laySegment_d27 (lk_1i l2 (by decide)) rfl ?_
  refine iq_iload_n hS 29 J_MSquareRows_laySegment_d28 (lk_1i l1 (by decide)) rfl ?_
  refine iq_isub hS 30 J_MSquareRows_laySegment_d29 rfl ?_
  obtain ⟨g30, h⟩ := ed_gd h
  refine iq_iastore hS 31 J_MSquareRows_laySegment_d30 ⟨(ka_116 (lw_sI hM)).1, (ka_116 (lw_sI hM)).2, g30.1, ix_lt (kl_116 (lw_sI hM)) g30.2⟩ rfl ?_
  refine iq_aload_n hS 32 J_MSquareRows_laySegment_d31 (lk_1r l0 (by decide)) rfl ?_
  refine iq_dup hS 33 J_MSquareRows_laySegment_d32 rfl rfl ?_
  refine iq_getI hS 36 J_MSquareRows_laySegment_d33 lf_16_127 (Or.inl rfl) (ka_108 (lw_sI (lw_sI hM))) rfl ?_
  refine iq_iconst hS 37 J_MSquareRows_laySegment_d36 (v := 1) (by decide +kernel) rfl ?_
  refine iq_iadd hS 38 J_MSquareRows_laySegment_d37 rfl ?_
  refine iq_putI hS 41 J_MSquareRows_laySegment_d38 lf_16_127 (Or.inl rfl) rfl (ka_108 (lw_sI (lw_sI hM))) rfl ?_
  refine iq_aload_n hS 42 J_MSquareRows_laySegment_d41 (lk_1r l0 (by decide)) rfl ?_
  refine iq_iconst hS 43 J_MSquareRows_laySegment_d42 (v := 1) (by decide +kernel) rfl ?_
  refine iq_iload hS 45 J_MSquareRows_laySegment_d43 lk_1s rfl ?_
  refine iq_ishl hS 46 J_MSquareRows_laySegment_d45 rfl ?_
  refine iq_iconst hS 47 J_MSquareRows_laySegment_d46 (v := 4) (by decide +kernel) rfl ?_
  obtain ⟨Q1, hQ1, h⟩ := bd1_ed h
  refine iq_cwV hS 50 J_MSquareRows_laySegment_d47 rfl (pr_inst (vs := [_, _]) lc_16_130 lT_407 rfl rfl (by decide) (by decide) rfl (Nat.le_of_ble_eq_true rfl) (Nat.le_of_ble_eq_true rfl) (fun _ => Or.inl (pr_b (ka_108 (lw_sI (lw_sI (lw_sI hM)))) (by decide) rfl))) (f_MSquareRows_lay_ok (dep := dep + 0) (lw_sI (lw_sI (lw_sI hM))) h) rfl ?_
  intro M1 hM1 h
  replace h := hQ1 _ h
  refine iq_aload_n hS 51 J_MSquareRows_laySegment_d50 (lk_1r l0 (by decide)) rfl ?_
  refine iq_iload_n hS 52 J_MSquareRows_laySegment_d51 (lk_1i l2 (by decide)) rfl ?_
  refine iq_iload_n hS 53 J_MSquareRows_laySegment_d52 (lk_1i l1 (by decide)) rfl ?_
  refine iq_isub hS 54 J_MSquareRows_laySegment_d53 rfl ?_
  refine iq_iload hS 56 J_MSquareRows_laySegment_d54 lk_1s rfl ?_
  refine iq_iload_n hS 57 J_MSquareRows_laySegment_d56 (lk_1i l3 (by decide)) rfl ?_
  obtain ⟨Q2, hQ2, h⟩ := bd1_ed h
  refine iq_cpI hS 60 J_MSquareRows_laySegment_d57 rfl (pr_stat (vs := [_, _]) lc_16_99 lT_399 rfl rfl (by decide) rfl (Nat.le_of_ble_eq_true rfl) (Nat.le_of_ble_eq_true rfl)) (f_MSquareRows_lengthBits_ok (dep := dep + 0) hM1 h) rfl ?_
  intro x2 h
  replace h := hQ2 _ h
  obtain ⟨Q3, hQ3, h⟩ := bd1_ed h
  refine iq_cwV hS 63 J_MSquareRows_laySegment_d60 rfl (pr_inst (vs := [_, _]) lc_16_130 lT_407 rfl rfl (by decide) (by decide) rfl (Nat.le_of_ble_eq_true rfl) (Nat.le_of_ble_eq_true rfl) (fun _ => Or.inl (pr_b (ka_108 hM1) (by decide) rfl))) (f_MSquareRows_lay_ok (dep := dep + 0) hM1 h) rfl ?_
  intro M3 hM3 h
  replace h := hQ3 _ h
  refine iq_iload_n hS 64 J_MSquareRows_laySegment_d63 (lk_1i l1 (by decide)) rfl ?_
  refine iq_istore hS 66 J_MSquareRows_laySegment_d64 (by decide) rfl ?_
  obtain ⟨Q4, hQ4, h⟩ := bd1_ed h
  have K4 : ∀ (M5 : im_M) (L' : List (Nat × Value)), lw_S w M5 → Q4 M5 → ia (tb_G L xs) (dep + 1) J_MSquareRows_laySegment (rwV w Q) (247, L', [], M5) := by
    intro M5 L' hM5  h
    replace h := hQ4 _ h
    exact iq_ret J_MSquareRows_laySegment_d247 rfl ⟨rfl, hM5, ed_some h⟩
  obtain ⟨r4, hr4, hq4⟩ := h
  obtain ⟨n4, hn4⟩ := lp_n hr4
  have I4 : ∀ (n : Nat) (x6 : Int32) (M7 : im_M) (L' : List (Nat × Value)), lw_S w M7 → im_lk L' 0 = some (.ref 108) → im_lk L' 2 = some (.int p1) → im_lk L' 4 = some (.int (im_i M 117 (Int32.toNatClampNeg p0))) → im_lk L' 5 = some (.int x6) → lpn (uc2 (f_MSquareRows_laySegment_L66 p1 (im_i M 117 (Int32.toNatClampNeg p0)))) n (x6, M7) = some r4 → ia (tb_G L xs) (dep + 1) J_MSquareRows_laySegment (rwV w Q) (66, L', [], M7) := by
    intro n
    induction n with
    | zero => intro x6 M7 L' hM7 l8 l9 l10 l11 hn; exact (lpn_0 hn).elim
    | succ n ih =>
      intro x6 M7 L' hM7 l8 l9 l10 l11 hn
      have h := lpn_ed2 hn
      unfold f_MSquareRows_laySegment_L66 at h
      refine iq_iload hS 68 J_MSquareRows_laySegment_d66 l11 rfl ?_
      refine iq_iload_n hS 69 J_MSquareRows_laySegment_d68 l9 rfl ?_
      refine iq_icmp_ge hS 72 J_MSquareRows_laySegment_d69 (t := 247) rfl (fun q69 => ?_) rfl (fun q69 => ?_)
      · replace h := ed_pos q69 h
        exact K4 _ _ hM7  (lq_r h hq4)
      · replace h := ed_neg q69 h
        refine iq_iload hS 74 J_MSquareRows_laySegment_d72 l10 rfl ?_
        have J12 : ∀ (z13 : Int32) (L' : List (Nat × Value)), z13 = ((if ¬ (im_i M 117 (Int32.toNatClampNeg p0)) = 0 then (if ¬ (im_i M 117 (Int32.toNatClampNeg p0)) = 1 then 1 else 2) else 3) : Int32) → im_lk L' 0 = some (.ref 108) → im_lk L' 2 = some (.int p1) → im_lk L' 4 = some (.int (im_i M 117 (Int32.toNatClampNeg p0))) → im_lk L' 5 = some (.int x6) → ia (tb_G L xs) (dep + 1) J_MSquareRows_laySegment (rwV w Q) (92, L', [.int z13], M7) := by
          intro z13 L' e14 l15 l16 l17 l18
          subst e14
          refine iq_istore hS 94 J_MSquareRows_laySegment_d92 (by decide) rfl ?_
          refine iq_iload hS 96 J_MSquareRows_laySegment_d94 lk_1s rfl ?_
          refine iq_iload_n hS 97 J_MSquareRows_laySegment_d96 (lk_1i l16 (by decide)) rfl ?_
          refine iq_iload hS 99 J_MSquareRows_laySegment_d97 (lk_1i l18 (by decide)) rfl ?_
          refine iq_isub hS 100 J_MSquareRows_laySegment_d99 rfl ?_
          have J19 : ∀ (z20 : Int32) (L' : List (Nat × Value)), z20 = ((if ((if ¬ (im_i M 117 (Int32.toNatClampNeg p0)) = 0 then (if ¬ (im_i M 117 (Int32.toNatClampNeg p0)) = 1 then 1 else 2) else 3) : Int32) ≤ (p1 - x6) then ((if ¬ (im_i M 117 (Int32.toNatClampNeg p0)) = 0 then (if ¬ (im_i M 117 (Int32.toNatClampNeg p0)) = 1 then 1 else 2) else 3) : Int32) else (p1 - x6)) : Int32) → im_lk L' 0 = some (.ref 108) → im_lk L' 2 = some (.int p1) → im_lk L' 4 = some (.int (im_i M 117 (Int32.toNatClampNeg p0))) → im_lk L' 5 = some (.int x6) → ia (tb_G L xs) (dep + 1) J_MSquareRows_laySegment (rwV w Q) (112, L', [.int z20], M7) := by
            intro z20 L' e21 l22 l23 l24 l25
            subst e21
            refine iq_istore hS 114 J_MSquareRows_laySegment_d112 (by decide) rfl ?_
            refine iq_iconst hS 115 J_MSquareRows_laySegment_d114 (v := 0) (by decide +kernel) rfl ?_
            refine iq_istore hS 117 J_MSquareRows_laySegment_d115 (by decide) rfl ?_
            refine iq_iconst hS 118 J_MSquareRows_laySegment_d117 (v := 0) (by decide +kernel) rfl ?_
            refine iq_istore hS 120 J_MSquareRows_laySegment_d118 (by decide) rfl ?_
            obtain ⟨Q26, hQ26, h⟩ := bd1_ed h
            have K26 : ∀ (y27 : Int32) (L' : List (Nat × Value)), im_lk L' 0 = some (.ref 108) → im_lk L' 2 = some (.int p1) → im_lk L' 4 = some (.int (im_i M 117 (Int32.toNatClampNeg p0))) → im_lk L' 5 = some (.int x6) → im_lk L' 6 = some (.int ((if ((if ¬ (im_i M 117 (Int32.toNatClampNeg p0)) = 0 then (if ¬ (im_i M 117 (Int32.toNatClampNeg p0)) = 1 then 1 else 2) else 3) : Int32) ≤ (p1 - x6) then ((if ¬ (im_i M 117 (Int32.toNatClampNeg p0)) = 0 then (if ¬ (im_i M 117 (Int32.toNatClampNeg p0)) = 1 then 1 else 2) else 3) : Int32) else (p1 - x6)) : Int32)) → im_lk L' 7 = some (.int y27) → Q26 y27 → ia (tb_G L xs) (dep + 1) J_MSquareRows_laySegment (rwV w Q) (200, L', [], M7) := by
              intro y27 L' l28 l29 l30 l31 l32 l33 h
              replace h := hQ26 _ h
              refine iq_aload_n hS 201 J_MSquareRows_laySegment_d200 l28 rfl ?_
              refine iq_iload hS 203 J_MSquareRows_laySegment_d201 l33 rfl ?_
              refine iq_iload hS 205 J_MSquareRows_laySegment_d203 l30 rfl ?_
              have J34 : ∀ (z35 : Int32) (L' : List (Nat × Value)), z35 = ((if ¬ (im_i M 117 (Int32.toNatClampNeg p0)) = 0 then (if ¬ (im_i M 117 (Int32.toNatClampNeg p0)) = 1 then 8 else (((5 : Int32) * ((if ((if ¬ (im_i M 117 (Int32.toNatClampNeg p0)) = 0 then (if ¬ (im_i M 117 (Int32.toNatClampNeg p0)) = 1 then 1 else 2) else 3) : Int32) ≤ (p1 - x6) then ((if ¬ (im_i M 117 (Int32.toNatClampNeg p0)) = 0 then (if ¬ (im_i M 117 (Int32.toNatClampNeg p0)) = 1 then 1 else 2) else 3) : Int32) else (p1 - x6)) : Int32)) + 1)) else (((3 : Int32) * ((if ((if ¬ (im_i M 117 (Int32.toNatClampNeg p0)) = 0 then (if ¬ (im_i M 117 (Int32.toNatClampNeg p0)) = 1 then 1 else 2) else 3) : Int32) ≤ (p1 - x6) then ((if ¬ (im_i M 117 (Int32.toNatClampNeg p0)) = 0 then (if ¬ (im_i M 117 (Int32.toNatClampNeg p0)) = 1 then 1 else 2) else 3) : Int32) else (p1 - x6)) : Int32)) + 1)) : Int32) → im_lk L' 0 = some (.ref 108) → im_lk L' 2 = some (.int p1) → im_lk L' 4 = some (.int (im_i M 117 (Int32.toNatClampNeg p0))) → im_lk L' 5 = some (.int x6) → im_lk L' 6 = some (.int ((if ((if ¬ (im_i M 117 (Int32.toNatClampNeg p0)) = 0 then (if ¬ (im_i M 117 (Int32.toNatClampNeg p0)) = 1 then 1 else 2) else 3) : Int32) ≤ (p1 - x6) then ((if ¬ (im_i M 117 (Int32.toNatClampNeg p0)) = 0 then (if ¬ (im_i M 117 (Int32.toNatClampNeg p0)) = 1 then 1 else 2) else 3) : Int32) else (p1 - x6)) : Int32)) → ia (tb_G L xs) (dep + 1) J_MSquareRows_laySegment (rwV w Q) (234, L', [.int z35, .int y27, .ref 108], M7) := by
                intro z35 L' e36 l37 l38 l39 l40 l41
                subst e36
                obtain ⟨Q42, hQ42, h⟩ := bd1_ed h
                refine iq_cwV hS 237 J_MSquareRows_laySegment_d234 rfl (pr_inst (vs := [_, _]) lc_16_130 lT_407 rfl rfl (by decide) (by decide) rfl (Nat.le_of_ble_eq_true rfl) (Nat.le_of_ble_eq_true rfl) (fun _ => Or.inl (pr_b (ka_108 hM7) (by decide) rfl))) (f_MSquareRows_lay_ok (dep := dep + 0) hM7 h) rfl ?_
                intro M42 hM42 h
                replace h := hQ42 _ h
                refine iq_iload hS 239 J_MSquareRows_laySegment_d237 l40 rfl ?_
                refine iq_iload hS 241 J_MSquareRows_laySegment_d239 l41 rfl ?_
                refine iq_iadd hS 242 J_MSquareRows_laySegment_d241 rfl ?_
                refine iq_istore hS 244 J_MSquareRows_laySegment_d242 (by decide) rfl ?_
                refine iq_goto hS J_MSquareRows_laySegment_d244 (t := 66) rfl ?_
                exact ih _ _ _ hM42 (lk_1r l37 (by decide)) (lk_1i l38 (by decide)) (lk_1i l39 (by decide)) lk_1s (lq_l h)
              refine iq_if_ne hS 208 J_MSquareRows_laySegment_d205 (t := 217) rfl (fun q205 => ?_) rfl (fun q205 => ?_)
              · refine iq_iload hS 219 J_MSquareRows_laySegment_d217 l30 rfl ?_
                refine iq_iconst hS 220 J_MSquareRows_laySegment_d219 (v := 1) (by decide +kernel) rfl ?_
                refine iq_icmp_ne hS 223 J_MSquareRows_laySegment_d220 (t := 232) rfl (fun q220 => ?_) rfl (fun q220 => ?_)
                · refine iq_bipush hS 234 J_MSquareRows_laySegment_d232 (v := 8) (by decide +kernel) rfl ?_
                  exact J34 _ _ (by simp only [if_pos q205, if_pos q220]) l28 l29 l30 l31 l32
                · refine iq_iconst hS 224 J_MSquareRows_laySegment_d223 (v := 5) (by decide +kernel) rfl ?_
                  refine iq_iload hS 226 J_MSquareRows_laySegment_d224 l32 rfl ?_
                  refine iq_imul hS 227 J_MSquareRows_laySegment_d226 rfl ?_
                  refine iq_iconst hS 228 J_MSquareRows_laySegment_d227 (v := 1) (by decide +kernel) rfl ?_
                  refine iq_iadd hS 229 J_MSquareRows_laySegment_d228 rfl ?_
                  refine iq_goto hS J_MSquareRows_laySegment_d229 (t := 234) rfl ?_
                  exact J34 _ _ (by simp only [if_pos q205, if_neg q220]) l28 l29 l30 l31 l32
              · refine iq_iconst hS 209 J_MSquareRows_laySegment_d208 (v := 3) (by decide +kernel) rfl ?_
                refine iq_iload hS 211 J_MSquareRows_laySegment_d209 l32 rfl ?_
                refine iq_imul hS 212 J_MSquareRows_laySegment_d211 rfl ?_
                refine iq_iconst hS 213 J_MSquareRows_laySegment_d212 (v := 1) (by decide +kernel) rfl ?_
                refine iq_iadd hS 214 J_MSquareRows_laySegment_d213 rfl ?_
                refine iq_goto hS J_MSquareRows_laySegment_d214 (t := 234) rfl ?_
                exact J34 _ _ (by simp only [if_neg q205]) l28 l29 l30 l31 l32
            obtain ⟨r26, hr26, hq26⟩ := h
            obtain ⟨n26, hn26⟩ := lp_n hr26
            have I26 : ∀ (n : Nat) (x43 : Int32) (x44 : Int32) (L' : List (Nat × Value)), im_lk L' 0 = some (.ref 108) → im_lk L' 2 = some (.int p1) → im_lk L' 4 = some (.int (im_i M 117 (Int32.toNatClampNeg p0))) → im_lk L' 5 = some (.int x6) → im_lk L' 6 = some (.int ((if ((if ¬ (im_i M 117 (Int32.toNatClampNeg p0)) = 0 then (if ¬ (im_i M 117 (Int32.toNatClampNeg p0)) = 1 then 1 else 2) else 3) : Int32) ≤ (p1 - x6) then ((if ¬ (im_i M 117 (Int32.toNatClampNeg p0)) = 0 then (if ¬ (im_i M 117 (Int32.toNatClampNeg p0)) = 1 then 1 else 2) else 3) : Int32) else (p1 - x6)) : Int32)) → im_lk L' 7 = some (.int x43) → im_lk L' 8 = some (.int x44) → lpn (uc2 (f_MSquareRows_laySegment_L120 p1 (im_i M 117 (Int32.toNatClampNeg p0)) x6 ((if ((if ¬ (im_i M 117 (Int32.toNatClampNeg p0)) = 0 then (if ¬ (im_i M 117 (Int32.toNatClampNeg p0)) = 1 then 1 else 2) else 3) : Int32) ≤ (p1 - x6) then ((if ¬ (im_i M 117 (Int32.toNatClampNeg p0)) = 0 then (if ¬ (im_i M 117 (Int32.toNatClampNeg p0)) = 1 then 1 else 2) else 3) : Int32) else (p1 - x6)) : Int32) M7)) n (x43, x44) = some r26 → ia (tb_G L xs) (dep + 1) J_MSquareRows_laySegment (rwV w Q) (120, L', [], M7) := by
              intro n
              induction n with
              | zero => intro x43 x44 L' l45 l46 l47 l48 l49 l50 l51 hn; exact (lpn_0 hn).elim
              | succ n ih =>
                intro x43 x44 L' l45 l46 l47 l48 l49 l50 l51 hn
                have h := lpn_ed2 hn
                unfold f_MSquareRows_laySegment_L120 at h
                refine iq_iload hS 122 J_MSquareRows_laySegment_d120 l51 rfl ?_
                refine iq_iload hS 124 J_MSquareRows_laySegment_d122 l49 rfl ?_
                refine iq_icmp_ge hS 127 J_MSquareRows_laySegment_d124 (t := 200) rfl (fun q124 => ?_) rfl (fun q124 => ?_)
                · replace h := ed_pos q124 h
                  exact K26 _ _ l45 l46 l47 l48 l49 l50 (lq_r h hq26)
                · replace h := ed_neg q124 h
                  refine iq_iload hS 129 J_MSquareRows_laySegment_d127 l47 rfl ?_
                  obtain ⟨Q52, hQ52, h⟩ := bd1_ed h
                  have J52 : ∀ (y54 : Int32) (L' : List (Nat × Value)), im_lk L' 0 = some (.ref 108) → im_lk L' 2 = some (.int p1) → im_lk L' 4 = some (.int (im_i M 117 (Int32.toNatClampNeg p0))) → im_lk L' 5 = some (.int x6) → im_lk L' 6 = some (.int ((if ((if ¬ (im_i M 117 (Int32.toNatClampNeg p0)) = 0 then (if ¬ (im_i M 117 (Int32.toNatClampNeg p0)) = 1 then 1 else 2) else 3) : Int32) ≤ (p1 - x6) then ((if ¬ (im_i M 117 (Int32.toNatClampNeg p0)) = 0 then (if ¬ (im_i M 117 (Int32.toNatClampNeg p0)) = 1 then 1 else 2) else 3) : Int32) else (p1 - x6)) : Int32)) → im_lk L' 8 = some (.int x44) → Q52 y54 → ia (tb_G L xs) (dep + 1) J_MSquareRows_laySegment (rwV w Q) (192, L', [.int y54], M7) := by
                    intro y54 L' l55 l56 l57 l58 l59 l60 h
                    replace h := hQ52 _ h
                    refine iq_istore hS 194 J_MSquareRows_laySegment_d192 (by decide) rfl ?_
                    refine iq_iincv hS 197 J_MSquareRows_laySegment_d194 (c := 1) (by decide +kernel) (lk_1i l60 (by decide)) (by decide) rfl ?_
                    refine iq_goto hS J_MSquareRows_laySegment_d197 (t := 120) rfl ?_
                    exact ih _ _ _ (lk_1r (lk_1r l55 (by decide)) (by decide)) (lk_1i (lk_1i l56 (by decide)) (by decide)) (lk_1i (lk_1i l57 (by decide)) (by decide)) (lk_1i (lk_1i l58 (by decide)) (by decide)) (lk_1i (lk_1i l59 (by decide)) (by decide)) (lk_1i lk_1s (by decide)) lk_1s (lq_l h)
                  refine iq_if_ne hS 132 J_MSquareRows_laySegment_d129 (t := 154) rfl (fun q129 => ?_) rfl (fun q129 => ?_)
                  · replace h := ed_pos q129 h
                    refine iq_iload hS 156 J_MSquareRows_laySegment_d154 l47 rfl ?_
                    refine iq_iconst hS 157 J_MSquareRows_laySegment_d156 (v := 1) (by decide +kernel) rfl ?_
                    refine iq_icmp_ne hS 160 J_MSquareRows_laySegment_d157 (t := 182) rfl (fun q157 => ?_) rfl (fun q157 => ?_)
                    · replace h := ed_pos q157 h
                      refine iq_aload_n hS 183 J_MSquareRows_laySegment_d182 l45 rfl ?_
                      refine iq_getR hS 186 J_MSquareRows_laySegment_d183 lf_16_16 (Or.inr ⟨_, rfl⟩) (ka_108 hM7) (ra_108_3 hM7) rfl ?_
                      refine iq_iload hS 188 J_MSquareRows_laySegment_d186 l48 rfl ?_
                      refine iq_iload hS 190 J_MSquareRows_laySegment_d188 l51 rfl ?_
                      refine iq_iadd hS 191 J_MSquareRows_laySegment_d190 rfl ?_
                      obtain ⟨g191, h⟩ := ed_gd h
                      refine iq_iaload hS 192 J_MSquareRows_laySegment_d191 ⟨(ka_111 hM7).1, (ka_111 hM7).2, g191.1, ix_lt (kl_111 hM7) g191.2⟩ rfl ?_
                      exact J52 _ _ l45 l46 l47 l48 l49 l51 (ed_some h)
                    · replace h := ed_neg q157 h
                      refine iq_bipush hS 162 J_MSquareRows_laySegment_d160 (v := 45) (by decide +kernel) rfl ?_
                      refine iq_iload hS 164 J_MSquareRows_laySegment_d162 l50 rfl ?_
                      refine iq_imul hS 165 J_MSquareRows_laySegment_d164 rfl ?_
                      refine iq_aload_n hS 166 J_MSquareRows_laySegment_d165 l45 rfl ?_
                      refine iq_getR hS 169 J_MSquareRows_laySegment_d166 lf_16_16 (Or.inr ⟨_, rfl⟩) (ka_108 hM7) (ra_108_3 hM7) rfl ?_
                      refine iq_iload hS 171 J_MSquareRows_laySegment_d169 l48 rfl ?_
                      refine iq_iload hS 173 J_MSquareRows_laySegment_d171 l51 rfl ?_
                      refine iq_iadd hS 174 J_MSquareRows_laySegment_d173 rfl ?_
                      obtain ⟨g174, h⟩ := ed_gd h
                      refine iq_iaload hS 175 J_MSquareRows_laySegment_d174 ⟨(ka_111 hM7).1, (ka_111 hM7).2, g174.1, ix_lt (kl_111 hM7) g174.2⟩ rfl ?_
                      obtain ⟨Q53, hQ53, h⟩ := bd1_ed h
                      refine iq_cpI hS 178 J_MSquareRows_laySegment_d175 rfl (pr_stat (vs := [_]) lc_16_93 lT_396 rfl rfl (by decide) rfl (Nat.le_of_ble_eq_true rfl) (Nat.le_of_ble_eq_true rfl)) (f_MSquareRows_signOf_ok (dep := dep + 0) hM7 h) rfl ?_
                      intro x53 h
                      replace h := hQ53 _ h
                      refine iq_iadd hS 179 J_MSquareRows_laySegment_d178 rfl ?_
                      refine iq_goto hS J_MSquareRows_laySegment_d179 (t := 192) rfl ?_
                      exact J52 _ _ l45 l46 l47 l48 l49 l51 (ed_some h)
                  · replace h := ed_neg q129 h
                    refine iq_bipush hS 134 J_MSquareRows_laySegment_d132 (v := 10) (by decide +kernel) rfl ?_
                    refine iq_iload hS 136 J_MSquareRows_laySegment_d134 l50 rfl ?_
                    refine iq_imul hS 137 J_MSquareRows_laySegment_d136 rfl ?_
                    refine iq_aload_n hS 138 J_MSquareRows_laySegment_d137 l45 rfl ?_
                    refine iq_getR hS 141 J_MSquareRows_laySegment_d138 lf_16_16 (Or.inr ⟨_, rfl⟩) (ka_108 hM7) (ra_108_3 hM7) rfl ?_
                    refine iq_iload hS 143 J_MSquareRows_laySegment_d141 l48 rfl ?_
                    refine iq_iload hS 145 J_MSquareRows_laySegment_d143 l51 rfl ?_
                    refine iq_iadd hS 146 J_MSquareRows_laySegment_d145 rfl ?_
                    obtain ⟨g146, h⟩ := ed_gd h
                    refine iq_iaload hS 147 J_MSquareRows_laySegment_d146 ⟨(ka_111 hM7).1, (ka_111 hM7).2, g146.1, ix_lt (kl_111 hM7) g146.2⟩ rfl ?_
                    refine iq_iadd hS 148 J_MSquareRows_laySegment_d147 rfl ?_
                    refine iq_bipush hS 150 J_MSquareRows_laySegment_d148 (v := 48) (by decide +kernel) rfl ?_
                    refine iq_isub hS 151 J_MSquareRows_laySegment_d150 rfl ?_
                    refine iq_goto hS J_MSquareRows_laySegment_d151 (t := 192) rfl ?_
                    exact J52 _ _ l45 l46 l47 l48 l49 l51 (ed_some h)
            exact I26 n26 _ _ _ (lk_1r (lk_1r (lk_1r l22 (by decide)) (by decide)) (by decide)) (lk_1i (lk_1i (lk_1i l23 (by decide)) (by decide)) (by decide)) (lk_1i (lk_1i (lk_1i l24 (by decide)) (by decide)) (by decide)) (lk_1i (lk_1i (lk_1i l25 (by decide)) (by decide)) (by decide)) (lk_1i (lk_1i lk_1s (by decide)) (by decide)) (lk_1i lk_1s (by decide)) lk_1s hn26
          refine iq_icmp_le hS 103 J_MSquareRows_laySegment_d100 (t := 110) rfl (fun q100 => ?_) rfl (fun q100 => ?_)
          · refine iq_iload hS 112 J_MSquareRows_laySegment_d110 lk_1s rfl ?_
            exact J19 _ _ (by simp only [if_pos q100]) (lk_1r l15 (by decide)) (lk_1i l16 (by decide)) (lk_1i l17 (by decide)) (lk_1i l18 (by decide))
          · refine iq_iload_n hS 104 J_MSquareRows_laySegment_d103 (lk_1i l16 (by decide)) rfl ?_
            refine iq_iload hS 106 J_MSquareRows_laySegment_d104 (lk_1i l18 (by decide)) rfl ?_
            refine iq_isub hS 107 J_MSquareRows_laySegment_d106 rfl ?_
            refine iq_goto hS J_MSquareRows_laySegment_d107 (t := 112) rfl ?_
            exact J19 _ _ (by simp only [if_neg q100]) (lk_1r l15 (by decide)) (lk_1i l16 (by decide)) (lk_1i l17 (by decide)) (lk_1i l18 (by decide))
        refine iq_if_ne hS 77 J_MSquareRows_laySegment_d74 (t := 81) rfl (fun q74 => ?_) rfl (fun q74 => ?_)
        · refine iq_iload hS 83 J_MSquareRows_laySegment_d81 l10 rfl ?_
          refine iq_iconst hS 84 J_MSquareRows_laySegment_d83 (v := 1) (by decide +kernel) rfl ?_
          refine iq_icmp_ne hS 87 J_MSquareRows_laySegment_d84 (t := 91) rfl (fun q84 => ?_) rfl (fun q84 => ?_)
          · refine iq_iconst hS 92 J_MSquareRows_laySegment_d91 (v := 1) (by decide +kernel) rfl ?_
            exact J12 _ _ (by simp only [if_pos q74, if_pos q84]) l8 l9 l10 l11
          · refine iq_iconst hS 88 J_MSquareRows_laySegment_d87 (v := 2) (by decide +kernel) rfl ?_
            refine iq_goto hS J_MSquareRows_laySegment_d88 (t := 92) rfl ?_
            exact J12 _ _ (by simp only [if_pos q74, if_neg q84]) l8 l9 l10 l11
        · refine iq_iconst hS 78 J_MSquareRows_laySegment_d77 (v := 3) (by decide +kernel) rfl ?_
          refine iq_goto hS J_MSquareRows_laySegment_d78 (t := 92) rfl ?_
          exact J12 _ _ (by simp only [if_neg q74]) l8 l9 l10 l11
  exact I4 n4 _ _ _ hM3 (lk_1r (lk_1r l0 (by decide)) (by decide)) (lk_1i (lk_1i l2 (by decide)) (by decide)) (lk_1i lk_1s (by decide)) lk_1s hn4
theorem f_MSquareRows_laySegment_fr {p0 : Int32} {p1 : Int32} {p2 : Int32} {M : im_M} {r : im_M} (h : f_MSquareRows_laySegment p0 p1 p2 M = some r) : fr 789229122497293799536635442041454592 [(108, 13), (108, 19)] M r := by
  replace h : ed (f_MSquareRows_laySegment p0 p1 p2 M) (fun x => x = r) := ⟨r, h, rfl⟩
  unfold f_MSquareRows_laySegment at h
  obtain ⟨g5, h⟩ := ed_gd h
  obtain ⟨g18, h⟩ := ed_gd h
  obtain ⟨g30, h⟩ := ed_gd h
  obtain ⟨Q1, hQ1, h⟩ := bd1_ed h
  obtain ⟨M1, e1, h⟩ := h
  replace h := hQ1 _ h
  obtain ⟨Q2, hQ2, h⟩ := bd1_ed h
  obtain ⟨x2, e2, h⟩ := h
  replace h := hQ2 _ h
  obtain ⟨Q3, hQ3, h⟩ := bd1_ed h
  obtain ⟨M3, e3, h⟩ := h
  replace h := hQ3 _ h
  obtain ⟨Q4, hQ4, h⟩ := bd1_ed h
  have K4 : ∀ (M5 : im_M), fr 789229122497293799536635442041454592 [(108, 13), (108, 19)] M M5 → Q4 M5 → fr 789229122497293799536635442041454592 [(108, 13), (108, 19)] M r := by
    intro M5 hM5 h
    replace h := hQ4 _ h
    exact fr_retV h hM5
  obtain ⟨r4, hr4, hq4⟩ := h
  obtain ⟨n4, hn4⟩ := lp_n hr4
  have I4 : ∀ (n : Nat) (x6 : Int32) (M7 : im_M), fr 789229122497293799536635442041454592 [(108, 13), (108, 19)] M M7 → lpn (uc2 (f_MSquareRows_laySegment_L66 p1 (im_i M 117 (Int32.toNatClampNeg p0)))) n (x6, M7) = some r4 → fr 789229122497293799536635442041454592 [(108, 13), (108, 19)] M r := by
    intro n
    induction n with
    | zero => intro x6 M7 hM7 hn; exact (lpn_0 hn).elim
    | succ n ih =>
      intro x6 M7 hM7 hn
      have h := lpn_ed2 hn
      unfold f_MSquareRows_laySegment_L66 at h
      by_cases q69 : p1 ≤ x6
      · replace h := ed_pos q69 h
        exact K4 _ hM7 (lq_r h hq4)
      · replace h := ed_neg q69 h
        obtain ⟨Q10, hQ10, h⟩ := bd1_ed h
        have K10 : ∀ (y11 : Int32), Q10 y11 → fr 789229122497293799536635442041454592 [(108, 13), (108, 19)] M r := by
          intro y11 h
          replace h := hQ10 _ h
          obtain ⟨Q13, hQ13, h⟩ := bd1_ed h
          obtain ⟨M13, e13, h⟩ := h
          replace h := hQ13 _ h
          exact ih _ _ (fr_tr (fr_mono (by decide) (by decide +kernel) (f_MSquareRows_lay_fr e13)) hM7) (lq_l h)
        obtain ⟨r10, hr10, hq10⟩ := h
        obtain ⟨n10, hn10⟩ := lp_n hr10
        have I10 : ∀ (n : Nat) (x14 : Int32) (x15 : Int32), lpn (uc2 (f_MSquareRows_laySegment_L120 p1 (im_i M 117 (Int32.toNatClampNeg p0)) x6 ((if ((if ¬ (im_i M 117 (Int32.toNatClampNeg p0)) = 0 then (if ¬ (im_i M 117 (Int32.toNatClampNeg p0)) = 1 then 1 else 2) else 3) : Int32) ≤ (p1 - x6) then ((if ¬ (im_i M 117 (Int32.toNatClampNeg p0)) = 0 then (if ¬ (im_i M 117 (Int32.toNatClampNeg p0)) = 1 then 1 else 2) else 3) : Int32) else (p1 - x6)) : Int32) M7)) n (x14, x15) = some r10 → fr 789229122497293799536635442041454592 [(108, 13), (108, 19)] M r := by
          intro n
          induction n with
          | zero => intro x14 x15 hn; exact (lpn_0 hn).elim
          | succ n ih =>
            intro x14 x15 hn
            have h := lpn_ed2 hn
            unfold f_MSquareRows_laySegment_L120 at h
            by_cases q124 : ((if ((if ¬ (im_i M 117 (Int32.toNatClampNeg p0)) = 0 then (if ¬ (im_i M 117 (Int32.toNatClampNeg p0)) = 1 then 1 else 2) else 3) : Int32) ≤ (p1 - x6) then ((if ¬ (im_i M 117 (Int32.toNatClampNeg p0)) = 0 then (if ¬ (im_i M 117 (Int32.toNatClampNeg p0)) = 1 then 1 else 2) else 3) : Int32) else (p1 - x6)) : Int32) ≤ x15
            · replace h := ed_pos q124 h
              exact K10 _ (lq_r h hq10)
            · replace h := ed_neg q124 h
              obtain ⟨Q16, hQ16, h⟩ := bd1_ed h
              have J16 : ∀ (y18 : Int32), Q16 y18 → fr 789229122497293799536635442041454592 [(108, 13), (108, 19)] M r := by
                intro y18 h
                replace h := hQ16 _ h
                exact ih _ _ (lq_l h)
              by_cases q129 : ¬ (im_i M 117 (Int32.toNatClampNeg p0)) = 0
              · replace h := ed_pos q129 h
                by_cases q157 : ¬ (im_i M 117 (Int32.toNatClampNeg p0)) = 1
                · replace h := ed_pos q157 h
                  obtain ⟨g191, h⟩ := ed_gd h
                  exact J16 _ (ed_some h)
                · replace h := ed_neg q157 h
                  obtain ⟨g174, h⟩ := ed_gd h
                  obtain ⟨Q17, hQ17, h⟩ := bd1_ed h
                  obtain ⟨x17, e17, h⟩ := h
                  replace h := hQ17 _ h
                  exact J16 _ (ed_some h)
              · replace h := ed_neg q129 h
                obtain ⟨g146, h⟩ := ed_gd h
                exact J16 _ (ed_some h)
        exact I10 n10 _ _ hn10
  exact I4 n4 _ _ (fr_tr (fr_mono (by decide) (by decide +kernel) (f_MSquareRows_lay_fr e3)) (fr_tr (fr_mono (by decide) (by decide +kernel) (f_MSquareRows_lay_fr e1)) (fr_F (by decide) (fr_I (by decide) (fr_I (by decide) fr_refl))))) hn4
noncomputable def f_MSquareRows_layAll_L2 (v2 : Int32) (v3 : Int32) (x4 : Int32) (M5 : im_M) : Option ((Int32 × im_M) ⊕ (im_M)) := if 3800 ≤ x4 then some (.inr M5) else gd (inb x4 3800) <| some (.inl ((x4 + 1), (im_setI M5 119 (Int32.toNatClampNeg x4) 0)))
noncomputable def f_MSquareRows_layAll_L49 (v13 : Int32) (v14 : Int32) (v15 : Int32) (M17 : im_M) (x16 : Int32) : Option ((Int32) ⊕ (Int32)) := if (im_i M17 108 4) ≤ x16 then some (.inr x16) else gd (inb x16 3000) <| gd (inb v15 3000) <| if ¬ (im_i M17 117 (Int32.toNatClampNeg x16)) = (im_i M17 117 (Int32.toNatClampNeg v15)) then some (.inr x16) else some (.inl (x16 + 1))
noncomputable def f_MSquareRows_layAll_L36 (v8 : Int32) (v9 : Int32) (x10 : Int32) (M11 : im_M) : Option ((Int32 × im_M) ⊕ (im_M)) := if (im_i M11 108 4) ≤ x10 then some (.inr M11) else bd1 (lp (uc1 (f_MSquareRows_layAll_L49 v8 v9 x10 M11)) (x10 + 1)) fun (y18 : Int32) => bd1 (f_MSquareRows_rank v8 M11) fun (x19 : Int32) => bd1 (f_MSquareRows_laySegment x10 y18 x19 M11) fun (M20 : im_M) => some (.inl (y18, M20))
noncomputable def f_MSquareRows_layAll_L135 (v26 : Int32) (M27 : im_M) : Option ((im_M) ⊕ (im_M)) := if ((im_i M27 108 19) - (im_i M27 108 19) / 8 * 8) = 0 then some (.inr M27) else some (.inl (im_setI M27 108 19 ((im_i M27 108 19) + 1)))
noncomputable def f_MSquareRows_layAll_L161 (v30 : Int32) (x31 : Int32) (M32 : im_M) : Option ((Int32 × im_M) ⊕ (im_M)) := if v30 ≤ (im_i M32 108 19) then some (.inr M32) else bd1 (f_MSquareRows_lay ((if x31 = 0 then 17 else 236) : Int32) 8 M32) fun (M34 : im_M) => some (.inl (((if ¬ x31 = 0 then 0 else 1) : Int32), M34))
noncomputable def f_MSquareRows_layAll (p0 : Int32) (p1 : Int32) (M : im_M) : Option (im_M) := bd1 (lp (uc2 (f_MSquareRows_layAll_L2 p0 p1)) (0, M)) fun (M6 : im_M) => bd1 (lp (uc2 (f_MSquareRows_layAll_L36 p0 p1)) (0, (im_setI (im_setI M6 108 19 0) 108 13 0))) fun (M21 : im_M) => bd1 (f_MSquareRows_holds p0 p1 M21) fun (x22 : Int32) => bd1 (f_MSquareRows_lay 0 ((if 4 ≤ (((8 : Int32) * x22) - (im_i M21 108 19)) then 4 else (((8 : Int32) * x22) - (im_i M21 108 19))) : Int32) M21) fun (M24 : im_M) => bd1 (lp (uc1 (f_MSquareRows_layAll_L135 ((8 : Int32) * x22))) M24) fun (M28 : im_M) => bd1 (lp (uc2 (f_MSquareRows_layAll_L161 ((8 : Int32) * x22))) (1, M28)) fun (M36 : im_M) => some M36
theorem J_MSquareRows_layAll_d0 : decode J_MSquareRows_layAll.2.1 0 = .ok (.iconst 0, 1) := by decide +kernel
theorem J_MSquareRows_layAll_d1 : decode J_MSquareRows_layAll.2.1 1 = .ok (.istore_n 3, 1) := by decide +kernel
theorem J_MSquareRows_layAll_d2 : decode J_MSquareRows_layAll.2.1 2 = .ok (.iload_n 3, 1) := by decide +kernel
theorem J_MSquareRows_layAll_d3 : decode J_MSquareRows_layAll.2.1 3 = .ok (.aload_n 0, 1) := by decide +kernel
theorem J_MSquareRows_layAll_d4 : decode J_MSquareRows_layAll.2.1 4 = .ok (.getfield 40, 3) := by decide +kernel
theorem J_MSquareRows_layAll_d7 : decode J_MSquareRows_layAll.2.1 7 = .ok (.arraylength, 1) := by decide +kernel
theorem J_MSquareRows_layAll_d8 : decode J_MSquareRows_layAll.2.1 8 = .ok (.if_icmp .ge 16, 3) := by decide +kernel
theorem J_MSquareRows_layAll_d11 : decode J_MSquareRows_layAll.2.1 11 = .ok (.aload_n 0, 1) := by decide +kernel
theorem J_MSquareRows_layAll_d12 : decode J_MSquareRows_layAll.2.1 12 = .ok (.getfield 40, 3) := by decide +kernel
theorem J_MSquareRows_layAll_d15 : decode J_MSquareRows_layAll.2.1 15 = .ok (.iload_n 3, 1) := by decide +kernel
theorem J_MSquareRows_layAll_d16 : decode J_MSquareRows_layAll.2.1 16 = .ok (.iconst 0, 1) := by decide +kernel
theorem J_MSquareRows_layAll_d17 : decode J_MSquareRows_layAll.2.1 17 = .ok (.iastore, 1) := by decide +kernel
theorem J_MSquareRows_layAll_d18 : decode J_MSquareRows_layAll.2.1 18 = .ok (.iinc 3 1, 3) := by decide +kernel
theorem J_MSquareRows_layAll_d21 : decode J_MSquareRows_layAll.2.1 21 = .ok (.goto (-19), 3) := by decide +kernel
theorem J_MSquareRows_layAll_d24 : decode J_MSquareRows_layAll.2.1 24 = .ok (.aload_n 0, 1) := by decide +kernel
theorem J_MSquareRows_layAll_d25 : decode J_MSquareRows_layAll.2.1 25 = .ok (.iconst 0, 1) := by decide +kernel
theorem J_MSquareRows_layAll_d26 : decode J_MSquareRows_layAll.2.1 26 = .ok (.putfield 124, 3) := by decide +kernel
theorem J_MSquareRows_layAll_d29 : decode J_MSquareRows_layAll.2.1 29 = .ok (.aload_n 0, 1) := by decide +kernel
theorem J_MSquareRows_layAll_d30 : decode J_MSquareRows_layAll.2.1 30 = .ok (.iconst 0, 1) := by decide +kernel
theorem J_MSquareRows_layAll_d31 : decode J_MSquareRows_layAll.2.1 31 = .ok (.putfield 127, 3) := by decide +kernel
theorem J_MSquareRows_layAll_d34 : decode J_MSquareRows_layAll.2.1 34 = .ok (.iconst 0, 1) := by decide +kernel
theorem J_MSquareRows_layAll_d35 : decode J_MSquareRows_layAll.2.1 35 = .ok (.istore_n 3, 1) := by decide +kernel
theorem J_MSquareRows_layAll_d36 : decode J_MSquareRows_layAll.2.1 36 = .ok (.iload_n 3, 1) := by decide +kernel
theorem J_MSquareRows_layAll_d37 : decode J_MSquareRows_layAll.2.1 37 = .ok (.aload_n 0, 1) := by decide +kernel
theorem J_MSquareRows_layAll_d38 : decode J_MSquareRows_layAll.2.1 38 = .ok (.getfield 77, 3) := by decide +kernel
theorem J_MSquareRows_layAll_d41 : decode J_MSquareRows_layAll.2.1 41 = .ok (.if_icmp .ge 56, 3) := by decide +kernel
theorem J_MSquareRows_layAll_d44 : decode J_MSquareRows_layAll.2.1 44 = .ok (.iload_n 3, 1) := by decide +kernel
theorem J_MSquareRows_layAll_d45 : decode J_MSquareRows_layAll.2.1 45 = .ok (.iconst 1, 1) := by decide +kernel
theorem J_MSquareRows_layAll_d46 : decode J_MSquareRows_layAll.2.1 46 = .ok (.iadd, 1) := by decide +kernel
theorem J_MSquareRows_layAll_d47 : decode J_MSquareRows_layAll.2.1 47 = .ok (.istore 4, 2) := by decide +kernel
theorem J_MSquareRows_layAll_d49 : decode J_MSquareRows_layAll.2.1 49 = .ok (.iload 4, 2) := by decide +kernel
theorem J_MSquareRows_layAll_d51 : decode J_MSquareRows_layAll.2.1 51 = .ok (.aload_n 0, 1) := by decide +kernel
theorem J_MSquareRows_layAll_d52 : decode J_MSquareRows_layAll.2.1 52 = .ok (.getfield 77, 3) := by decide +kernel
theorem J_MSquareRows_layAll_d55 : decode J_MSquareRows_layAll.2.1 55 = .ok (.if_icmp .ge 25, 3) := by decide +kernel
theorem J_MSquareRows_layAll_d58 : decode J_MSquareRows_layAll.2.1 58 = .ok (.aload_n 0, 1) := by decide +kernel
theorem J_MSquareRows_layAll_d59 : decode J_MSquareRows_layAll.2.1 59 = .ok (.getfield 34, 3) := by decide +kernel
theorem J_MSquareRows_layAll_d62 : decode J_MSquareRows_layAll.2.1 62 = .ok (.iload 4, 2) := by decide +kernel
theorem J_MSquareRows_layAll_d64 : decode J_MSquareRows_layAll.2.1 64 = .ok (.iaload, 1) := by decide +kernel
theorem J_MSquareRows_layAll_d65 : decode J_MSquareRows_layAll.2.1 65 = .ok (.aload_n 0, 1) := by decide +kernel
theorem J_MSquareRows_layAll_d66 : decode J_MSquareRows_layAll.2.1 66 = .ok (.getfield 34, 3) := by decide +kernel
theorem J_MSquareRows_layAll_d69 : decode J_MSquareRows_layAll.2.1 69 = .ok (.iload_n 3, 1) := by decide +kernel
theorem J_MSquareRows_layAll_d70 : decode J_MSquareRows_layAll.2.1 70 = .ok (.iaload, 1) := by decide +kernel
theorem J_MSquareRows_layAll_d71 : decode J_MSquareRows_layAll.2.1 71 = .ok (.if_icmp .ne 9, 3) := by decide +kernel
theorem J_MSquareRows_layAll_d74 : decode J_MSquareRows_layAll.2.1 74 = .ok (.iinc 4 1, 3) := by decide +kernel
theorem J_MSquareRows_layAll_d77 : decode J_MSquareRows_layAll.2.1 77 = .ok (.goto (-28), 3) := by decide +kernel
theorem J_MSquareRows_layAll_d80 : decode J_MSquareRows_layAll.2.1 80 = .ok (.aload_n 0, 1) := by decide +kernel
theorem J_MSquareRows_layAll_d81 : decode J_MSquareRows_layAll.2.1 81 = .ok (.iload_n 3, 1) := by decide +kernel
theorem J_MSquareRows_layAll_d82 : decode J_MSquareRows_layAll.2.1 82 = .ok (.iload 4, 2) := by decide +kernel
theorem J_MSquareRows_layAll_d84 : decode J_MSquareRows_layAll.2.1 84 = .ok (.iload_n 1, 1) := by decide +kernel
theorem J_MSquareRows_layAll_d85 : decode J_MSquareRows_layAll.2.1 85 = .ok (.invokestatic 134, 3) := by decide +kernel
theorem J_MSquareRows_layAll_d88 : decode J_MSquareRows_layAll.2.1 88 = .ok (.invokevirtual 137, 3) := by decide +kernel
theorem J_MSquareRows_layAll_d91 : decode J_MSquareRows_layAll.2.1 91 = .ok (.iload 4, 2) := by decide +kernel
theorem J_MSquareRows_layAll_d93 : decode J_MSquareRows_layAll.2.1 93 = .ok (.istore_n 3, 1) := by decide +kernel
theorem J_MSquareRows_layAll_d94 : decode J_MSquareRows_layAll.2.1 94 = .ok (.goto (-58), 3) := by decide +kernel
theorem J_MSquareRows_layAll_d97 : decode J_MSquareRows_layAll.2.1 97 = .ok (.bipush 8, 2) := by decide +kernel
theorem J_MSquareRows_layAll_d99 : decode J_MSquareRows_layAll.2.1 99 = .ok (.aload_n 0, 1) := by decide +kernel
theorem J_MSquareRows_layAll_d100 : decode J_MSquareRows_layAll.2.1 100 = .ok (.iload_n 1, 1) := by decide +kernel
theorem J_MSquareRows_layAll_d101 : decode J_MSquareRows_layAll.2.1 101 = .ok (.iload_n 2, 1) := by decide +kernel
theorem J_MSquareRows_layAll_d102 : decode J_MSquareRows_layAll.2.1 102 = .ok (.invokevirtual 141, 3) := by decide +kernel
theorem J_MSquareRows_layAll_d105 : decode J_MSquareRows_layAll.2.1 105 = .ok (.imul, 1) := by decide +kernel
theorem J_MSquareRows_layAll_d106 : decode J_MSquareRows_layAll.2.1 106 = .ok (.istore 4, 2) := by decide +kernel
theorem J_MSquareRows_layAll_d108 : decode J_MSquareRows_layAll.2.1 108 = .ok (.aload_n 0, 1) := by decide +kernel
theorem J_MSquareRows_layAll_d109 : decode J_MSquareRows_layAll.2.1 109 = .ok (.iconst 0, 1) := by decide +kernel
theorem J_MSquareRows_layAll_d110 : decode J_MSquareRows_layAll.2.1 110 = .ok (.iload 4, 2) := by decide +kernel
theorem J_MSquareRows_layAll_d112 : decode J_MSquareRows_layAll.2.1 112 = .ok (.aload_n 0, 1) := by decide +kernel
theorem J_MSquareRows_layAll_d113 : decode J_MSquareRows_layAll.2.1 113 = .ok (.getfield 124, 3) := by decide +kernel
theorem J_MSquareRows_layAll_d116 : decode J_MSquareRows_layAll.2.1 116 = .ok (.isub, 1) := by decide +kernel
theorem J_MSquareRows_layAll_d117 : decode J_MSquareRows_layAll.2.1 117 = .ok (.iconst 4, 1) := by decide +kernel
theorem J_MSquareRows_layAll_d118 : decode J_MSquareRows_layAll.2.1 118 = .ok (.if_icmp .ge 13, 3) := by decide +kernel
theorem J_MSquareRows_layAll_d121 : decode J_MSquareRows_layAll.2.1 121 = .ok (.iload 4, 2) := by decide +kernel
theorem J_MSquareRows_layAll_d123 : decode J_MSquareRows_layAll.2.1 123 = .ok (.aload_n 0, 1) := by decide +kernel
theorem J_MSquareRows_layAll_d124 : decode J_MSquareRows_layAll.2.1 124 = .ok (.getfield 124, 3) := by decide +kernel
theorem J_MSquareRows_layAll_d127 : decode J_MSquareRows_layAll.2.1 127 = .ok (.isub, 1) := by decide +kernel
theorem J_MSquareRows_layAll_d128 : decode J_MSquareRows_layAll.2.1 128 = .ok (.goto 4, 3) := by decide +kernel
theorem J_MSquareRows_layAll_d131 : decode J_MSquareRows_layAll.2.1 131 = .ok (.iconst 4, 1) := by decide +kernel
theorem J_MSquareRows_layAll_d132 : decode J_MSquareRows_layAll.2.1 132 = .ok (.invokevirtual 130, 3) := by decide +kernel
theorem J_MSquareRows_layAll_d135 : decode J_MSquareRows_layAll.2.1 135 = .ok (.aload_n 0, 1) := by decide +kernel
theorem J_MSquareRows_layAll_d136 : decode J_MSquareRows_layAll.2.1 136 = .ok (.getfield 124, 3) := by decide +kernel
theorem J_MSquareRows_layAll_d139 : decode J_MSquareRows_layAll.2.1 139 = .ok (.bipush 8, 2) := by decide +kernel
theorem J_MSquareRows_layAll_d141 : decode J_MSquareRows_layAll.2.1 141 = .ok (.irem, 1) := by decide +kernel
theorem J_MSquareRows_layAll_d142 : decode J_MSquareRows_layAll.2.1 142 = .ok (.ifCond .eq 16, 3) := by decide +kernel
theorem J_MSquareRows_layAll_d145 : decode J_MSquareRows_layAll.2.1 145 = .ok (.aload_n 0, 1) := by decide +kernel
theorem J_MSquareRows_layAll_d146 : decode J_MSquareRows_layAll.2.1 146 = .ok (.dup, 1) := by decide +kernel
theorem J_MSquareRows_layAll_d147 : decode J_MSquareRows_layAll.2.1 147 = .ok (.getfield 124, 3) := by decide +kernel
theorem J_MSquareRows_layAll_d150 : decode J_MSquareRows_layAll.2.1 150 = .ok (.iconst 1, 1) := by decide +kernel
theorem J_MSquareRows_layAll_d151 : decode J_MSquareRows_layAll.2.1 151 = .ok (.iadd, 1) := by decide +kernel
theorem J_MSquareRows_layAll_d152 : decode J_MSquareRows_layAll.2.1 152 = .ok (.putfield 124, 3) := by decide +kernel
theorem J_MSquareRows_layAll_d155 : decode J_MSquareRows_layAll.2.1 155 = .ok (.goto (-20), 3) := by decide +kernel
theorem J_MSquareRows_layAll_d158 : decode J_MSquareRows_layAll.2.1 158 = .ok (.iconst 1, 1) := by decide +kernel
theorem J_MSquareRows_layAll_d159 : decode J_MSquareRows_layAll.2.1 159 = .ok (.istore 5, 2) := by decide +kernel
theorem J_MSquareRows_layAll_d161 : decode J_MSquareRows_layAll.2.1 161 = .ok (.aload_n 0, 1) := by decide +kernel
theorem J_MSquareRows_layAll_d162 : decode J_MSquareRows_layAll.2.1 162 = .ok (.getfield 124, 3) := by decide +kernel
theorem J_MSquareRows_layAll_d165 : decode J_MSquareRows_layAll.2.1 165 = .ok (.iload 4, 2) := by decide +kernel
theorem J_MSquareRows_layAll_d167 : decode J_MSquareRows_layAll.2.1 167 = .ok (.if_icmp .ge 37, 3) := by decide +kernel
theorem J_MSquareRows_layAll_d170 : decode J_MSquareRows_layAll.2.1 170 = .ok (.aload_n 0, 1) := by decide +kernel
theorem J_MSquareRows_layAll_d171 : decode J_MSquareRows_layAll.2.1 171 = .ok (.iload 5, 2) := by decide +kernel
theorem J_MSquareRows_layAll_d173 : decode J_MSquareRows_layAll.2.1 173 = .ok (.ifCond .eq 9, 3) := by decide +kernel
theorem J_MSquareRows_layAll_d176 : decode J_MSquareRows_layAll.2.1 176 = .ok (.sipush 236, 3) := by decide +kernel
theorem J_MSquareRows_layAll_d179 : decode J_MSquareRows_layAll.2.1 179 = .ok (.goto 5, 3) := by decide +kernel
theorem J_MSquareRows_layAll_d182 : decode J_MSquareRows_layAll.2.1 182 = .ok (.bipush 17, 2) := by decide +kernel
theorem J_MSquareRows_layAll_d184 : decode J_MSquareRows_layAll.2.1 184 = .ok (.bipush 8, 2) := by decide +kernel
theorem J_MSquareRows_layAll_d186 : decode J_MSquareRows_layAll.2.1 186 = .ok (.invokevirtual 130, 3) := by decide +kernel
theorem J_MSquareRows_layAll_d189 : decode J_MSquareRows_layAll.2.1 189 = .ok (.iload 5, 2) := by decide +kernel
theorem J_MSquareRows_layAll_d191 : decode J_MSquareRows_layAll.2.1 191 = .ok (.ifCond .ne 7, 3) := by decide +kernel
theorem J_MSquareRows_layAll_d194 : decode J_MSquareRows_layAll.2.1 194 = .ok (.iconst 1, 1) := by decide +kernel
theorem J_MSquareRows_layAll_d195 : decode J_MSquareRows_layAll.2.1 195 = .ok (.goto 4, 3) := by decide +kernel
theorem J_MSquareRows_layAll_d198 : decode J_MSquareRows_layAll.2.1 198 = .ok (.iconst 0, 1) := by decide +kernel
theorem J_MSquareRows_layAll_d199 : decode J_MSquareRows_layAll.2.1 199 = .ok (.istore 5, 2) := by decide +kernel
theorem J_MSquareRows_layAll_d201 : decode J_MSquareRows_layAll.2.1 201 = .ok (.goto (-40), 3) := by decide +kernel
theorem J_MSquareRows_layAll_d204 : decode J_MSquareRows_layAll.2.1 204 = .ok (.return_, 1) := by decide +kernel
theorem f_MSquareRows_layAll_ok {L : Nat} {xs : Nat → Int32} {dep : Nat} {w : Bool} {p0 : Int32} {p1 : Int32} {M : im_M} {Q : im_M → Prop} (hM : lw_S w M) (h : ed (f_MSquareRows_layAll p0 p1 M) Q) : ia (tb_G L xs) (dep + 2) J_MSquareRows_layAll (rwV w Q) (0, lv_args 0 [.ref 108, .int p0, .int p1], [], M) := by
  have hS : im_St (tb_G L xs) (dep + 2) J_MSquareRows_layAll (ia (tb_G L xs) (dep + 2) J_MSquareRows_layAll (rwV w Q)) := ia_St
  unfold f_MSquareRows_layAll at h
  have l0 : im_lk (lv_args 0 [.ref 108, .int p0, .int p1]) 0 = some (.ref 108) := rfl
  have l1 : im_lk (lv_args 0 [.ref 108, .int p0, .int p1]) 1 = some (.int p0) := rfl
  have l2 : im_lk (lv_args 0 [.ref 108, .int p0, .int p1]) 2 = some (.int p1) := rfl
  refine iq_iconst hS 1 J_MSquareRows_layAll_d0 (v := 0) (by decide +kernel) rfl ?_
  refine iq_istore_n hS 2 J_MSquareRows_layAll_d1 (by decide) rfl ?_
  obtain ⟨Q1, hQ1, h⟩ := bd1_ed h
  have K1 : ∀ (M2 : im_M) (L' : List (Nat × Value)), lw_S w M2 → im_lk L' 0 = some (.ref 108) → im_lk L' 1 = some (.int p0) → im_lk L' 2 = some (.int p1) → Q1 M2 → ia (tb_G L xs) (dep + 2) J_MSquareRows_layAll (rwV w Q) (24, L', [], M2) := by
    intro M2 L' hM2 l3 l4 l5 h
    replace h := hQ1 _ h
    refine iq_aload_n hS 25 J_MSquareRows_layAll_d24 l3 rfl ?_
    refine iq_iconst hS 26 J_MSquareRows_layAll_d25 (v := 0) (by decide +kernel) rfl ?_
    refine iq_putI hS 29 J_MSquareRows_layAll_d26 lf_16_124 (Or.inl rfl) rfl (ka_108 hM2) rfl ?_
    refine iq_aload_n hS 30 J_MSquareRows_layAll_d29 l3 rfl ?_
    refine iq_iconst hS 31 J_MSquareRows_layAll_d30 (v := 0) (by decide +kernel) rfl ?_
    refine iq_putI hS 34 J_MSquareRows_layAll_d31 lf_16_127 (Or.inl rfl) rfl (ka_108 (lw_sI hM2)) rfl ?_
    refine iq_iconst hS 35 J_MSquareRows_layAll_d34 (v := 0) (by decide +kernel) rfl ?_
    refine iq_istore_n hS 36 J_MSquareRows_layAll_d35 (by decide) rfl ?_
    obtain ⟨Q6, hQ6, h⟩ := bd1_ed h
    have K6 : ∀ (M7 : im_M) (L' : List (Nat × Value)), lw_S w M7 → im_lk L' 0 = some (.ref 108) → im_lk L' 1 = some (.int p0) → im_lk L' 2 = some (.int p1) → Q6 M7 → ia (tb_G L xs) (dep + 2) J_MSquareRows_layAll (rwV w Q) (97, L', [], M7) := by
      intro M7 L' hM7 l8 l9 l10 h
      replace h := hQ6 _ h
      refine iq_bipush hS 99 J_MSquareRows_layAll_d97 (v := 8) (by decide +kernel) rfl ?_
      refine iq_aload_n hS 100 J_MSquareRows_layAll_d99 l8 rfl ?_
      refine iq_iload_n hS 101 J_MSquareRows_layAll_d100 l9 rfl ?_
      refine iq_iload_n hS 102 J_MSquareRows_layAll_d101 l10 rfl ?_
      obtain ⟨Q11, hQ11, h⟩ := bd1_ed h
      refine iq_cpI hS 105 J_MSquareRows_layAll_d102 rfl (pr_inst (vs := [_, _]) lc_16_141 lT_401 rfl rfl (by decide) (by decide) rfl (Nat.le_of_ble_eq_true rfl) (Nat.le_of_ble_eq_true rfl) (fun _ => Or.inl (pr_b (ka_108 hM7) (by decide) rfl))) (f_MSquareRows_holds_ok (dep := dep + 0) hM7 h) rfl ?_
      intro x11 h
      replace h := hQ11 _ h
      refine iq_imul hS 106 J_MSquareRows_layAll_d105 rfl ?_
      refine iq_istore hS 108 J_MSquareRows_layAll_d106 (by decide) rfl ?_
      refine iq_aload_n hS 109 J_MSquareRows_layAll_d108 (lk_1r l8 (by decide)) rfl ?_
      refine iq_iconst hS 110 J_MSquareRows_layAll_d109 (v := 0) (by decide +kernel) rfl ?_
      refine iq_iload hS 112 J_MSquareRows_layAll_d110 lk_1s rfl ?_
      refine iq_aload_n hS 113 J_MSquareRows_layAll_d112 (lk_1r l8 (by decide)) rfl ?_
      refine iq_getI hS 116 J_MSquareRows_layAll_d113 lf_16_124 (Or.inl rfl) (ka_108 hM7) rfl ?_
      refine iq_isub hS 117 J_MSquareRows_layAll_d116 rfl ?_
      refine iq_iconst hS 118 J_MSquareRows_layAll_d117 (v := 4) (by decide +kernel) rfl ?_
      have J12 : ∀ (z13 : Int32) (L' : List (Nat × Value)), z13 = ((if 4 ≤ (((8 : Int32) * x11) - (im_i M7 108 19)) then 4 else (((8 : Int32) * x11) - (im_i M7 108 19))) : Int32) → im_lk L' 0 = some (.ref 108) → im_lk L' 4 = some (.int ((8 : Int32) * x11)) → ia (tb_G L xs) (dep + 2) J_MSquareRows_layAll (rwV w Q) (132, L', [.int z13, .int 0, .ref 108], M7) := by
        intro z13 L' e14 l15 l16
        subst e14
        obtain ⟨Q17, hQ17, h⟩ := bd1_ed h
        refine iq_cwV hS 135 J_MSquareRows_layAll_d132 rfl (pr_inst (vs := [_, _]) lc_16_130 lT_407 rfl rfl (by decide) (by decide) rfl (Nat.le_of_ble_eq_true rfl) (Nat.le_of_ble_eq_true rfl) (fun _ => Or.inl (pr_b (ka_108 hM7) (by decide) rfl))) (f_MSquareRows_lay_ok (dep := dep + 1) hM7 h) rfl ?_
        intro M17 hM17 h
        replace h := hQ17 _ h
        obtain ⟨Q18, hQ18, h⟩ := bd1_ed h
        have K18 : ∀ (M19 : im_M) (L' : List (Nat × Value)), lw_S w M19 → im_lk L' 0 = some (.ref 108) → im_lk L' 4 = some (.int ((8 : Int32) * x11)) → Q18 M19 → ia (tb_G L xs) (dep + 2) J_MSquareRows_layAll (rwV w Q) (158, L', [], M19) := by
          intro M19 L' hM19 l20 l21 h
          replace h := hQ18 _ h
          refine iq_iconst hS 159 J_MSquareRows_layAll_d158 (v := 1) (by decide +kernel) rfl ?_
          refine iq_istore hS 161 J_MSquareRows_layAll_d159 (by decide) rfl ?_
          obtain ⟨Q22, hQ22, h⟩ := bd1_ed h
          have K22 : ∀ (M23 : im_M) (L' : List (Nat × Value)), lw_S w M23 → Q22 M23 → ia (tb_G L xs) (dep + 2) J_MSquareRows_layAll (rwV w Q) (204, L', [], M23) := by
            intro M23 L' hM23  h
            replace h := hQ22 _ h
            exact iq_ret J_MSquareRows_layAll_d204 rfl ⟨rfl, hM23, ed_some h⟩
          obtain ⟨r22, hr22, hq22⟩ := h
          obtain ⟨n22, hn22⟩ := lp_n hr22
          have I22 : ∀ (n : Nat) (x24 : Int32) (M25 : im_M) (L' : List (Nat × Value)), lw_S w M25 → im_lk L' 0 = some (.ref 108) → im_lk L' 4 = some (.int ((8 : Int32) * x11)) → im_lk L' 5 = some (.int x24) → lpn (uc2 (f_MSquareRows_layAll_L161 ((8 : Int32) * x11))) n (x24, M25) = some r22 → ia (tb_G L xs) (dep + 2) J_MSquareRows_layAll (rwV w Q) (161, L', [], M25) := by
            intro n
            induction n with
            | zero => intro x24 M25 L' hM25 l26 l27 l28 hn; exact (lpn_0 hn).elim
            | succ n ih =>
              intro x24 M25 L' hM25 l26 l27 l28 hn
              have h := lpn_ed2 hn
              unfold f_MSquareRows_layAll_L161 at h
              refine iq_aload_n hS 162 J_MSquareRows_layAll_d161 l26 rfl ?_
              refine iq_getI hS 165 J_MSquareRows_layAll_d162 lf_16_124 (Or.inl rfl) (ka_108 hM25) rfl ?_
              refine iq_iload hS 167 J_MSquareRows_layAll_d165 l27 rfl ?_
              refine iq_icmp_ge hS 170 J_MSquareRows_layAll_d167 (t := 204) rfl (fun q167 => ?_) rfl (fun q167 => ?_)
              · replace h := ed_pos q167 h
                exact K22 _ _ hM25  (lq_r h hq22)
              · replace h := ed_neg q167 h
                refine iq_aload_n hS 171 J_MSquareRows_layAll_d170 l26 rfl ?_
                refine iq_iload hS 173 J_MSquareRows_layAll_d171 l28 rfl ?_
                have J29 : ∀ (z30 : Int32) (L' : List (Nat × Value)), z30 = ((if x24 = 0 then 17 else 236) : Int32) → im_lk L' 0 = some (.ref 108) → im_lk L' 4 = some (.int ((8 : Int32) * x11)) → im_lk L' 5 = some (.int x24) → ia (tb_G L xs) (dep + 2) J_MSquareRows_layAll (rwV w Q) (184, L', [.int z30, .ref 108], M25) := by
                  intro z30 L' e31 l32 l33 l34
                  subst e31
                  refine iq_bipush hS 186 J_MSquareRows_layAll_d184 (v := 8) (by decide +kernel) rfl ?_
                  obtain ⟨Q35, hQ35, h⟩ := bd1_ed h
                  refine iq_cwV hS 189 J_MSquareRows_layAll_d186 rfl (pr_inst (vs := [_, _]) lc_16_130 lT_407 rfl rfl (by decide) (by decide) rfl (Nat.le_of_ble_eq_true rfl) (Nat.le_of_ble_eq_true rfl) (fun _ => Or.inl (pr_b (ka_108 hM25) (by decide) rfl))) (f_MSquareRows_lay_ok (dep := dep + 1) hM25 h) rfl ?_
                  intro M35 hM35 h
                  replace h := hQ35 _ h
                  refine iq_iload hS 191 J_MSquareRows_layAll_d189 l34 rfl ?_
                  have J36 : ∀ (z37 : Int32) (L' : List (Nat × Value)), z37 = ((if ¬ x24 = 0 then 0 else 1) : Int32) → im_lk L' 0 = some (.ref 108) → im_lk L' 4 = some (.int ((8 : Int32) * x11)) → ia (tb_G L xs) (dep + 2) J_MSquareRows_layAll (rwV w Q) (199, L', [.int z37], M35) := by
                    intro z37 L' e38 l39 l40
                    subst e38
                    refine iq_istore hS 201 J_MSquareRows_layAll_d199 (by decide) rfl ?_
                    refine iq_goto hS J_MSquareRows_layAll_d201 (t := 161) rfl ?_
                    exact ih _ _ _ hM35 (lk_1r l39 (by decide)) (lk_1i l40 (by decide)) lk_1s (lq_l h)
                  refine iq_if_ne hS 194 J_MSquareRows_layAll_d191 (t := 198) rfl (fun q191 => ?_) rfl (fun q191 => ?_)
                  · refine iq_iconst hS 199 J_MSquareRows_layAll_d198 (v := 0) (by decide +kernel) rfl ?_
                    exact J36 _ _ (by simp only [if_pos q191]) l32 l33
                  · refine iq_iconst hS 195 J_MSquareRows_layAll_d194 (v := 1) (by decide +kernel) rfl ?_
                    refine iq_goto hS J_MSquareRows_layAll_d195 (t := 199) rfl ?_
                    exact J36 _ _ (by simp only [if_neg q191]) l32 l33
                refine iq_if_eq hS 176 J_MSquareRows_layAll_d173 (t := 182) rfl (fun q173 => ?_) rfl (fun q173 => ?_)
                · refine iq_bipush hS 184 J_MSquareRows_layAll_d182 (v := 17) (by decide +kernel) rfl ?_
                  exact J29 _ _ (by simp only [if_pos q173]) l26 l27 l28
                · refine iq_sipush hS 179 J_MSquareRows_layAll_d176 (v := 236) (by decide +kernel) rfl ?_
                  refine iq_goto hS J_MSquareRows_layAll_d179 (t := 184) rfl ?_
                  exact J29 _ _ (by simp only [if_neg q173]) l26 l27 l28
          exact I22 n22 _ _ _ hM19 (lk_1r l20 (by decide)) (lk_1i l21 (by decide)) lk_1s hn22
        obtain ⟨r18, hr18, hq18⟩ := h
        obtain ⟨n18, hn18⟩ := lp_n hr18
        have I18 : ∀ (n : Nat)  (M41 : im_M) (L' : List (Nat × Value)), lw_S w M41 → im_lk L' 0 = some (.ref 108) → im_lk L' 4 = some (.int ((8 : Int32) * x11)) → lpn (uc1 (f_MSquareRows_layAll_L135 ((8 : Int32) * x11))) n M41 = some r18 → ia (tb_G L xs) (dep + 2) J_MSquareRows_layAll (rwV w Q) (135, L', [], M41) := by
          intro n
          induction n with
          | zero => intro  M41 L' hM41 l42 l43 hn; exact (lpn_0 hn).elim
          | succ n ih =>
            intro  M41 L' hM41 l42 l43 hn
            have h := lpn_ed1 hn
            unfold f_MSquareRows_layAll_L135 at h
            refine iq_aload_n hS 136 J_MSquareRows_layAll_d135 l42 rfl ?_
            refine iq_getI hS 139 J_MSquareRows_layAll_d136 lf_16_124 (Or.inl rfl) (ka_108 hM41) rfl ?_
            refine iq_bipush hS 141 J_MSquareRows_layAll_d139 (v := 8) (by decide +kernel) rfl ?_
            refine iq_irem hS 142 J_MSquareRows_layAll_d141 (by decide) rfl ?_
            refine iq_if_eq hS 145 J_MSquareRows_layAll_d142 (t := 158) rfl (fun q142 => ?_) rfl (fun q142 => ?_)
            · replace h := ed_pos q142 h
              exact K18 _ _ hM41 l42 l43 (lq_r h hq18)
            · replace h := ed_neg q142 h
              refine iq_aload_n hS 146 J_MSquareRows_layAll_d145 l42 rfl ?_
              refine iq_dup hS 147 J_MSquareRows_layAll_d146 rfl rfl ?_
              refine iq_getI hS 150 J_MSquareRows_layAll_d147 lf_16_124 (Or.inl rfl) (ka_108 hM41) rfl ?_
              refine iq_iconst hS 151 J_MSquareRows_layAll_d150 (v := 1) (by decide +kernel) rfl ?_
              refine iq_iadd hS 152 J_MSquareRows_layAll_d151 rfl ?_
              refine iq_putI hS 155 J_MSquareRows_layAll_d152 lf_16_124 (Or.inl rfl) rfl (ka_108 hM41) rfl ?_
              refine iq_goto hS J_MSquareRows_layAll_d155 (t := 135) rfl ?_
              exact ih  _ _ (lw_sI hM41) l42 l43 (lq_l h)
        exact I18 n18  _ _ hM17 l15 l16 hn18
      refine iq_icmp_ge hS 121 J_MSquareRows_layAll_d118 (t := 131) rfl (fun q118 => ?_) rfl (fun q118 => ?_)
      · refine iq_iconst hS 132 J_MSquareRows_layAll_d131 (v := 4) (by decide +kernel) rfl ?_
        exact J12 _ _ (by simp only [if_pos q118]) (lk_1r l8 (by decide)) lk_1s
      · refine iq_iload hS 123 J_MSquareRows_layAll_d121 lk_1s rfl ?_
        refine iq_aload_n hS 124 J_MSquareRows_layAll_d123 (lk_1r l8 (by decide)) rfl ?_
        refine iq_getI hS 127 J_MSquareRows_layAll_d124 lf_16_124 (Or.inl rfl) (ka_108 hM7) rfl ?_
        refine iq_isub hS 128 J_MSquareRows_layAll_d127 rfl ?_
        refine iq_goto hS J_MSquareRows_layAll_d128 (t := 132) rfl ?_
        exact J12 _ _ (by simp only [if_neg q118]) (lk_1r l8 (by decide)) lk_1s
    obtain ⟨r6, hr6, hq6⟩ := h
    obtain ⟨n6, hn6⟩ := lp_n hr6
    have I6 : ∀ (n : Nat) (x44 : Int32) (M45 : im_M) (L' : List (Nat × Value)), lw_S w M45 → im_lk L' 0 = some (.ref 108) → im_lk L' 1 = some (.int p0) → im_lk L' 2 = some (.int p1) → im_lk L' 3 = some (.int x44) → lpn (uc2 (f_MSquareRows_layAll_L36 p0 p1)) n (x44, M45) = some r6 → ia (tb_G L xs) (dep + 2) J_MSquareRows_layAll (rwV w Q) (36, L', [], M45) := by
      intro n
      induction n with
      | zero => intro x44 M45 L' hM45 l46 l47 l48 l49 hn; exact (lpn_0 hn).elim
      | succ n ih =>
        intro x44 M45 L' hM45 l46 l47 l48 l49 hn
        have h := lpn_ed2 hn
        unfold f_MSquareRows_layAll_L36 at h
        refine iq_iload_n hS 37 J_MSquareRows_layAll_d36 l49 rfl ?_
        refine iq_aload_n hS 38 J_MSquareRows_layAll_d37 l46 rfl ?_
        refine iq_getI hS 41 J_MSquareRows_layAll_d38 lf_16_77 (Or.inl rfl) (ka_108 hM45) rfl ?_
        refine iq_icmp_ge hS 44 J_MSquareRows_layAll_d41 (t := 97) rfl (fun q41 => ?_) rfl (fun q41 => ?_)
        · replace h := ed_pos q41 h
          exact K6 _ _ hM45 l46 l47 l48 (lq_r h hq6)
        · replace h := ed_neg q41 h
          refine iq_iload_n hS 45 J_MSquareRows_layAll_d44 l49 rfl ?_
          refine iq_iconst hS 46 J_MSquareRows_layAll_d45 (v := 1) (by decide +kernel) rfl ?_
          refine iq_iadd hS 47 J_MSquareRows_layAll_d46 rfl ?_
          refine iq_istore hS 49 J_MSquareRows_layAll_d47 (by decide) rfl ?_
          obtain ⟨Q50, hQ50, h⟩ := bd1_ed h
          have K50 : ∀ (y51 : Int32) (L' : List (Nat × Value)), im_lk L' 0 = some (.ref 108) → im_lk L' 1 = some (.int p0) → im_lk L' 2 = some (.int p1) → im_lk L' 3 = some (.int x44) → im_lk L' 4 = some (.int y51) → Q50 y51 → ia (tb_G L xs) (dep + 2) J_MSquareRows_layAll (rwV w Q) (80, L', [], M45) := by
            intro y51 L' l52 l53 l54 l55 l56 h
            replace h := hQ50 _ h
            refine iq_aload_n hS 81 J_MSquareRows_layAll_d80 l52 rfl ?_
            refine iq_iload_n hS 82 J_MSquareRows_layAll_d81 l55 rfl ?_
            refine iq_iload hS 84 J_MSquareRows_layAll_d82 l56 rfl ?_
            refine iq_iload_n hS 85 J_MSquareRows_layAll_d84 l53 rfl ?_
            obtain ⟨Q57, hQ57, h⟩ := bd1_ed h
            refine iq_cpI hS 88 J_MSquareRows_layAll_d85 rfl (pr_stat (vs := [_]) lc_16_134 lT_391 rfl rfl (by decide) rfl (Nat.le_of_ble_eq_true rfl) (Nat.le_of_ble_eq_true rfl)) (f_MSquareRows_rank_ok (dep := dep + 1) hM45 h) rfl ?_
            intro x57 h
            replace h := hQ57 _ h
            obtain ⟨Q58, hQ58, h⟩ := bd1_ed h
            refine iq_cwV hS 91 J_MSquareRows_layAll_d88 rfl (pr_inst (vs := [_, _, _]) lc_16_137 lT_406 rfl rfl (by decide) (by decide) rfl (Nat.le_of_ble_eq_true rfl) (Nat.le_of_ble_eq_true rfl) (fun _ => Or.inl (pr_b (ka_108 hM45) (by decide) rfl))) (f_MSquareRows_laySegment_ok (dep := dep + 0) hM45 h) rfl ?_
            intro M58 hM58 h
            replace h := hQ58 _ h
            refine iq_iload hS 93 J_MSquareRows_layAll_d91 l56 rfl ?_
            refine iq_istore_n hS 94 J_MSquareRows_layAll_d93 (by decide) rfl ?_
            refine iq_goto hS J_MSquareRows_layAll_d94 (t := 36) rfl ?_
            exact ih _ _ _ hM58 (lk_1r l52 (by decide)) (lk_1i l53 (by decide)) (lk_1i l54 (by decide)) lk_1s (lq_l h)
          obtain ⟨r50, hr50, hq50⟩ := h
          obtain ⟨n50, hn50⟩ := lp_n hr50
          have I50 : ∀ (n : Nat) (x59 : Int32) (L' : List (Nat × Value)), im_lk L' 0 = some (.ref 108) → im_lk L' 1 = some (.int p0) → im_lk L' 2 = some (.int p1) → im_lk L' 3 = some (.int x44) → im_lk L' 4 = some (.int x59) → lpn (uc1 (f_MSquareRows_layAll_L49 p0 p1 x44 M45)) n x59 = some r50 → ia (tb_G L xs) (dep + 2) J_MSquareRows_layAll (rwV w Q) (49, L', [], M45) := by
            intro n
            induction n with
            | zero => intro x59 L' l60 l61 l62 l63 l64 hn; exact (lpn_0 hn).elim
            | succ n ih =>
              intro x59 L' l60 l61 l62 l63 l64 hn
              have h := lpn_ed1 hn
              unfold f_MSquareRows_layAll_L49 at h
              refine iq_iload hS 51 J_MSquareRows_layAll_d49 l64 rfl ?_
              refine iq_aload_n hS 52 J_MSquareRows_layAll_d51 l60 rfl ?_
              refine iq_getI hS 55 J_MSquareRows_layAll_d52 lf_16_77 (Or.inl rfl) (ka_108 hM45) rfl ?_
              refine iq_icmp_ge hS 58 J_MSquareRows_layAll_d55 (t := 80) rfl (fun q55 => ?_) rfl (fun q55 => ?_)
              · replace h := ed_pos q55 h
                exact K50 _ _ l60 l61 l62 l63 l64 (lq_r h hq50)
              · replace h := ed_neg q55 h
                refine iq_aload_n hS 59 J_MSquareRows_layAll_d58 l60 rfl ?_
                refine iq_getR hS 62 J_MSquareRows_layAll_d59 lf_16_34 (Or.inr ⟨_, rfl⟩) (ka_108 hM45) (ra_108_14 hM45) rfl ?_
                refine iq_iload hS 64 J_MSquareRows_layAll_d62 l64 rfl ?_
                obtain ⟨g64, h⟩ := ed_gd h
                refine iq_iaload hS 65 J_MSquareRows_layAll_d64 ⟨(ka_117 hM45).1, (ka_117 hM45).2, g64.1, ix_lt (kl_117 hM45) g64.2⟩ rfl ?_
                refine iq_aload_n hS 66 J_MSquareRows_layAll_d65 l60 rfl ?_
                refine iq_getR hS 69 J_MSquareRows_layAll_d66 lf_16_34 (Or.inr ⟨_, rfl⟩) (ka_108 hM45) (ra_108_14 hM45) rfl ?_
                refine iq_iload_n hS 70 J_MSquareRows_layAll_d69 l63 rfl ?_
                obtain ⟨g70, h⟩ := ed_gd h
                refine iq_iaload hS 71 J_MSquareRows_layAll_d70 ⟨(ka_117 hM45).1, (ka_117 hM45).2, g70.1, ix_lt (kl_117 hM45) g70.2⟩ rfl ?_
                refine iq_icmp_ne hS 74 J_MSquareRows_layAll_d71 (t := 80) rfl (fun q71 => ?_) rfl (fun q71 => ?_)
                · replace h := ed_pos q71 h
                  exact K50 _ _ l60 l61 l62 l63 l64 (lq_r h hq50)
                · replace h := ed_neg q71 h
                  refine iq_iincv hS 77 J_MSquareRows_layAll_d74 (c := 1) (by decide +kernel) l64 (by decide) rfl ?_
                  refine iq_goto hS J_MSquareRows_layAll_d77 (t := 49) rfl ?_
                  exact ih _ _ (lk_1r l60 (by decide)) (lk_1i l61 (by decide)) (lk_1i l62 (by decide)) (lk_1i l63 (by decide)) lk_1s (lq_l h)
          exact I50 n50 _ _ (lk_1r l46 (by decide)) (lk_1i l47 (by decide)) (lk_1i l48 (by decide)) (lk_1i l49 (by decide)) lk_1s hn50
    exact I6 n6 _ _ _ (lw_sI (lw_sI hM2)) (lk_1r l3 (by decide)) (lk_1i l4 (by decide)) (lk_1i l5 (by decide)) lk_1s hn6
  obtain ⟨r1, hr1, hq1⟩ := h
  obtain ⟨n1, hn1⟩ := lp_n hr1
  have I1 : ∀ (n : Nat) (x65 : Int32) (M66 : im_M) (L' : List (Nat × Value)), lw_S w M66 → im_lk L' 0 = some (.ref 108) → im_lk L' 1 = some (.int p0) → im_lk L' 2 = some (.int p1) → im_lk L' 3 = some (.int x65) → lpn (uc2 (f_MSquareRows_layAll_L2 p0 p1)) n (x65, M66) = some r1 → ia (tb_G L xs) (dep + 2) J_MSquareRows_layAll (rwV w Q) (2, L', [], M66) := by
    intro n
    induction n with
    | zero => intro x65 M66 L' hM66 l67 l68 l69 l70 hn; exact (lpn_0 hn).elim
    | succ n ih =>
      intro x65 M66 L' hM66 l67 l68 l69 l70 hn
      have h := lpn_ed2 hn
      unfold f_MSquareRows_layAll_L2 at h
      refine iq_iload_n hS 3 J_MSquareRows_layAll_d2 l70 rfl ?_
      refine iq_aload_n hS 4 J_MSquareRows_layAll_d3 l67 rfl ?_
      refine iq_getR hS 7 J_MSquareRows_layAll_d4 lf_16_40 (Or.inr ⟨_, rfl⟩) (ka_108 hM66) (ra_108_17 hM66) rfl ?_
      refine iq_alenv hS 8 J_MSquareRows_layAll_d7 (v := 3800) (ka_119 hM66) (by decide) (by decide) (kl_119 hM66) (by decide +kernel) rfl ?_
      refine iq_icmp_ge hS 11 J_MSquareRows_layAll_d8 (t := 24) rfl (fun q8 => ?_) rfl (fun q8 => ?_)
      · replace h := ed_pos q8 h
        exact K1 _ _ hM66 l67 l68 l69 (lq_r h hq1)
      · replace h := ed_neg q8 h
        refine iq_aload_n hS 12 J_MSquareRows_layAll_d11 l67 rfl ?_
        refine iq_getR hS 15 J_MSquareRows_layAll_d12 lf_16_40 (Or.inr ⟨_, rfl⟩) (ka_108 hM66) (ra_108_17 hM66) rfl ?_
        refine iq_iload_n hS 16 J_MSquareRows_layAll_d15 l70 rfl ?_
        refine iq_iconst hS 17 J_MSquareRows_layAll_d16 (v := 0) (by decide +kernel) rfl ?_
        obtain ⟨g17, h⟩ := ed_gd h
        refine iq_iastore hS 18 J_MSquareRows_layAll_d17 ⟨(ka_119 hM66).1, (ka_119 hM66).2, g17.1, ix_lt (kl_119 hM66) g17.2⟩ rfl ?_
        refine iq_iincv hS 21 J_MSquareRows_layAll_d18 (c := 1) (by decide +kernel) l70 (by decide) rfl ?_
        refine iq_goto hS J_MSquareRows_layAll_d21 (t := 2) rfl ?_
        exact ih _ _ _ (lw_sI hM66) (lk_1r l67 (by decide)) (lk_1i l68 (by decide)) (lk_1i l69 (by decide)) lk_1s (lq_l h)
  exact I1 n1 _ _ _ hM (lk_1r l0 (by decide)) (lk_1i l1 (by decide)) (lk_1i l2 (by decide)) lk_1s hn1
theorem f_MSquareRows_layAll_fr {p0 : Int32} {p1 : Int32} {M : im_M} {r : im_M} (h : f_MSquareRows_layAll p0 p1 M = some r) : fr 789229122497293799536635442041454592 [(108, 13), (108, 19)] M r := by
  replace h : ed (f_MSquareRows_layAll p0 p1 M) (fun x => x = r) := ⟨r, h, rfl⟩
  unfold f_MSquareRows_layAll at h
  obtain ⟨Q1, hQ1, h⟩ := bd1_ed h
  have K1 : ∀ (M2 : im_M), fr 789229122497293799536635442041454592 [(108, 13), (108, 19)] M M2 → Q1 M2 → fr 789229122497293799536635442041454592 [(108, 13), (108, 19)] M r := by
    intro M2 hM2 h
    replace h := hQ1 _ h
    obtain ⟨Q3, hQ3, h⟩ := bd1_ed h
    have K3 : ∀ (M4 : im_M), fr 789229122497293799536635442041454592 [(108, 13), (108, 19)] M M4 → Q3 M4 → fr 789229122497293799536635442041454592 [(108, 13), (108, 19)] M r := by
      intro M4 hM4 h
      replace h := hQ3 _ h
      obtain ⟨Q5, hQ5, h⟩ := bd1_ed h
      obtain ⟨x5, e5, h⟩ := h
      replace h := hQ5 _ h
      obtain ⟨Q7, hQ7, h⟩ := bd1_ed h
      obtain ⟨M7, e7, h⟩ := h
      replace h := hQ7 _ h
      obtain ⟨Q8, hQ8, h⟩ := bd1_ed h
      have K8 : ∀ (M9 : im_M), fr 789229122497293799536635442041454592 [(108, 13), (108, 19)] M M9 → Q8 M9 → fr 789229122497293799536635442041454592 [(108, 13), (108, 19)] M r := by
        intro M9 hM9 h
        replace h := hQ8 _ h
        obtain ⟨Q10, hQ10, h⟩ := bd1_ed h
        have K10 : ∀ (M11 : im_M), fr 789229122497293799536635442041454592 [(108, 13), (108, 19)] M M11 → Q10 M11 → fr 789229122497293799536635442041454592 [(108, 13), (108, 19)] M r := by
          intro M11 hM11 h
          replace h := hQ10 _ h
          exact fr_retV h hM11
        obtain ⟨r10, hr10, hq10⟩ := h
        obtain ⟨n10, hn10⟩ := lp_n hr10
        have I10 : ∀ (n : Nat) (x12 : Int32) (M13 : im_M), fr 789229122497293799536635442041454592 [(108, 13), (108, 19)] M M13 → lpn (uc2 (f_MSquareRows_layAll_L161 ((8 : Int32) * x5))) n (x12, M13) = some r10 → fr 789229122497293799536635442041454592 [(108, 13), (108, 19)] M r := by
          intro n
          induction n with
          | zero => intro x12 M13 hM13 hn; exact (lpn_0 hn).elim
          | succ n ih =>
            intro x12 M13 hM13 hn
            have h := lpn_ed2 hn
            unfold f_MSquareRows_layAll_L161 at h
            by_cases q167 : ((8 : Int32) * x5) ≤ (im_i M13 108 19)
            · replace h := ed_pos q167 h
              exact K10 _ hM13 (lq_r h hq10)
            · replace h := ed_neg q167 h
              obtain ⟨Q15, hQ15, h⟩ := bd1_ed h
              obtain ⟨M15, e15, h⟩ := h
              replace h := hQ15 _ h
              exact ih _ _ (fr_tr (fr_mono (by decide) (by decide +kernel) (f_MSquareRows_lay_fr e15)) hM13) (lq_l h)
        exact I10 n10 _ _ hM9 hn10
      obtain ⟨r8, hr8, hq8⟩ := h
      obtain ⟨n8, hn8⟩ := lp_n hr8
      have I8 : ∀ (n : Nat)  (M17 : im_M), fr 789229122497293799536635442041454592 [(108, 13), (108, 19)] M M17 → lpn (uc1 (f_MSquareRows_layAll_L135 ((8 : Int32) * x5))) n M17 = some r8 → fr 789229122497293799536635442041454592 [(108, 13), (108, 19)] M r := by
        intro n
        induction n with
        | zero => intro  M17 hM17 hn; exact (lpn_0 hn).elim
        | succ n ih =>
          intro  M17 hM17 hn
          have h := lpn_ed1 hn
          unfold f_MSquareRows_layAll_L135 at h
          by_cases q142 : ((im_i M17 108 19) - (im_i M17 108 19) / 8 * 8) = 0
          · replace h := ed_pos q142 h
            exact K8 _ hM17 (lq_r h hq8)
          · replace h := ed_neg q142 h
            exact ih  _ (fr_F (by decide) hM17) (lq_l h)
      exact I8 n8  _ (fr_tr (fr_mono (by decide) (by decide +kernel) (f_MSquareRows_lay_fr e7)) hM4) hn8
    obtain ⟨r3, hr3, hq3⟩ := h
    obtain ⟨n3, hn3⟩ := lp_n hr3
    have I3 : ∀ (n : Nat) (x18 : Int32) (M19 : im_M), fr 789229122497293799536635442041454592 [(108, 13), (108, 19)] M M19 → lpn (uc2 (f_MSquareRows_layAll_L36 p0 p1)) n (x18, M19) = some r3 → fr 789229122497293799536635442041454592 [(108, 13), (108, 19)] M r := by
      intro n
      induction n with
      | zero => intro x18 M19 hM19 hn; exact (lpn_0 hn).elim
      | succ n ih =>
        intro x18 M19 hM19 hn
        have h := lpn_ed2 hn
        unfold f_MSquareRows_layAll_L36 at h
        by_cases q41 : (im_i M19 108 4) ≤ x18
        · replace h := ed_pos q41 h
          exact K3 _ hM19 (lq_r h hq3)
        · replace h := ed_neg q41 h
          obtain ⟨Q20, hQ20, h⟩ := bd1_ed h
          have K20 : ∀ (y21 : Int32), Q20 y21 → fr 789229122497293799536635442041454592 [(108, 13), (108, 19)] M r := by
            intro y21 h
            replace h := hQ20 _ h
            obtain ⟨Q22, hQ22, h⟩ := bd1_ed h
            obtain ⟨x22, e22, h⟩ := h
            replace h := hQ22 _ h
            obtain ⟨Q23, hQ23, h⟩ := bd1_ed h
            obtain ⟨M23, e23, h⟩ := h
            replace h := hQ23 _ h
            exact ih _ _ (fr_tr (fr_mono (by decide) (by decide +kernel) (f_MSquareRows_laySegment_fr e23)) hM19) (lq_l h)
          obtain ⟨r20, hr20, hq20⟩ := h
          obtain ⟨n20, hn20⟩ := lp_n hr20
          have I20 : ∀ (n : Nat) (x24 : Int32), lpn (uc1 (f_MSquareRows_layAll_L49 p0 p1 x18 M19)) n x24 = some r20 → fr 789229122497293799536635442041454592 [(108, 13), (108, 19)] M r := by
            intro n
            induction n with
            | zero => intro x24 hn; exact (lpn_0 hn).elim
            | succ n ih =>
              intro x24 hn
              have h := lpn_ed1 hn
              unfold f_MSquareRows_layAll_L49 at h
              by_cases q55 : (im_i M19 108 4) ≤ x24
              · replace h := ed_pos q55 h
                exact K20 _ (lq_r h hq20)
              · replace h := ed_neg q55 h
                obtain ⟨g64, h⟩ := ed_gd h
                obtain ⟨g70, h⟩ := ed_gd h
                by_cases q71 : ¬ (im_i M19 117 (Int32.toNatClampNeg x24)) = (im_i M19 117 (Int32.toNatClampNeg x18))
                · replace h := ed_pos q71 h
                  exact K20 _ (lq_r h hq20)
                · replace h := ed_neg q71 h
                  exact ih _ (lq_l h)
          exact I20 n20 _ hn20
    exact I3 n3 _ _ (fr_F (by decide) (fr_F (by decide) hM2)) hn3
  obtain ⟨r1, hr1, hq1⟩ := h
  obtain ⟨n1, hn1⟩ := lp_n hr1
  have I1 : ∀ (n : Nat) (x25 : Int32) (M26 : im_M), fr 789229122497293799536635442041454592 [(108, 13), (108, 19)] M M26 → lpn (uc2 (f_MSquareRows_layAll_L2 p0 p1)) n (x25, M26) = some r1 → fr 789229122497293799536635442041454592 [(108, 13), (108, 19)] M r := by
    intro n
    induction n with
    | zero => intro x25 M26 hM26 hn; exact (lpn_0 hn).elim
    | succ n ih =>
      intro x25 M26 hM26 hn
      have h := lpn_ed2 hn
      unfold f_MSquareRows_layAll_L2 at h
      by_cases q8 : 3800 ≤ x25
      · replace h := ed_pos q8 h
        exact K1 _ hM26 (lq_r h hq1)
      · replace h := ed_neg q8 h
        obtain ⟨g17, h⟩ := ed_gd h
        exact ih _ _ (fr_I (by decide) hM26) (lq_l h)
  exact I1 n1 _ _ fr_refl hn1
noncomputable def f_MSquareRows_two_L24 (v3 : Int32) (M6 : im_M) (x4 : Int32) (x5 : Int32) : Option ((Int32 × Int32) ⊕ (Int32)) := if v3 ≤ x5 then some (.inr x4) else some (.inl (((if (x4 <<< (1 &&& 31 : Int32) : Int32) ≤ 255 then (x4 <<< (1 &&& 31 : Int32) : Int32) else ((x4 <<< (1 &&& 31 : Int32) : Int32) ^^^ 285)) : Int32), (x5 + 1)))
noncomputable def f_MSquareRows_two (p0 : Int32) (M : im_M) : Option (Int32) := bd1 (lp (uc2 (f_MSquareRows_two_L24 ((if 0 ≤ (p0 - p0 / 255 * 255) then (p0 - p0 / 255 * 255) else ((p0 - p0 / 255 * 255) + 255)) : Int32) M)) (1, 0)) fun (y8 : Int32) => some y8
theorem J_MSquareRows_two_d0 : decode J_MSquareRows_two.2.1 0 = .ok (.iconst 1, 1) := by decide +kernel
theorem J_MSquareRows_two_d1 : decode J_MSquareRows_two.2.1 1 = .ok (.istore_n 1, 1) := by decide +kernel
theorem J_MSquareRows_two_d2 : decode J_MSquareRows_two.2.1 2 = .ok (.iload_n 0, 1) := by decide +kernel
theorem J_MSquareRows_two_d3 : decode J_MSquareRows_two.2.1 3 = .ok (.sipush 255, 3) := by decide +kernel
theorem J_MSquareRows_two_d6 : decode J_MSquareRows_two.2.1 6 = .ok (.irem, 1) := by decide +kernel
theorem J_MSquareRows_two_d7 : decode J_MSquareRows_two.2.1 7 = .ok (.istore_n 2, 1) := by decide +kernel
theorem J_MSquareRows_two_d8 : decode J_MSquareRows_two.2.1 8 = .ok (.iload_n 2, 1) := by decide +kernel
theorem J_MSquareRows_two_d9 : decode J_MSquareRows_two.2.1 9 = .ok (.ifCond .ge 11, 3) := by decide +kernel
theorem J_MSquareRows_two_d12 : decode J_MSquareRows_two.2.1 12 = .ok (.iload_n 2, 1) := by decide +kernel
theorem J_MSquareRows_two_d13 : decode J_MSquareRows_two.2.1 13 = .ok (.sipush 255, 3) := by decide +kernel
theorem J_MSquareRows_two_d16 : decode J_MSquareRows_two.2.1 16 = .ok (.iadd, 1) := by decide +kernel
theorem J_MSquareRows_two_d17 : decode J_MSquareRows_two.2.1 17 = .ok (.goto 4, 3) := by decide +kernel
theorem J_MSquareRows_two_d20 : decode J_MSquareRows_two.2.1 20 = .ok (.iload_n 2, 1) := by decide +kernel
theorem J_MSquareRows_two_d21 : decode J_MSquareRows_two.2.1 21 = .ok (.istore_n 2, 1) := by decide +kernel
theorem J_MSquareRows_two_d22 : decode J_MSquareRows_two.2.1 22 = .ok (.iconst 0, 1) := by decide +kernel
theorem J_MSquareRows_two_d23 : decode J_MSquareRows_two.2.1 23 = .ok (.istore_n 3, 1) := by decide +kernel
theorem J_MSquareRows_two_d24 : decode J_MSquareRows_two.2.1 24 = .ok (.iload_n 3, 1) := by decide +kernel
theorem J_MSquareRows_two_d25 : decode J_MSquareRows_two.2.1 25 = .ok (.iload_n 2, 1) := by decide +kernel
theorem J_MSquareRows_two_d26 : decode J_MSquareRows_two.2.1 26 = .ok (.if_icmp .ge 30, 3) := by decide +kernel
theorem J_MSquareRows_two_d29 : decode J_MSquareRows_two.2.1 29 = .ok (.iload_n 1, 1) := by decide +kernel
theorem J_MSquareRows_two_d30 : decode J_MSquareRows_two.2.1 30 = .ok (.iconst 1, 1) := by decide +kernel
theorem J_MSquareRows_two_d31 : decode J_MSquareRows_two.2.1 31 = .ok (.ishl, 1) := by decide +kernel
theorem J_MSquareRows_two_d32 : decode J_MSquareRows_two.2.1 32 = .ok (.istore_n 1, 1) := by decide +kernel
theorem J_MSquareRows_two_d33 : decode J_MSquareRows_two.2.1 33 = .ok (.iload_n 1, 1) := by decide +kernel
theorem J_MSquareRows_two_d34 : decode J_MSquareRows_two.2.1 34 = .ok (.sipush 255, 3) := by decide +kernel
theorem J_MSquareRows_two_d37 : decode J_MSquareRows_two.2.1 37 = .ok (.if_icmp .le 11, 3) := by decide +kernel
theorem J_MSquareRows_two_d40 : decode J_MSquareRows_two.2.1 40 = .ok (.iload_n 1, 1) := by decide +kernel
theorem J_MSquareRows_two_d41 : decode J_MSquareRows_two.2.1 41 = .ok (.sipush 285, 3) := by decide +kernel
theorem J_MSquareRows_two_d44 : decode J_MSquareRows_two.2.1 44 = .ok (.ixor, 1) := by decide +kernel
theorem J_MSquareRows_two_d45 : decode J_MSquareRows_two.2.1 45 = .ok (.goto 4, 3) := by decide +kernel
theorem J_MSquareRows_two_d48 : decode J_MSquareRows_two.2.1 48 = .ok (.iload_n 1, 1) := by decide +kernel
theorem J_MSquareRows_two_d49 : decode J_MSquareRows_two.2.1 49 = .ok (.istore_n 1, 1) := by decide +kernel
theorem J_MSquareRows_two_d50 : decode J_MSquareRows_two.2.1 50 = .ok (.iinc 3 1, 3) := by decide +kernel
theorem J_MSquareRows_two_d53 : decode J_MSquareRows_two.2.1 53 = .ok (.goto (-29), 3) := by decide +kernel
theorem J_MSquareRows_two_d56 : decode J_MSquareRows_two.2.1 56 = .ok (.iload_n 1, 1) := by decide +kernel
theorem J_MSquareRows_two_d57 : decode J_MSquareRows_two.2.1 57 = .ok (.ireturn, 1) := by decide +kernel
theorem f_MSquareRows_two_ok {L : Nat} {xs : Nat → Int32} {dep : Nat} {w : Bool} {p0 : Int32} {M : im_M} {Q : Int32 → Prop} (hM : lw_S w M) (h : ed (f_MSquareRows_two p0 M) Q) : ia (tb_G L xs) dep J_MSquareRows_two (rpI M Q) (0, lv_args 0 [.int p0], [], M) := by
  have hS : im_St (tb_G L xs) dep J_MSquareRows_two (ia (tb_G L xs) dep J_MSquareRows_two (rpI M Q)) := ia_St
  unfold f_MSquareRows_two at h
  have l0 : im_lk (lv_args 0 [.int p0]) 0 = some (.int p0) := rfl
  refine iq_iconst hS 1 J_MSquareRows_two_d0 (v := 1) (by decide +kernel) rfl ?_
  refine iq_istore_n hS 2 J_MSquareRows_two_d1 (by decide) rfl ?_
  refine iq_iload_n hS 3 J_MSquareRows_two_d2 (lk_1i l0 (by decide)) rfl ?_
  refine iq_sipush hS 6 J_MSquareRows_two_d3 (v := 255) (by decide +kernel) rfl ?_
  refine iq_irem hS 7 J_MSquareRows_two_d6 (by decide) rfl ?_
  refine iq_istore_n hS 8 J_MSquareRows_two_d7 (by decide) rfl ?_
  refine iq_iload_n hS 9 J_MSquareRows_two_d8 lk_1s rfl ?_
  have J1 : ∀ (z2 : Int32) (L' : List (Nat × Value)), z2 = ((if 0 ≤ (p0 - p0 / 255 * 255) then (p0 - p0 / 255 * 255) else ((p0 - p0 / 255 * 255) + 255)) : Int32) → im_lk L' 1 = some (.int 1) → ia (tb_G L xs) dep J_MSquareRows_two (rpI M Q) (21, L', [.int z2], M) := by
    intro z2 L' e3 l4
    subst e3
    refine iq_istore_n hS 22 J_MSquareRows_two_d21 (by decide) rfl ?_
    refine iq_iconst hS 23 J_MSquareRows_two_d22 (v := 0) (by decide +kernel) rfl ?_
    refine iq_istore_n hS 24 J_MSquareRows_two_d23 (by decide) rfl ?_
    obtain ⟨Q5, hQ5, h⟩ := bd1_ed h
    have K5 : ∀ (y6 : Int32) (L' : List (Nat × Value)), im_lk L' 1 = some (.int y6) → Q5 y6 → ia (tb_G L xs) dep J_MSquareRows_two (rpI M Q) (56, L', [], M) := by
      intro y6 L' l7 h
      replace h := hQ5 _ h
      refine iq_iload_n hS 57 J_MSquareRows_two_d56 l7 rfl ?_
      exact iq_iret J_MSquareRows_two_d57 rfl rfl ⟨_, rfl, rfl, ed_some h⟩
    obtain ⟨r5, hr5, hq5⟩ := h
    obtain ⟨n5, hn5⟩ := lp_n hr5
    have I5 : ∀ (n : Nat) (x8 : Int32) (x9 : Int32) (L' : List (Nat × Value)), im_lk L' 1 = some (.int x8) → im_lk L' 2 = some (.int ((if 0 ≤ (p0 - p0 / 255 * 255) then (p0 - p0 / 255 * 255) else ((p0 - p0 / 255 * 255) + 255)) : Int32)) → im_lk L' 3 = some (.int x9) → lpn (uc2 (f_MSquareRows_two_L24 ((if 0 ≤ (p0 - p0 / 255 * 255) then (p0 - p0 / 255 * 255) else ((p0 - p0 / 255 * 255) + 255)) : Int32) M)) n (x8, x9) = some r5 → ia (tb_G L xs) dep J_MSquareRows_two (rpI M Q) (24, L', [], M) := by
      intro n
      induction n with
      | zero => intro x8 x9 L' l10 l11 l12 hn; exact (lpn_0 hn).elim
      | succ n ih =>
        intro x8 x9 L' l10 l11 l12 hn
        have h := lpn_ed2 hn
        unfold f_MSquareRows_two_L24 at h
        refine iq_iload_n hS 25 J_MSquareRows_two_d24 l12 rfl ?_
        refine iq_iload_n hS 26 J_MSquareRows_two_d25 l11 rfl ?_
        refine iq_icmp_ge hS 29 J_MSquareRows_two_d26 (t := 56) rfl (fun q26 => ?_) rfl (fun q26 => ?_)
        · replace h := ed_pos q26 h
          exact K5 _ _ l10 (lq_r h hq5)
        · replace h := ed_neg q26 h
          refine iq_iload_n hS 30 J_MSquareRows_two_d29 l10 rfl ?_
          refine iq_iconst hS 31 J_MSquareRows_two_d30 (v := 1) (by decide +kernel) rfl ?_
          refine iq_ishl hS 32 J_MSquareRows_two_d31 rfl ?_
          refine iq_istore_n hS 33 J_MSquareRows_two_d32 (by decide) rfl ?_
          refine iq_iload_n hS 34 J_MSquareRows_two_d33 lk_1s rfl ?_
          refine iq_sipush hS 37 J_MSquareRows_two_d34 (v := 255) (by decide +kernel) rfl ?_
          have J13 : ∀ (z14 : Int32) (L' : List (Nat × Value)), z14 = ((if (x8 <<< (1 &&& 31 : Int32) : Int32) ≤ 255 then (x8 <<< (1 &&& 31 : Int32) : Int32) else ((x8 <<< (1 &&& 31 : Int32) : Int32) ^^^ 285)) : Int32) → im_lk L' 2 = some (.int ((if 0 ≤ (p0 - p0 / 255 * 255) then (p0 - p0 / 255 * 255) else ((p0 - p0 / 255 * 255) + 255)) : Int32)) → im_lk L' 3 = some (.int x9) → ia (tb_G L xs) dep J_MSquareRows_two (rpI M Q) (49, L', [.int z14], M) := by
            intro z14 L' e15 l16 l17
            subst e15
            refine iq_istore_n hS 50 J_MSquareRows_two_d49 (by decide) rfl ?_
            refine iq_iincv hS 53 J_MSquareRows_two_d50 (c := 1) (by decide +kernel) (lk_1i l17 (by decide)) (by decide) rfl ?_
            refine iq_goto hS J_MSquareRows_two_d53 (t := 24) rfl ?_
            exact ih _ _ _ (lk_1i lk_1s (by decide)) (lk_1i (lk_1i l16 (by decide)) (by decide)) lk_1s (lq_l h)
          refine iq_icmp_le hS 40 J_MSquareRows_two_d37 (t := 48) rfl (fun q37 => ?_) rfl (fun q37 => ?_)
          · refine iq_iload_n hS 49 J_MSquareRows_two_d48 lk_1s rfl ?_
            exact J13 _ _ (by simp only [if_pos q37]) (lk_1i l11 (by decide)) (lk_1i l12 (by decide))
          · refine iq_iload_n hS 41 J_MSquareRows_two_d40 lk_1s rfl ?_
            refine iq_sipush hS 44 J_MSquareRows_two_d41 (v := 285) (by decide +kernel) rfl ?_
            refine iq_ixor hS 45 J_MSquareRows_two_d44 rfl ?_
            refine iq_goto hS J_MSquareRows_two_d45 (t := 49) rfl ?_
            exact J13 _ _ (by simp only [if_neg q37]) (lk_1i l11 (by decide)) (lk_1i l12 (by decide))
    exact I5 n5 _ _ _ (lk_1i (lk_1i l4 (by decide)) (by decide)) (lk_1i lk_1s (by decide)) lk_1s hn5
  refine iq_if_ge hS 12 J_MSquareRows_two_d9 (t := 20) rfl (fun q9 => ?_) rfl (fun q9 => ?_)
  · refine iq_iload_n hS 21 J_MSquareRows_two_d20 lk_1s rfl ?_
    exact J1 _ _ (by simp only [if_pos q9]) (lk_1i lk_1s (by decide))
  · refine iq_iload_n hS 13 J_MSquareRows_two_d12 lk_1s rfl ?_
    refine iq_sipush hS 16 J_MSquareRows_two_d13 (v := 255) (by decide +kernel) rfl ?_
    refine iq_iadd hS 17 J_MSquareRows_two_d16 rfl ?_
    refine iq_goto hS J_MSquareRows_two_d17 (t := 21) rfl ?_
    exact J1 _ _ (by simp only [if_neg q9]) (lk_1i lk_1s (by decide))
noncomputable def f_MSquareRows_times_L7 (M5 : im_M) (x2 : Int32) (x3 : Int32) (x4 : Int32) : Option ((Int32 × Int32 × Int32) ⊕ (Int32)) := if x4 = 0 then some (.inr x2) else some (.inl (((if ¬ (x4 &&& 1) = 1 then x2 else (x2 ^^^ x3)) : Int32), ((if (x3 <<< (1 &&& 31 : Int32) : Int32) ≤ 255 then (x3 <<< (1 &&& 31 : Int32) : Int32) else ((x3 <<< (1 &&& 31 : Int32) : Int32) ^^^ 285)) : Int32), (x4 >>> (1 &&& 31 : Int32) : Int32)))
noncomputable def f_MSquareRows_times (p0 : Int32) (p1 : Int32) (M : im_M) : Option (Int32) := bd1 (lp (uc3 (f_MSquareRows_times_L7 M)) (0, p0, p1)) fun (y8 : Int32) => some y8
theorem J_MSquareRows_times_d0 : decode J_MSquareRows_times.2.1 0 = .ok (.iconst 0, 1) := by decide +kernel
theorem J_MSquareRows_times_d1 : decode J_MSquareRows_times.2.1 1 = .ok (.istore_n 2, 1) := by decide +kernel
theorem J_MSquareRows_times_d2 : decode J_MSquareRows_times.2.1 2 = .ok (.iload_n 0, 1) := by decide +kernel
theorem J_MSquareRows_times_d3 : decode J_MSquareRows_times.2.1 3 = .ok (.istore_n 3, 1) := by decide +kernel
theorem J_MSquareRows_times_d4 : decode J_MSquareRows_times.2.1 4 = .ok (.iload_n 1, 1) := by decide +kernel
theorem J_MSquareRows_times_d5 : decode J_MSquareRows_times.2.1 5 = .ok (.istore 4, 2) := by decide +kernel
theorem J_MSquareRows_times_d7 : decode J_MSquareRows_times.2.1 7 = .ok (.iload 4, 2) := by decide +kernel
theorem J_MSquareRows_times_d9 : decode J_MSquareRows_times.2.1 9 = .ok (.ifCond .eq 49, 3) := by decide +kernel
theorem J_MSquareRows_times_d12 : decode J_MSquareRows_times.2.1 12 = .ok (.iload 4, 2) := by decide +kernel
theorem J_MSquareRows_times_d14 : decode J_MSquareRows_times.2.1 14 = .ok (.iconst 1, 1) := by decide +kernel
theorem J_MSquareRows_times_d15 : decode J_MSquareRows_times.2.1 15 = .ok (.iand, 1) := by decide +kernel
theorem J_MSquareRows_times_d16 : decode J_MSquareRows_times.2.1 16 = .ok (.iconst 1, 1) := by decide +kernel
theorem J_MSquareRows_times_d17 : decode J_MSquareRows_times.2.1 17 = .ok (.if_icmp .ne 9, 3) := by decide +kernel
theorem J_MSquareRows_times_d20 : decode J_MSquareRows_times.2.1 20 = .ok (.iload_n 2, 1) := by decide +kernel
theorem J_MSquareRows_times_d21 : decode J_MSquareRows_times.2.1 21 = .ok (.iload_n 3, 1) := by decide +kernel
theorem J_MSquareRows_times_d22 : decode J_MSquareRows_times.2.1 22 = .ok (.ixor, 1) := by decide +kernel
theorem J_MSquareRows_times_d23 : decode J_MSquareRows_times.2.1 23 = .ok (.goto 4, 3) := by decide +kernel
theorem J_MSquareRows_times_d26 : decode J_MSquareRows_times.2.1 26 = .ok (.iload_n 2, 1) := by decide +kernel
theorem J_MSquareRows_times_d27 : decode J_MSquareRows_times.2.1 27 = .ok (.istore_n 2, 1) := by decide +kernel
theorem J_MSquareRows_times_d28 : decode J_MSquareRows_times.2.1 28 = .ok (.iload_n 3, 1) := by decide +kernel
theorem J_MSquareRows_times_d29 : decode J_MSquareRows_times.2.1 29 = .ok (.iconst 1, 1) := by decide +kernel
theorem J_MSquareRows_times_d30 : decode J_MSquareRows_times.2.1 30 = .ok (.ishl, 1) := by decide +kernel
theorem J_MSquareRows_times_d31 : decode J_MSquareRows_times.2.1 31 = .ok (.istore_n 3, 1) := by decide +kernel
theorem J_MSquareRows_times_d32 : decode J_MSquareRows_times.2.1 32 = .ok (.iload_n 3, 1) := by decide +kernel
theorem J_MSquareRows_times_d33 : decode J_MSquareRows_times.2.1 33 = .ok (.sipush 255, 3) := by decide +kernel
theorem J_MSquareRows_times_d36 : decode J_MSquareRows_times.2.1 36 = .ok (.if_icmp .le 11, 3) := by decide +kernel
theorem J_MSquareRows_times_d39 : decode J_MSquareRows_times.2.1 39 = .ok (.iload_n 3, 1) := by decide +kernel
theorem J_MSquareRows_times_d40 : decode J_MSquareRows_times.2.1 40 = .ok (.sipush 285, 3) := by decide +kernel
theorem J_MSquareRows_times_d43 : decode J_MSquareRows_times.2.1 43 = .ok (.ixor, 1) := by decide +kernel
theorem J_MSquareRows_times_d44 : decode J_MSquareRows_times.2.1 44 = .ok (.goto 4, 3) := by decide +kernel
theorem J_MSquareRows_times_d47 : decode J_MSquareRows_times.2.1 47 = .ok (.iload_n 3, 1) := by decide +kernel
theorem J_MSquareRows_times_d48 : decode J_MSquareRows_times.2.1 48 = .ok (.istore_n 3, 1) := by decide +kernel
theorem J_MSquareRows_times_d49 : decode J_MSquareRows_times.2.1 49 = .ok (.iload 4, 2) := by decide +kernel
theorem J_MSquareRows_times_d51 : decode J_MSquareRows_times.2.1 51 = .ok (.iconst 1, 1) := by decide +kernel
theorem J_MSquareRows_times_d52 : decode J_MSquareRows_times.2.1 52 = .ok (.ishr, 1) := by decide +kernel
theorem J_MSquareRows_times_d53 : decode J_MSquareRows_times.2.1 53 = .ok (.istore 4, 2) := by decide +kernel
theorem J_MSquareRows_times_d55 : decode J_MSquareRows_times.2.1 55 = .ok (.goto (-48), 3) := by decide +kernel
theorem J_MSquareRows_times_d58 : decode J_MSquareRows_times.2.1 58 = .ok (.iload_n 2, 1) := by decide +kernel
theorem J_MSquareRows_times_d59 : decode J_MSquareRows_times.2.1 59 = .ok (.ireturn, 1) := by decide +kernel
theorem f_MSquareRows_times_ok {L : Nat} {xs : Nat → Int32} {dep : Nat} {w : Bool} {p0 : Int32} {p1 : Int32} {M : im_M} {Q : Int32 → Prop} (hM : lw_S w M) (h : ed (f_MSquareRows_times p0 p1 M) Q) : ia (tb_G L xs) dep J_MSquareRows_times (rpI M Q) (0, lv_args 0 [.int p0, .int p1], [], M) := by
  have hS : im_St (tb_G L xs) dep J_MSquareRows_times (ia (tb_G L xs) dep J_MSquareRows_times (rpI M Q)) := ia_St
  unfold f_MSquareRows_times at h
  have l0 : im_lk (lv_args 0 [.int p0, .int p1]) 0 = some (.int p0) := rfl
  have l1 : im_lk (lv_args 0 [.int p0, .int p1]) 1 = some (.int p1) := rfl
  refine iq_iconst hS 1 J_MSquareRows_times_d0 (v := 0) (by decide +kernel) rfl ?_
  refine iq_istore_n hS 2 J_MSquareRows_times_d1 (by decide) rfl ?_
  refine iq_iload_n hS 3 J_MSquareRows_times_d2 (lk_1i l0 (by decide)) rfl ?_
  refine iq_istore_n hS 4 J_MSquareRows_times_d3 (by decide) rfl ?_
  refine iq_iload_n hS 5 J_MSquareRows_times_d4 (lk_1i (lk_1i l1 (by decide)) (by decide)) rfl ?_
  refine iq_istore hS 7 J_MSquareRows_times_d5 (by decide) rfl ?_
  obtain ⟨Q1, hQ1, h⟩ := bd1_ed h
  have K1 : ∀ (y2 : Int32) (L' : List (Nat × Value)), im_lk L' 2 = some (.int y2) → Q1 y2 → ia (tb_G L xs) dep J_MSquareRows_times (rpI M Q) (58, L', [], M) := by
    intro y2 L' l3 h
    replace h := hQ1 _ h
    refine iq_iload_n hS 59 J_MSquareRows_times_d58 l3 rfl ?_
    exact iq_iret J_MSquareRows_times_d59 rfl rfl ⟨_, rfl, rfl, ed_some h⟩
  obtain ⟨r1, hr1, hq1⟩ := h
  obtain ⟨n1, hn1⟩ := lp_n hr1
  have I1 : ∀ (n : Nat) (x4 : Int32) (x5 : Int32) (x6 : Int32) (L' : List (Nat × Value)), im_lk L' 2 = some (.int x4) → im_lk L' 3 = some (.int x5) → im_lk L' 4 = some (.int x6) → lpn (uc3 (f_MSquareRows_times_L7 M)) n (x4, x5, x6) = some r1 → ia (tb_G L xs) dep J_MSquareRows_times (rpI M Q) (7, L', [], M) := by
    intro n
    induction n with
    | zero => intro x4 x5 x6 L' l7 l8 l9 hn; exact (lpn_0 hn).elim
    | succ n ih =>
      intro x4 x5 x6 L' l7 l8 l9 hn
      have h := lpn_ed3 hn
      unfold f_MSquareRows_times_L7 at h
      refine iq_iload hS 9 J_MSquareRows_times_d7 l9 rfl ?_
      refine iq_if_eq hS 12 J_MSquareRows_times_d9 (t := 58) rfl (fun q9 => ?_) rfl (fun q9 => ?_)
      · replace h := ed_pos q9 h
        exact K1 _ _ l7 (lq_r h hq1)
      · replace h := ed_neg q9 h
        refine iq_iload hS 14 J_MSquareRows_times_d12 l9 rfl ?_
        refine iq_iconst hS 15 J_MSquareRows_times_d14 (v := 1) (by decide +kernel) rfl ?_
        refine iq_iand hS 16 J_MSquareRows_times_d15 rfl ?_
        refine iq_iconst hS 17 J_MSquareRows_times_d16 (v := 1) (by decide +kernel) rfl ?_
        have J10 : ∀ (z11 : Int32) (L' : List (Nat × Value)), z11 = ((if ¬ (x6 &&& 1) = 1 then x4 else (x4 ^^^ x5)) : Int32) → im_lk L' 3 = some (.int x5) → im_lk L' 4 = some (.int x6) → ia (tb_G L xs) dep J_MSquareRows_times (rpI M Q) (27, L', [.int z11], M) := by
          intro z11 L' e12 l13 l14
          subst e12
          refine iq_istore_n hS 28 J_MSquareRows_times_d27 (by decide) rfl ?_
          refine iq_iload_n hS 29 J_MSquareRows_times_d28 (lk_1i l13 (by decide)) rfl ?_
          refine iq_iconst hS 30 J_MSquareRows_times_d29 (v := 1) (by decide +kernel) rfl ?_
          refine iq_ishl hS 31 J_MSquareRows_times_d30 rfl ?_
          refine iq_istore_n hS 32 J_MSquareRows_times_d31 (by decide) rfl ?_
          refine iq_iload_n hS 33 J_MSquareRows_times_d32 lk_1s rfl ?_
          refine iq_sipush hS 36 J_MSquareRows_times_d33 (v := 255) (by decide +kernel) rfl ?_
          have J15 : ∀ (z16 : Int32) (L' : List (Nat × Value)), z16 = ((if (x5 <<< (1 &&& 31 : Int32) : Int32) ≤ 255 then (x5 <<< (1 &&& 31 : Int32) : Int32) else ((x5 <<< (1 &&& 31 : Int32) : Int32) ^^^ 285)) : Int32) → im_lk L' 2 = some (.int ((if ¬ (x6 &&& 1) = 1 then x4 else (x4 ^^^ x5)) : Int32)) → im_lk L' 4 = some (.int x6) → ia (tb_G L xs) dep J_MSquareRows_times (rpI M Q) (48, L', [.int z16], M) := by
            intro z16 L' e17 l18 l19
            subst e17
            refine iq_istore_n hS 49 J_MSquareRows_times_d48 (by decide) rfl ?_
            refine iq_iload hS 51 J_MSquareRows_times_d49 (lk_1i l19 (by decide)) rfl ?_
            refine iq_iconst hS 52 J_MSquareRows_times_d51 (v := 1) (by decide +kernel) rfl ?_
            refine iq_ishr hS 53 J_MSquareRows_times_d52 rfl ?_
            refine iq_istore hS 55 J_MSquareRows_times_d53 (by decide) rfl ?_
            refine iq_goto hS J_MSquareRows_times_d55 (t := 7) rfl ?_
            exact ih _ _ _ _ (lk_1i (lk_1i l18 (by decide)) (by decide)) (lk_1i lk_1s (by decide)) lk_1s (lq_l h)
          refine iq_icmp_le hS 39 J_MSquareRows_times_d36 (t := 47) rfl (fun q36 => ?_) rfl (fun q36 => ?_)
          · refine iq_iload_n hS 48 J_MSquareRows_times_d47 lk_1s rfl ?_
            exact J15 _ _ (by simp only [if_pos q36]) (lk_1i lk_1s (by decide)) (lk_1i (lk_1i l14 (by decide)) (by decide))
          · refine iq_iload_n hS 40 J_MSquareRows_times_d39 lk_1s rfl ?_
            refine iq_sipush hS 43 J_MSquareRows_times_d40 (v := 285) (by decide +kernel) rfl ?_
            refine iq_ixor hS 44 J_MSquareRows_times_d43 rfl ?_
            refine iq_goto hS J_MSquareRows_times_d44 (t := 48) rfl ?_
            exact J15 _ _ (by simp only [if_neg q36]) (lk_1i lk_1s (by decide)) (lk_1i (lk_1i l14 (by decide)) (by decide))
        refine iq_icmp_ne hS 20 J_MSquareRows_times_d17 (t := 26) rfl (fun q17 => ?_) rfl (fun q17 => ?_)
        · refine iq_iload_n hS 27 J_MSquareRows_times_d26 l7 rfl ?_
          exact J10 _ _ (by simp only [if_pos q17]) l8 l9
        · refine iq_iload_n hS 21 J_MSquareRows_times_d20 l7 rfl ?_
          refine iq_iload_n hS 22 J_MSquareRows_times_d21 l8 rfl ?_
          refine iq_ixor hS 23 J_MSquareRows_times_d22 rfl ?_
          refine iq_goto hS J_MSquareRows_times_d23 (t := 27) rfl ?_
          exact J10 _ _ (by simp only [if_neg q17]) l8 l9
  exact I1 n1 _ _ _ _ (lk_1i (lk_1i lk_1s (by decide)) (by decide)) (lk_1i lk_1s (by decide)) lk_1s hn1
noncomputable def f_MSquareRows_generate_L33 (v7 : Int32) (v8 : Int32) (v9 : Int32) (x10 : Int32) (M11 : im_M) : Option ((Int32 × im_M) ⊕ (im_M)) := if x10 ≤ 0 then some (.inr M11) else gd (inb x10 32) <| gd (inb (x10 - 1) 32) <| bd1 (f_MSquareRows_times (im_i M11 127 (Int32.toNatClampNeg (x10 - 1))) v9 M11) fun (x12 : Int32) => gd (inb x10 32) <| some (.inl ((x10 + (-1)), (im_setI M11 127 (Int32.toNatClampNeg x10) ((im_i M11 127 (Int32.toNatClampNeg x10)) ^^^ x12))))
noncomputable def f_MSquareRows_generate_L9 (v2 : Int32) (x3 : Int32) (M4 : im_M) : Option ((Int32 × im_M) ⊕ (im_M)) := if v2 ≤ x3 then some (.inr M4) else bd1 (f_MSquareRows_two x3 M4) fun (x5 : Int32) => gd (inb (x3 + 1) 32) <| bd1 (lp (uc2 (f_MSquareRows_generate_L33 v2 x3 x5)) ((x3 + 1), (im_setI M4 127 (Int32.toNatClampNeg (x3 + 1)) 0))) fun (M13 : im_M) => some (.inl ((x3 + 1), M13))
noncomputable def f_MSquareRows_generate (p0 : Int32) (M : im_M) : Option (im_M) := gd (inb 0 32) <| bd1 (lp (uc2 (f_MSquareRows_generate_L9 p0)) (0, (im_setI M 127 (Int32.toNatClampNeg 0) 1))) fun (M14 : im_M) => some M14
theorem J_MSquareRows_generate_d0 : decode J_MSquareRows_generate.2.1 0 = .ok (.aload_n 0, 1) := by decide +kernel
theorem J_MSquareRows_generate_d1 : decode J_MSquareRows_generate.2.1 1 = .ok (.getfield 64, 3) := by decide +kernel
theorem J_MSquareRows_generate_d4 : decode J_MSquareRows_generate.2.1 4 = .ok (.iconst 0, 1) := by decide +kernel
theorem J_MSquareRows_generate_d5 : decode J_MSquareRows_generate.2.1 5 = .ok (.iconst 1, 1) := by decide +kernel
theorem J_MSquareRows_generate_d6 : decode J_MSquareRows_generate.2.1 6 = .ok (.iastore, 1) := by decide +kernel
theorem J_MSquareRows_generate_d7 : decode J_MSquareRows_generate.2.1 7 = .ok (.iconst 0, 1) := by decide +kernel
theorem J_MSquareRows_generate_d8 : decode J_MSquareRows_generate.2.1 8 = .ok (.istore_n 2, 1) := by decide +kernel
theorem J_MSquareRows_generate_d9 : decode J_MSquareRows_generate.2.1 9 = .ok (.iload_n 2, 1) := by decide +kernel
theorem J_MSquareRows_generate_d10 : decode J_MSquareRows_generate.2.1 10 = .ok (.iload_n 1, 1) := by decide +kernel
theorem J_MSquareRows_generate_d11 : decode J_MSquareRows_generate.2.1 11 = .ok (.if_icmp .ge 67, 3) := by decide +kernel
theorem J_MSquareRows_generate_d14 : decode J_MSquareRows_generate.2.1 14 = .ok (.iload_n 2, 1) := by decide +kernel
theorem J_MSquareRows_generate_d15 : decode J_MSquareRows_generate.2.1 15 = .ok (.invokestatic 144, 3) := by decide +kernel
theorem J_MSquareRows_generate_d18 : decode J_MSquareRows_generate.2.1 18 = .ok (.istore_n 3, 1) := by decide +kernel
theorem J_MSquareRows_generate_d19 : decode J_MSquareRows_generate.2.1 19 = .ok (.aload_n 0, 1) := by decide +kernel
theorem J_MSquareRows_generate_d20 : decode J_MSquareRows_generate.2.1 20 = .ok (.getfield 64, 3) := by decide +kernel
theorem J_MSquareRows_generate_d23 : decode J_MSquareRows_generate.2.1 23 = .ok (.iload_n 2, 1) := by decide +kernel
theorem J_MSquareRows_generate_d24 : decode J_MSquareRows_generate.2.1 24 = .ok (.iconst 1, 1) := by decide +kernel
theorem J_MSquareRows_generate_d25 : decode J_MSquareRows_generate.2.1 25 = .ok (.iadd, 1) := by decide +kernel
theorem J_MSquareRows_generate_d26 : decode J_MSquareRows_generate.2.1 26 = .ok (.iconst 0, 1) := by decide +kernel
theorem J_MSquareRows_generate_d27 : decode J_MSquareRows_generate.2.1 27 = .ok (.iastore, 1) := by decide +kernel
theorem J_MSquareRows_generate_d28 : decode J_MSquareRows_generate.2.1 28 = .ok (.iload_n 2, 1) := by decide +kernel
theorem J_MSquareRows_generate_d29 : decode J_MSquareRows_generate.2.1 29 = .ok (.iconst 1, 1) := by decide +kernel
theorem J_MSquareRows_generate_d30 : decode J_MSquareRows_generate.2.1 30 = .ok (.iadd, 1) := by decide +kernel
theorem J_MSquareRows_generate_d31 : decode J_MSquareRows_generate.2.1 31 = .ok (.istore 4, 2) := by decide +kernel
theorem J_MSquareRows_generate_d33 : decode J_MSquareRows_generate.2.1 33 = .ok (.iload 4, 2) := by decide +kernel
theorem J_MSquareRows_generate_d35 : decode J_MSquareRows_generate.2.1 35 = .ok (.ifCond .le 37, 3) := by decide +kernel
theorem J_MSquareRows_generate_d38 : decode J_MSquareRows_generate.2.1 38 = .ok (.aload_n 0, 1) := by decide +kernel
theorem J_MSquareRows_generate_d39 : decode J_MSquareRows_generate.2.1 39 = .ok (.getfield 64, 3) := by decide +kernel
theorem J_MSquareRows_generate_d42 : decode J_MSquareRows_generate.2.1 42 = .ok (.iload 4, 2) := by decide +kernel
theorem J_MSquareRows_generate_d44 : decode J_MSquareRows_generate.2.1 44 = .ok (.aload_n 0, 1) := by decide +kernel
theorem J_MSquareRows_generate_d45 : decode J_MSquareRows_generate.2.1 45 = .ok (.getfield 64, 3) := by decide +kernel
theorem J_MSquareRows_generate_d48 : decode J_MSquareRows_generate.2.1 48 = .ok (.iload 4, 2) := by decide +kernel
theorem J_MSquareRows_generate_d50 : decode J_MSquareRows_generate.2.1 50 = .ok (.iaload, 1) := by decide +kernel
theorem J_MSquareRows_generate_d51 : decode J_MSquareRows_generate.2.1 51 = .ok (.aload_n 0, 1) := by decide +kernel
theorem J_MSquareRows_generate_d52 : decode J_MSquareRows_generate.2.1 52 = .ok (.getfield 64, 3) := by decide +kernel
theorem J_MSquareRows_generate_d55 : decode J_MSquareRows_generate.2.1 55 = .ok (.iload 4, 2) := by decide +kernel
theorem J_MSquareRows_generate_d57 : decode J_MSquareRows_generate.2.1 57 = .ok (.iconst 1, 1) := by decide +kernel
theorem J_MSquareRows_generate_d58 : decode J_MSquareRows_generate.2.1 58 = .ok (.isub, 1) := by decide +kernel
theorem J_MSquareRows_generate_d59 : decode J_MSquareRows_generate.2.1 59 = .ok (.iaload, 1) := by decide +kernel
theorem J_MSquareRows_generate_d60 : decode J_MSquareRows_generate.2.1 60 = .ok (.iload_n 3, 1) := by decide +kernel
theorem J_MSquareRows_generate_d61 : decode J_MSquareRows_generate.2.1 61 = .ok (.invokestatic 147, 3) := by decide +kernel
theorem J_MSquareRows_generate_d64 : decode J_MSquareRows_generate.2.1 64 = .ok (.ixor, 1) := by decide +kernel
theorem J_MSquareRows_generate_d65 : decode J_MSquareRows_generate.2.1 65 = .ok (.iastore, 1) := by decide +kernel
theorem J_MSquareRows_generate_d66 : decode J_MSquareRows_generate.2.1 66 = .ok (.iinc 4 (-1), 3) := by decide +kernel
theorem J_MSquareRows_generate_d69 : decode J_MSquareRows_generate.2.1 69 = .ok (.goto (-36), 3) := by decide +kernel
theorem J_MSquareRows_generate_d72 : decode J_MSquareRows_generate.2.1 72 = .ok (.iinc 2 1, 3) := by decide +kernel
theorem J_MSquareRows_generate_d75 : decode J_MSquareRows_generate.2.1 75 = .ok (.goto (-66), 3) := by decide +kernel
theorem J_MSquareRows_generate_d78 : decode J_MSquareRows_generate.2.1 78 = .ok (.return_, 1) := by decide +kernel
theorem f_MSquareRows_generate_ok {L : Nat} {xs : Nat → Int32} {dep : Nat} {w : Bool} {p0 : Int32} {M : im_M} {Q : im_M → Prop} (hM : lw_S w M) (h : ed (f_MSquareRows_generate p0 M) Q) : ia (tb_G L xs) (dep + 1) J_MSquareRows_generate (rwV w Q) (0, lv_args 0 [.ref 108, .int p0], [], M) := by
  have hS : im_St (tb_G L xs) (dep + 1) J_MSquareRows_generate (ia (tb_G L xs) (dep + 1) J_MSquareRows_generate (rwV w Q)) := ia_St
  unfold f_MSquareRows_generate at h
  have l0 : im_lk (lv_args 0 [.ref 108, .int p0]) 0 = some (.ref 108) := rfl
  have l1 : im_lk (lv_args 0 [.ref 108, .int p0]) 1 = some (.int p0) := rfl
  refine iq_aload_n hS 1 J_MSquareRows_generate_d0 l0 rfl ?_
  refine iq_getR hS 4 J_MSquareRows_generate_d1 lf_16_64 (Or.inr ⟨_, rfl⟩) (ka_108 hM) (ra_108_26 hM) rfl ?_
  refine iq_iconst hS 5 J_MSquareRows_generate_d4 (v := 0) (by decide +kernel) rfl ?_
  refine iq_iconst hS 6 J_MSquareRows_generate_d5 (v := 1) (by decide +kernel) rfl ?_
  obtain ⟨g6, h⟩ := ed_gd h
  refine iq_iastore hS 7 J_MSquareRows_generate_d6 ⟨(ka_127 hM).1, (ka_127 hM).2, g6.1, ix_lt (kl_127 hM) g6.2⟩ rfl ?_
  refine iq_iconst hS 8 J_MSquareRows_generate_d7 (v := 0) (by decide +kernel) rfl ?_
  refine iq_istore_n hS 9 J_MSquareRows_generate_d8 (by decide) rfl ?_
  obtain ⟨Q1, hQ1, h⟩ := bd1_ed h
  have K1 : ∀ (M2 : im_M) (L' : List (Nat × Value)), lw_S w M2 → Q1 M2 → ia (tb_G L xs) (dep + 1) J_MSquareRows_generate (rwV w Q) (78, L', [], M2) := by
    intro M2 L' hM2  h
    replace h := hQ1 _ h
    exact iq_ret J_MSquareRows_generate_d78 rfl ⟨rfl, hM2, ed_some h⟩
  obtain ⟨r1, hr1, hq1⟩ := h
  obtain ⟨n1, hn1⟩ := lp_n hr1
  have I1 : ∀ (n : Nat) (x3 : Int32) (M4 : im_M) (L' : List (Nat × Value)), lw_S w M4 → im_lk L' 0 = some (.ref 108) → im_lk L' 1 = some (.int p0) → im_lk L' 2 = some (.int x3) → lpn (uc2 (f_MSquareRows_generate_L9 p0)) n (x3, M4) = some r1 → ia (tb_G L xs) (dep + 1) J_MSquareRows_generate (rwV w Q) (9, L', [], M4) := by
    intro n
    induction n with
    | zero => intro x3 M4 L' hM4 l5 l6 l7 hn; exact (lpn_0 hn).elim
    | succ n ih =>
      intro x3 M4 L' hM4 l5 l6 l7 hn
      have h := lpn_ed2 hn
      unfold f_MSquareRows_generate_L9 at h
      refine iq_iload_n hS 10 J_MSquareRows_generate_d9 l7 rfl ?_
      refine iq_iload_n hS 11 J_MSquareRows_generate_d10 l6 rfl ?_
      refine iq_icmp_ge hS 14 J_MSquareRows_generate_d11 (t := 78) rfl (fun q11 => ?_) rfl (fun q11 => ?_)
      · replace h := ed_pos q11 h
        exact K1 _ _ hM4  (lq_r h hq1)
      · replace h := ed_neg q11 h
        refine iq_iload_n hS 15 J_MSquareRows_generate_d14 l7 rfl ?_
        obtain ⟨Q8, hQ8, h⟩ := bd1_ed h
        refine iq_cpI hS 18 J_MSquareRows_generate_d15 rfl (pr_stat (vs := [_]) lc_16_144 lT_410 rfl rfl (by decide) rfl (Nat.le_of_ble_eq_true rfl) (Nat.le_of_ble_eq_true rfl)) (f_MSquareRows_two_ok (dep := dep + 0) hM4 h) rfl ?_
        intro x8 h
        replace h := hQ8 _ h
        refine iq_istore_n hS 19 J_MSquareRows_generate_d18 (by decide) rfl ?_
        refine iq_aload_n hS 20 J_MSquareRows_generate_d19 (lk_1r l5 (by decide)) rfl ?_
        refine iq_getR hS 23 J_MSquareRows_generate_d20 lf_16_64 (Or.inr ⟨_, rfl⟩) (ka_108 hM4) (ra_108_26 hM4) rfl ?_
        refine iq_iload_n hS 24 J_MSquareRows_generate_d23 (lk_1i l7 (by decide)) rfl ?_
        refine iq_iconst hS 25 J_MSquareRows_generate_d24 (v := 1) (by decide +kernel) rfl ?_
        refine iq_iadd hS 26 J_MSquareRows_generate_d25 rfl ?_
        refine iq_iconst hS 27 J_MSquareRows_generate_d26 (v := 0) (by decide +kernel) rfl ?_
        obtain ⟨g27, h⟩ := ed_gd h
        refine iq_iastore hS 28 J_MSquareRows_generate_d27 ⟨(ka_127 hM4).1, (ka_127 hM4).2, g27.1, ix_lt (kl_127 hM4) g27.2⟩ rfl ?_
        refine iq_iload_n hS 29 J_MSquareRows_generate_d28 (lk_1i l7 (by decide)) rfl ?_
        refine iq_iconst hS 30 J_MSquareRows_generate_d29 (v := 1) (by decide +kernel) rfl ?_
        refine iq_iadd hS 31 J_MSquareRows_generate_d30 rfl ?_
        refine iq_istore hS 33 J_MSquareRows_generate_d31 (by decide) rfl ?_
        obtain ⟨Q9, hQ9, h⟩ := bd1_ed h
        have K9 : ∀ (M10 : im_M) (L' : List (Nat × Value)), lw_S w M10 → im_lk L' 0 = some (.ref 108) → im_lk L' 1 = some (.int p0) → im_lk L' 2 = some (.int x3) → Q9 M10 → ia (tb_G L xs) (dep + 1) J_MSquareRows_generate (rwV w Q) (72, L', [], M10) := by
          intro M10 L' hM10 l11 l12 l13 h
          replace h := hQ9 _ h
          refine iq_iincv hS 75 J_MSquareRows_generate_d72 (c := 1) (by decide +kernel) l13 (by decide) rfl ?_
          refine iq_goto hS J_MSquareRows_generate_d75 (t := 9) rfl ?_
          exact ih _ _ _ hM10 (lk_1r l11 (by decide)) (lk_1i l12 (by decide)) lk_1s (lq_l h)
        obtain ⟨r9, hr9, hq9⟩ := h
        obtain ⟨n9, hn9⟩ := lp_n hr9
        have I9 : ∀ (n : Nat) (x14 : Int32) (M15 : im_M) (L' : List (Nat × Value)), lw_S w M15 → im_lk L' 0 = some (.ref 108) → im_lk L' 1 = some (.int p0) → im_lk L' 2 = some (.int x3) → im_lk L' 3 = some (.int x8) → im_lk L' 4 = some (.int x14) → lpn (uc2 (f_MSquareRows_generate_L33 p0 x3 x8)) n (x14, M15) = some r9 → ia (tb_G L xs) (dep + 1) J_MSquareRows_generate (rwV w Q) (33, L', [], M15) := by
          intro n
          induction n with
          | zero => intro x14 M15 L' hM15 l16 l17 l18 l19 l20 hn; exact (lpn_0 hn).elim
          | succ n ih =>
            intro x14 M15 L' hM15 l16 l17 l18 l19 l20 hn
            have h := lpn_ed2 hn
            unfold f_MSquareRows_generate_L33 at h
            refine iq_iload hS 35 J_MSquareRows_generate_d33 l20 rfl ?_
            refine iq_if_le hS 38 J_MSquareRows_generate_d35 (t := 72) rfl (fun q35 => ?_) rfl (fun q35 => ?_)
            · replace h := ed_pos q35 h
              exact K9 _ _ hM15 l16 l17 l18 (lq_r h hq9)
            · replace h := ed_neg q35 h
              refine iq_aload_n hS 39 J_MSquareRows_generate_d38 l16 rfl ?_
              refine iq_getR hS 42 J_MSquareRows_generate_d39 lf_16_64 (Or.inr ⟨_, rfl⟩) (ka_108 hM15) (ra_108_26 hM15) rfl ?_
              refine iq_iload hS 44 J_MSquareRows_generate_d42 l20 rfl ?_
              refine iq_aload_n hS 45 J_MSquareRows_generate_d44 l16 rfl ?_
              refine iq_getR hS 48 J_MSquareRows_generate_d45 lf_16_64 (Or.inr ⟨_, rfl⟩) (ka_108 hM15) (ra_108_26 hM15) rfl ?_
              refine iq_iload hS 50 J_MSquareRows_generate_d48 l20 rfl ?_
              obtain ⟨g50, h⟩ := ed_gd h
              refine iq_iaload hS 51 J_MSquareRows_generate_d50 ⟨(ka_127 hM15).1, (ka_127 hM15).2, g50.1, ix_lt (kl_127 hM15) g50.2⟩ rfl ?_
              refine iq_aload_n hS 52 J_MSquareRows_generate_d51 l16 rfl ?_
              refine iq_getR hS 55 J_MSquareRows_generate_d52 lf_16_64 (Or.inr ⟨_, rfl⟩) (ka_108 hM15) (ra_108_26 hM15) rfl ?_
              refine iq_iload hS 57 J_MSquareRows_generate_d55 l20 rfl ?_
              refine iq_iconst hS 58 J_MSquareRows_generate_d57 (v := 1) (by decide +kernel) rfl ?_
              refine iq_isub hS 59 J_MSquareRows_generate_d58 rfl ?_
              obtain ⟨g59, h⟩ := ed_gd h
              refine iq_iaload hS 60 J_MSquareRows_generate_d59 ⟨(ka_127 hM15).1, (ka_127 hM15).2, g59.1, ix_lt (kl_127 hM15) g59.2⟩ rfl ?_
              refine iq_iload_n hS 61 J_MSquareRows_generate_d60 l19 rfl ?_
              obtain ⟨Q21, hQ21, h⟩ := bd1_ed h
              refine iq_cpI hS 64 J_MSquareRows_generate_d61 rfl (pr_stat (vs := [_, _]) lc_16_147 lT_411 rfl rfl (by decide) rfl (Nat.le_of_ble_eq_true rfl) (Nat.le_of_ble_eq_true rfl)) (f_MSquareRows_times_ok (dep := dep + 0) hM15 h) rfl ?_
              intro x21 h
              replace h := hQ21 _ h
              refine iq_ixor hS 65 J_MSquareRows_generate_d64 rfl ?_
              obtain ⟨g65, h⟩ := ed_gd h
              refine iq_iastore hS 66 J_MSquareRows_generate_d65 ⟨(ka_127 hM15).1, (ka_127 hM15).2, g65.1, ix_lt (kl_127 hM15) g65.2⟩ rfl ?_
              refine iq_iincv hS 69 J_MSquareRows_generate_d66 (c := (-1)) (by decide +kernel) l20 (by decide) rfl ?_
              refine iq_goto hS J_MSquareRows_generate_d69 (t := 33) rfl ?_
              exact ih _ _ _ (lw_sI hM15) (lk_1r l16 (by decide)) (lk_1i l17 (by decide)) (lk_1i l18 (by decide)) (lk_1i l19 (by decide)) lk_1s (lq_l h)
        exact I9 n9 _ _ _ (lw_sI hM4) (lk_1r (lk_1r l5 (by decide)) (by decide)) (lk_1i (lk_1i l6 (by decide)) (by decide)) (lk_1i (lk_1i l7 (by decide)) (by decide)) (lk_1i lk_1s (by decide)) lk_1s hn9
  exact I1 n1 _ _ _ (lw_sI hM) (lk_1r l0 (by decide)) (lk_1i l1 (by decide)) lk_1s hn1
theorem f_MSquareRows_generate_fr {p0 : Int32} {M : im_M} {r : im_M} (h : f_MSquareRows_generate p0 M = some r) : fr 170141183460469231731687303715884105728 [] M r := by
  replace h : ed (f_MSquareRows_generate p0 M) (fun x => x = r) := ⟨r, h, rfl⟩
  unfold f_MSquareRows_generate at h
  obtain ⟨g6, h⟩ := ed_gd h
  obtain ⟨Q1, hQ1, h⟩ := bd1_ed h
  have K1 : ∀ (M2 : im_M), fr 170141183460469231731687303715884105728 [] M M2 → Q1 M2 → fr 170141183460469231731687303715884105728 [] M r := by
    intro M2 hM2 h
    replace h := hQ1 _ h
    exact fr_retV h hM2
  obtain ⟨r1, hr1, hq1⟩ := h
  obtain ⟨n1, hn1⟩ := lp_n hr1
  have I1 : ∀ (n : Nat) (x3 : Int32) (M4 : im_M), fr 170141183460469231731687303715884105728 [] M M4 → lpn (uc2 (f_MSquareRows_generate_L9 p0)) n (x3, M4) = some r1 → fr 170141183460469231731687303715884105728 [] M r := by
    intro n
    induction n with
    | zero => intro x3 M4 hM4 hn; exact (lpn_0 hn).elim
    | succ n ih =>
      intro x3 M4 hM4 hn
      have h := lpn_ed2 hn
      unfold f_MSquareRows_generate_L9 at h
      by_cases q11 : p0 ≤ x3
      · replace h := ed_pos q11 h
        exact K1 _ hM4 (lq_r h hq1)
      · replace h := ed_neg q11 h
        obtain ⟨Q5, hQ5, h⟩ := bd1_ed h
        obtain ⟨x5, e5, h⟩ := h
        replace h := hQ5 _ h
        obtain ⟨g27, h⟩ := ed_gd h
        obtain ⟨Q6, hQ6, h⟩ := bd1_ed h
        have K6 : ∀ (M7 : im_M), fr 170141183460469231731687303715884105728 [] M M7 → Q6 M7 → fr 170141183460469231731687303715884105728 [] M r := by
          intro M7 hM7 h
          replace h := hQ6 _ h
          exact ih _ _ hM7 (lq_l h)
        obtain ⟨r6, hr6, hq6⟩ := h
        obtain ⟨n6, hn6⟩ := lp_n hr6
        have I6 : ∀ (n : Nat) (x8 : Int32) (M9 : im_M), fr 170141183460469231731687303715884105728 [] M M9 → lpn (uc2 (f_MSquareRows_generate_L33 p0 x3 x5)) n (x8, M9) = some r6 → fr 170141183460469231731687303715884105728 [] M r := by
          intro n
          induction n with
          | zero => intro x8 M9 hM9 hn; exact (lpn_0 hn).elim
          | succ n ih =>
            intro x8 M9 hM9 hn
            have h := lpn_ed2 hn
            unfold f_MSquareRows_generate_L33 at h
            by_cases q35 : x8 ≤ 0
            · replace h := ed_pos q35 h
              exact K6 _ hM9 (lq_r h hq6)
            · replace h := ed_neg q35 h
              obtain ⟨g50, h⟩ := ed_gd h
              obtain ⟨g59, h⟩ := ed_gd h
              obtain ⟨Q10, hQ10, h⟩ := bd1_ed h
              obtain ⟨x10, e10, h⟩ := h
              replace h := hQ10 _ h
              obtain ⟨g65, h⟩ := ed_gd h
              exact ih _ _ (fr_I (by decide) hM9) (lq_l h)
        exact I6 n6 _ _ (fr_I (by decide) hM4) hn6
  exact I1 n1 _ _ (fr_I (by decide) fr_refl) hn1
noncomputable def f_MSquareRows_shareOf (p0 : Int32) (p1 : Int32) (p2 : Int32) (M : im_M) : Option (Int32) := bd1 (f_MSquareRows_blocksOf p0 p1 M) fun (x1 : Int32) => bd1 (f_MSquareRows_holds p0 p1 M) fun (x2 : Int32) => gd (¬ x1 = (0 : Int32)) <| bd1 (f_MSquareRows_holds p0 p1 M) fun (x3 : Int32) => gd (¬ x1 = (0 : Int32)) <| if p2 < (x1 - (x3 - x3 / x1 * x1)) then some (x2 / x1) else some ((x2 / x1) + 1)
theorem J_MSquareRows_shareOf_d0 : decode J_MSquareRows_shareOf.2.1 0 = .ok (.aload_n 0, 1) := by decide +kernel
theorem J_MSquareRows_shareOf_d1 : decode J_MSquareRows_shareOf.2.1 1 = .ok (.iload_n 1, 1) := by decide +kernel
theorem J_MSquareRows_shareOf_d2 : decode J_MSquareRows_shareOf.2.1 2 = .ok (.iload_n 2, 1) := by decide +kernel
theorem J_MSquareRows_shareOf_d3 : decode J_MSquareRows_shareOf.2.1 3 = .ok (.invokevirtual 90, 3) := by decide +kernel
theorem J_MSquareRows_shareOf_d6 : decode J_MSquareRows_shareOf.2.1 6 = .ok (.istore 4, 2) := by decide +kernel
theorem J_MSquareRows_shareOf_d8 : decode J_MSquareRows_shareOf.2.1 8 = .ok (.aload_n 0, 1) := by decide +kernel
theorem J_MSquareRows_shareOf_d9 : decode J_MSquareRows_shareOf.2.1 9 = .ok (.iload_n 1, 1) := by decide +kernel
theorem J_MSquareRows_shareOf_d10 : decode J_MSquareRows_shareOf.2.1 10 = .ok (.iload_n 2, 1) := by decide +kernel
theorem J_MSquareRows_shareOf_d11 : decode J_MSquareRows_shareOf.2.1 11 = .ok (.invokevirtual 141, 3) := by decide +kernel
theorem J_MSquareRows_shareOf_d14 : decode J_MSquareRows_shareOf.2.1 14 = .ok (.iload 4, 2) := by decide +kernel
theorem J_MSquareRows_shareOf_d16 : decode J_MSquareRows_shareOf.2.1 16 = .ok (.idiv, 1) := by decide +kernel
theorem J_MSquareRows_shareOf_d17 : decode J_MSquareRows_shareOf.2.1 17 = .ok (.istore 5, 2) := by decide +kernel
theorem J_MSquareRows_shareOf_d19 : decode J_MSquareRows_shareOf.2.1 19 = .ok (.iload_n 3, 1) := by decide +kernel
theorem J_MSquareRows_shareOf_d20 : decode J_MSquareRows_shareOf.2.1 20 = .ok (.iload 4, 2) := by decide +kernel
theorem J_MSquareRows_shareOf_d22 : decode J_MSquareRows_shareOf.2.1 22 = .ok (.aload_n 0, 1) := by decide +kernel
theorem J_MSquareRows_shareOf_d23 : decode J_MSquareRows_shareOf.2.1 23 = .ok (.iload_n 1, 1) := by decide +kernel
theorem J_MSquareRows_shareOf_d24 : decode J_MSquareRows_shareOf.2.1 24 = .ok (.iload_n 2, 1) := by decide +kernel
theorem J_MSquareRows_shareOf_d25 : decode J_MSquareRows_shareOf.2.1 25 = .ok (.invokevirtual 141, 3) := by decide +kernel
theorem J_MSquareRows_shareOf_d28 : decode J_MSquareRows_shareOf.2.1 28 = .ok (.iload 4, 2) := by decide +kernel
theorem J_MSquareRows_shareOf_d30 : decode J_MSquareRows_shareOf.2.1 30 = .ok (.irem, 1) := by decide +kernel
theorem J_MSquareRows_shareOf_d31 : decode J_MSquareRows_shareOf.2.1 31 = .ok (.isub, 1) := by decide +kernel
theorem J_MSquareRows_shareOf_d32 : decode J_MSquareRows_shareOf.2.1 32 = .ok (.if_icmp .lt 10, 3) := by decide +kernel
theorem J_MSquareRows_shareOf_d35 : decode J_MSquareRows_shareOf.2.1 35 = .ok (.iload 5, 2) := by decide +kernel
theorem J_MSquareRows_shareOf_d37 : decode J_MSquareRows_shareOf.2.1 37 = .ok (.iconst 1, 1) := by decide +kernel
theorem J_MSquareRows_shareOf_d38 : decode J_MSquareRows_shareOf.2.1 38 = .ok (.iadd, 1) := by decide +kernel
theorem J_MSquareRows_shareOf_d39 : decode J_MSquareRows_shareOf.2.1 39 = .ok (.goto 5, 3) := by decide +kernel
theorem J_MSquareRows_shareOf_d42 : decode J_MSquareRows_shareOf.2.1 42 = .ok (.iload 5, 2) := by decide +kernel
theorem J_MSquareRows_shareOf_d44 : decode J_MSquareRows_shareOf.2.1 44 = .ok (.ireturn, 1) := by decide +kernel
theorem f_MSquareRows_shareOf_ok {L : Nat} {xs : Nat → Int32} {dep : Nat} {w : Bool} {p0 : Int32} {p1 : Int32} {p2 : Int32} {M : im_M} {Q : Int32 → Prop} (hM : lw_S w M) (h : ed (f_MSquareRows_shareOf p0 p1 p2 M) Q) : ia (tb_G L xs) (dep + 2) J_MSquareRows_shareOf (rpI M Q) (0, lv_args 0 [.ref 108, .int p0, .int p1, .int p2], [], M) := by
  have hS : im_St (tb_G L xs) (dep + 2) J_MSquareRows_shareOf (ia (tb_G L xs) (dep + 2) J_MSquareRows_shareOf (rpI M Q)) := ia_St
  unfold f_MSquareRows_shareOf at h
  have l0 : im_lk (lv_args 0 [.ref 108, .int p0, .int p1, .int p2]) 0 = some (.ref 108) := rfl
  have l1 : im_lk (lv_args 0 [.ref 108, .int p0, .int p1, .int p2]) 1 = some (.int p0) := rfl
  have l2 : im_lk (lv_args 0 [.ref 108, .int p0, .int p1, .int p2]) 2 = some (.int p1) := rfl
  have l3 : im_lk (lv_args 0 [.ref 108, .int p0, .int p1, .int p2]) 3 = some (.int p2) := rfl
  refine iq_aload_n hS 1 J_MSquareRows_shareOf_d0 l0 rfl ?_
  refine iq_iload_n hS 2 J_MSquareRows_shareOf_d1 l1 rfl ?_
  refine iq_iload_n hS 3 J_MSquareRows_shareOf_d2 l2 rfl ?_
  obtain ⟨Q1, hQ1, h⟩ := bd1_ed h
  refine iq_cpI hS 6 J_MSquareRows_shareOf_d3 rfl (pr_inst (vs := [_, _]) lc_16_90 lT_404 rfl rfl (by decide) (by decide) rfl (Nat.le_of_ble_eq_true rfl) (Nat.le_of_ble_eq_true rfl) (fun _ => Or.inl (pr_b (ka_108 hM) (by decide) rfl))) (f_MSquareRows_blocksOf_ok (dep := dep + 1) hM h) rfl ?_
  intro x1 h
  replace h := hQ1 _ h
  refine iq_istore hS 8 J_MSquareRows_shareOf_d6 (by decide) rfl ?_
  refine iq_aload_n hS 9 J_MSquareRows_shareOf_d8 (lk_1r l0 (by decide)) rfl ?_
  refine iq_iload_n hS 10 J_MSquareRows_shareOf_d9 (lk_1i l1 (by decide)) rfl ?_
  refine iq_iload_n hS 11 J_MSquareRows_shareOf_d10 (lk_1i l2 (by decide)) rfl ?_
  obtain ⟨Q2, hQ2, h⟩ := bd1_ed h
  refine iq_cpI hS 14 J_MSquareRows_shareOf_d11 rfl (pr_inst (vs := [_, _]) lc_16_141 lT_401 rfl rfl (by decide) (by decide) rfl (Nat.le_of_ble_eq_true rfl) (Nat.le_of_ble_eq_true rfl) (fun _ => Or.inl (pr_b (ka_108 hM) (by decide) rfl))) (f_MSquareRows_holds_ok (dep := dep + 0) hM h) rfl ?_
  intro x2 h
  replace h := hQ2 _ h
  refine iq_iload hS 16 J_MSquareRows_shareOf_d14 lk_1s rfl ?_
  obtain ⟨g16, h⟩ := ed_gd h
  refine iq_idiv hS 17 J_MSquareRows_shareOf_d16 g16 rfl ?_
  refine iq_istore hS 19 J_MSquareRows_shareOf_d17 (by decide) rfl ?_
  refine iq_iload_n hS 20 J_MSquareRows_shareOf_d19 (lk_1i (lk_1i l3 (by decide)) (by decide)) rfl ?_
  refine iq_iload hS 22 J_MSquareRows_shareOf_d20 (lk_1i lk_1s (by decide)) rfl ?_
  refine iq_aload_n hS 23 J_MSquareRows_shareOf_d22 (lk_1r (lk_1r l0 (by decide)) (by decide)) rfl ?_
  refine iq_iload_n hS 24 J_MSquareRows_shareOf_d23 (lk_1i (lk_1i l1 (by decide)) (by decide)) rfl ?_
  refine iq_iload_n hS 25 J_MSquareRows_shareOf_d24 (lk_1i (lk_1i l2 (by decide)) (by decide)) rfl ?_
  obtain ⟨Q3, hQ3, h⟩ := bd1_ed h
  refine iq_cpI hS 28 J_MSquareRows_shareOf_d25 rfl (pr_inst (vs := [_, _]) lc_16_141 lT_401 rfl rfl (by decide) (by decide) rfl (Nat.le_of_ble_eq_true rfl) (Nat.le_of_ble_eq_true rfl) (fun _ => Or.inl (pr_b (ka_108 hM) (by decide) rfl))) (f_MSquareRows_holds_ok (dep := dep + 0) hM h) rfl ?_
  intro x3 h
  replace h := hQ3 _ h
  refine iq_iload hS 30 J_MSquareRows_shareOf_d28 (lk_1i lk_1s (by decide)) rfl ?_
  obtain ⟨g30, h⟩ := ed_gd h
  refine iq_irem hS 31 J_MSquareRows_shareOf_d30 g30 rfl ?_
  refine iq_isub hS 32 J_MSquareRows_shareOf_d31 rfl ?_
  refine iq_icmp_lt hS 35 J_MSquareRows_shareOf_d32 (t := 42) rfl (fun q32 => ?_) rfl (fun q32 => ?_)
  · replace h := ed_pos q32 h
    refine iq_iload hS 44 J_MSquareRows_shareOf_d42 lk_1s rfl ?_
    exact iq_iret J_MSquareRows_shareOf_d44 rfl rfl ⟨_, rfl, rfl, ed_some h⟩
  · replace h := ed_neg q32 h
    refine iq_iload hS 37 J_MSquareRows_shareOf_d35 lk_1s rfl ?_
    refine iq_iconst hS 38 J_MSquareRows_shareOf_d37 (v := 1) (by decide +kernel) rfl ?_
    refine iq_iadd hS 39 J_MSquareRows_shareOf_d38 rfl ?_
    refine iq_goto hS J_MSquareRows_shareOf_d39 (t := 44) rfl ?_
    exact iq_iret J_MSquareRows_shareOf_d44 rfl rfl ⟨_, rfl, rfl, ed_some h⟩
noncomputable def f_MSquareRows_startOf_L6 (v2 : Int32) (v3 : Int32) (v4 : Int32) (M7 : im_M) (x5 : Int32) (x6 : Int32) : Option ((Int32 × Int32) ⊕ (Int32)) := if v4 ≤ x6 then some (.inr x5) else bd1 (f_MSquareRows_shareOf v2 v3 x6 M7) fun (x8 : Int32) => some (.inl ((x5 + x8), (x6 + 1)))
noncomputable def f_MSquareRows_startOf (p0 : Int32) (p1 : Int32) (p2 : Int32) (M : im_M) : Option (Int32) := bd1 (lp (uc2 (f_MSquareRows_startOf_L6 p0 p1 p2 M)) (0, 0)) fun (y9 : Int32) => some y9
theorem J_MSquareRows_startOf_d0 : decode J_MSquareRows_startOf.2.1 0 = .ok (.iconst 0, 1) := by decide +kernel
theorem J_MSquareRows_startOf_d1 : decode J_MSquareRows_startOf.2.1 1 = .ok (.istore 4, 2) := by decide +kernel
theorem J_MSquareRows_startOf_d3 : decode J_MSquareRows_startOf.2.1 3 = .ok (.iconst 0, 1) := by decide +kernel
theorem J_MSquareRows_startOf_d4 : decode J_MSquareRows_startOf.2.1 4 = .ok (.istore 5, 2) := by decide +kernel
theorem J_MSquareRows_startOf_d6 : decode J_MSquareRows_startOf.2.1 6 = .ok (.iload 5, 2) := by decide +kernel
theorem J_MSquareRows_startOf_d8 : decode J_MSquareRows_startOf.2.1 8 = .ok (.iload_n 3, 1) := by decide +kernel
theorem J_MSquareRows_startOf_d9 : decode J_MSquareRows_startOf.2.1 9 = .ok (.if_icmp .ge 22, 3) := by decide +kernel
theorem J_MSquareRows_startOf_d12 : decode J_MSquareRows_startOf.2.1 12 = .ok (.iload 4, 2) := by decide +kernel
theorem J_MSquareRows_startOf_d14 : decode J_MSquareRows_startOf.2.1 14 = .ok (.aload_n 0, 1) := by decide +kernel
theorem J_MSquareRows_startOf_d15 : decode J_MSquareRows_startOf.2.1 15 = .ok (.iload_n 1, 1) := by decide +kernel
theorem J_MSquareRows_startOf_d16 : decode J_MSquareRows_startOf.2.1 16 = .ok (.iload_n 2, 1) := by decide +kernel
theorem J_MSquareRows_startOf_d17 : decode J_MSquareRows_startOf.2.1 17 = .ok (.iload 5, 2) := by decide +kernel
theorem J_MSquareRows_startOf_d19 : decode J_MSquareRows_startOf.2.1 19 = .ok (.invokevirtual 150, 3) := by decide +kernel
theorem J_MSquareRows_startOf_d22 : decode J_MSquareRows_startOf.2.1 22 = .ok (.iadd, 1) := by decide +kernel
theorem J_MSquareRows_startOf_d23 : decode J_MSquareRows_startOf.2.1 23 = .ok (.istore 4, 2) := by decide +kernel
theorem J_MSquareRows_startOf_d25 : decode J_MSquareRows_startOf.2.1 25 = .ok (.iinc 5 1, 3) := by decide +kernel
theorem J_MSquareRows_startOf_d28 : decode J_MSquareRows_startOf.2.1 28 = .ok (.goto (-22), 3) := by decide +kernel
theorem J_MSquareRows_startOf_d31 : decode J_MSquareRows_startOf.2.1 31 = .ok (.iload 4, 2) := by decide +kernel
theorem J_MSquareRows_startOf_d33 : decode J_MSquareRows_startOf.2.1 33 = .ok (.ireturn, 1) := by decide +kernel
theorem f_MSquareRows_startOf_ok {L : Nat} {xs : Nat → Int32} {dep : Nat} {w : Bool} {p0 : Int32} {p1 : Int32} {p2 : Int32} {M : im_M} {Q : Int32 → Prop} (hM : lw_S w M) (h : ed (f_MSquareRows_startOf p0 p1 p2 M) Q) : ia (tb_G L xs) (dep + 3) J_MSquareRows_startOf (rpI M Q) (0, lv_args 0 [.ref 108, .int p0, .int p1, .int p2], [], M) := by
  have hS : im_St (tb_G L xs) (dep + 3) J_MSquareRows_startOf (ia (tb_G L xs) (dep + 3) J_MSquareRows_startOf (rpI M Q)) := ia_St
  unfold f_MSquareRows_startOf at h
  have l0 : im_lk (lv_args 0 [.ref 108, .int p0, .int p1, .int p2]) 0 = some (.ref 108) := rfl
  have l1 : im_lk (lv_args 0 [.ref 108, .int p0, .int p1, .int p2]) 1 = some (.int p0) := rfl
  have l2 : im_lk (lv_args 0 [.ref 108, .int p0, .int p1, .int p2]) 2 = some (.int p1) := rfl
  have l3 : im_lk (lv_args 0 [.ref 108, .int p0, .int p1, .int p2]) 3 = some (.int p2) := rfl
  refine iq_iconst hS 1 J_MSquareRows_startOf_d0 (v := 0) (by decide +kernel) rfl ?_
  refine iq_istore hS 3 J_MSquareRows_startOf_d1 (by decide) rfl ?_
  refine iq_iconst hS 4 J_MSquareRows_startOf_d3 (v := 0) (by decide +kernel) rfl ?_
  refine iq_istore hS 6 J_MSquareRows_startOf_d4 (by decide) rfl ?_
  obtain ⟨Q1, hQ1, h⟩ := bd1_ed h
  have K1 : ∀ (y2 : Int32) (L' : List (Nat × Value)), im_lk L' 4 = some (.int y2) → Q1 y2 → ia (tb_G L xs) (dep + 3) J_MSquareRows_startOf (rpI M Q) (31, L', [], M) := by
    intro y2 L' l3 h
    replace h := hQ1 _ h
    refine iq_iload hS 33 J_MSquareRows_startOf_d31 l3 rfl ?_
    exact iq_iret J_MSquareRows_startOf_d33 rfl rfl ⟨_, rfl, rfl, ed_some h⟩
  obtain ⟨r1, hr1, hq1⟩ := h
  obtain ⟨n1, hn1⟩ := lp_n hr1
  have I1 : ∀ (n : Nat) (x4 : Int32) (x5 : Int32) (L' : List (Nat × Value)), im_lk L' 0 = some (.ref 108) → im_lk L' 1 = some (.int p0) → im_lk L' 2 = some (.int p1) → im_lk L' 3 = some (.int p2) → im_lk L' 4 = some (.int x4) → im_lk L' 5 = some (.int x5) → lpn (uc2 (f_MSquareRows_startOf_L6 p0 p1 p2 M)) n (x4, x5) = some r1 → ia (tb_G L xs) (dep + 3) J_MSquareRows_startOf (rpI M Q) (6, L', [], M) := by
    intro n
    induction n with
    | zero => intro x4 x5 L' l6 l7 l8 l9 l10 l11 hn; exact (lpn_0 hn).elim
    | succ n ih =>
      intro x4 x5 L' l6 l7 l8 l9 l10 l11 hn
      have h := lpn_ed2 hn
      unfold f_MSquareRows_startOf_L6 at h
      refine iq_iload hS 8 J_MSquareRows_startOf_d6 l11 rfl ?_
      refine iq_iload_n hS 9 J_MSquareRows_startOf_d8 l9 rfl ?_
      refine iq_icmp_ge hS 12 J_MSquareRows_startOf_d9 (t := 31) rfl (fun q9 => ?_) rfl (fun q9 => ?_)
      · replace h := ed_pos q9 h
        exact K1 _ _ l10 (lq_r h hq1)
      · replace h := ed_neg q9 h
        refine iq_iload hS 14 J_MSquareRows_startOf_d12 l10 rfl ?_
        refine iq_aload_n hS 15 J_MSquareRows_startOf_d14 l6 rfl ?_
        refine iq_iload_n hS 16 J_MSquareRows_startOf_d15 l7 rfl ?_
        refine iq_iload_n hS 17 J_MSquareRows_startOf_d16 l8 rfl ?_
        refine iq_iload hS 19 J_MSquareRows_startOf_d17 l11 rfl ?_
        obtain ⟨Q12, hQ12, h⟩ := bd1_ed h
        refine iq_cpI hS 22 J_MSquareRows_startOf_d19 rfl (pr_inst (vs := [_, _, _]) lc_16_150 lT_412 rfl rfl (by decide) (by decide) rfl (Nat.le_of_ble_eq_true rfl) (Nat.le_of_ble_eq_true rfl) (fun _ => Or.inl (pr_b (ka_108 hM) (by decide) rfl))) (f_MSquareRows_shareOf_ok (dep := dep + 0) hM h) rfl ?_
        intro x12 h
        replace h := hQ12 _ h
        refine iq_iadd hS 23 J_MSquareRows_startOf_d22 rfl ?_
        refine iq_istore hS 25 J_MSquareRows_startOf_d23 (by decide) rfl ?_
        refine iq_iincv hS 28 J_MSquareRows_startOf_d25 (c := 1) (by decide +kernel) (lk_1i l11 (by decide)) (by decide) rfl ?_
        refine iq_goto hS J_MSquareRows_startOf_d28 (t := 6) rfl ?_
        exact ih _ _ _ (lk_1r (lk_1r l6 (by decide)) (by decide)) (lk_1i (lk_1i l7 (by decide)) (by decide)) (lk_1i (lk_1i l8 (by decide)) (by decide)) (lk_1i (lk_1i l9 (by decide)) (by decide)) (lk_1i lk_1s (by decide)) lk_1s (lq_l h)
  exact I1 n1 _ _ _ (lk_1r (lk_1r l0 (by decide)) (by decide)) (lk_1i (lk_1i l1 (by decide)) (by decide)) (lk_1i (lk_1i l2 (by decide)) (by decide)) (lk_1i (lk_1i l3 (by decide)) (by decide)) (lk_1i lk_1s (by decide)) lk_1s hn1
noncomputable def f_MSquareRows_placeOf (p0 : Int32) (p1 : Int32) (p2 : Int32) (p3 : Int32) (M : im_M) : Option (Int32) := bd1 (f_MSquareRows_blocksOf p0 p1 M) fun (x1 : Int32) => bd1 (f_MSquareRows_shareOf p0 p1 p2 M) fun (x2 : Int32) => if p3 < x2 then bd1 (f_MSquareRows_holds p0 p1 M) fun (x3 : Int32) => gd (¬ x1 = (0 : Int32)) <| bd1 (f_MSquareRows_holds p0 p1 M) fun (x4 : Int32) => gd (¬ x1 = (0 : Int32)) <| if (x3 / x1) ≤ p3 then some ((((x3 / x1) * x1) + p2) - (x1 - (x4 - x4 / x1 * x1))) else some ((p3 * x1) + p2) else bd1 (f_MSquareRows_holds p0 p1 M) fun (x5 : Int32) => some ((x5 + ((p3 - x2) * x1)) + p2)
theorem J_MSquareRows_placeOf_d0 : decode J_MSquareRows_placeOf.2.1 0 = .ok (.aload_n 0, 1) := by decide +kernel
theorem J_MSquareRows_placeOf_d1 : decode J_MSquareRows_placeOf.2.1 1 = .ok (.iload_n 1, 1) := by decide +kernel
theorem J_MSquareRows_placeOf_d2 : decode J_MSquareRows_placeOf.2.1 2 = .ok (.iload_n 2, 1) := by decide +kernel
theorem J_MSquareRows_placeOf_d3 : decode J_MSquareRows_placeOf.2.1 3 = .ok (.invokevirtual 90, 3) := by decide +kernel
theorem J_MSquareRows_placeOf_d6 : decode J_MSquareRows_placeOf.2.1 6 = .ok (.istore 5, 2) := by decide +kernel
theorem J_MSquareRows_placeOf_d8 : decode J_MSquareRows_placeOf.2.1 8 = .ok (.aload_n 0, 1) := by decide +kernel
theorem J_MSquareRows_placeOf_d9 : decode J_MSquareRows_placeOf.2.1 9 = .ok (.iload_n 1, 1) := by decide +kernel
theorem J_MSquareRows_placeOf_d10 : decode J_MSquareRows_placeOf.2.1 10 = .ok (.iload_n 2, 1) := by decide +kernel
theorem J_MSquareRows_placeOf_d11 : decode J_MSquareRows_placeOf.2.1 11 = .ok (.iload_n 3, 1) := by decide +kernel
theorem J_MSquareRows_placeOf_d12 : decode J_MSquareRows_placeOf.2.1 12 = .ok (.invokevirtual 150, 3) := by decide +kernel
theorem J_MSquareRows_placeOf_d15 : decode J_MSquareRows_placeOf.2.1 15 = .ok (.istore 6, 2) := by decide +kernel
theorem J_MSquareRows_placeOf_d17 : decode J_MSquareRows_placeOf.2.1 17 = .ok (.iload 4, 2) := by decide +kernel
theorem J_MSquareRows_placeOf_d19 : decode J_MSquareRows_placeOf.2.1 19 = .ok (.iload 6, 2) := by decide +kernel
theorem J_MSquareRows_placeOf_d21 : decode J_MSquareRows_placeOf.2.1 21 = .ok (.if_icmp .lt 21, 3) := by decide +kernel
theorem J_MSquareRows_placeOf_d24 : decode J_MSquareRows_placeOf.2.1 24 = .ok (.aload_n 0, 1) := by decide +kernel
theorem J_MSquareRows_placeOf_d25 : decode J_MSquareRows_placeOf.2.1 25 = .ok (.iload_n 1, 1) := by decide +kernel
theorem J_MSquareRows_placeOf_d26 : decode J_MSquareRows_placeOf.2.1 26 = .ok (.iload_n 2, 1) := by decide +kernel
theorem J_MSquareRows_placeOf_d27 : decode J_MSquareRows_placeOf.2.1 27 = .ok (.invokevirtual 141, 3) := by decide +kernel
theorem J_MSquareRows_placeOf_d30 : decode J_MSquareRows_placeOf.2.1 30 = .ok (.iload 4, 2) := by decide +kernel
theorem J_MSquareRows_placeOf_d32 : decode J_MSquareRows_placeOf.2.1 32 = .ok (.iload 6, 2) := by decide +kernel
theorem J_MSquareRows_placeOf_d34 : decode J_MSquareRows_placeOf.2.1 34 = .ok (.isub, 1) := by decide +kernel
theorem J_MSquareRows_placeOf_d35 : decode J_MSquareRows_placeOf.2.1 35 = .ok (.iload 5, 2) := by decide +kernel
theorem J_MSquareRows_placeOf_d37 : decode J_MSquareRows_placeOf.2.1 37 = .ok (.imul, 1) := by decide +kernel
theorem J_MSquareRows_placeOf_d38 : decode J_MSquareRows_placeOf.2.1 38 = .ok (.iadd, 1) := by decide +kernel
theorem J_MSquareRows_placeOf_d39 : decode J_MSquareRows_placeOf.2.1 39 = .ok (.iload_n 3, 1) := by decide +kernel
theorem J_MSquareRows_placeOf_d40 : decode J_MSquareRows_placeOf.2.1 40 = .ok (.iadd, 1) := by decide +kernel
theorem J_MSquareRows_placeOf_d41 : decode J_MSquareRows_placeOf.2.1 41 = .ok (.ireturn, 1) := by decide +kernel
theorem J_MSquareRows_placeOf_d42 : decode J_MSquareRows_placeOf.2.1 42 = .ok (.aload_n 0, 1) := by decide +kernel
theorem J_MSquareRows_placeOf_d43 : decode J_MSquareRows_placeOf.2.1 43 = .ok (.iload_n 1, 1) := by decide +kernel
theorem J_MSquareRows_placeOf_d44 : decode J_MSquareRows_placeOf.2.1 44 = .ok (.iload_n 2, 1) := by decide +kernel
theorem J_MSquareRows_placeOf_d45 : decode J_MSquareRows_placeOf.2.1 45 = .ok (.invokevirtual 141, 3) := by decide +kernel
theorem J_MSquareRows_placeOf_d48 : decode J_MSquareRows_placeOf.2.1 48 = .ok (.iload 5, 2) := by decide +kernel
theorem J_MSquareRows_placeOf_d50 : decode J_MSquareRows_placeOf.2.1 50 = .ok (.idiv, 1) := by decide +kernel
theorem J_MSquareRows_placeOf_d51 : decode J_MSquareRows_placeOf.2.1 51 = .ok (.istore 7, 2) := by decide +kernel
theorem J_MSquareRows_placeOf_d53 : decode J_MSquareRows_placeOf.2.1 53 = .ok (.iload 5, 2) := by decide +kernel
theorem J_MSquareRows_placeOf_d55 : decode J_MSquareRows_placeOf.2.1 55 = .ok (.aload_n 0, 1) := by decide +kernel
theorem J_MSquareRows_placeOf_d56 : decode J_MSquareRows_placeOf.2.1 56 = .ok (.iload_n 1, 1) := by decide +kernel
theorem J_MSquareRows_placeOf_d57 : decode J_MSquareRows_placeOf.2.1 57 = .ok (.iload_n 2, 1) := by decide +kernel
theorem J_MSquareRows_placeOf_d58 : decode J_MSquareRows_placeOf.2.1 58 = .ok (.invokevirtual 141, 3) := by decide +kernel
theorem J_MSquareRows_placeOf_d61 : decode J_MSquareRows_placeOf.2.1 61 = .ok (.iload 5, 2) := by decide +kernel
theorem J_MSquareRows_placeOf_d63 : decode J_MSquareRows_placeOf.2.1 63 = .ok (.irem, 1) := by decide +kernel
theorem J_MSquareRows_placeOf_d64 : decode J_MSquareRows_placeOf.2.1 64 = .ok (.isub, 1) := by decide +kernel
theorem J_MSquareRows_placeOf_d65 : decode J_MSquareRows_placeOf.2.1 65 = .ok (.istore 8, 2) := by decide +kernel
theorem J_MSquareRows_placeOf_d67 : decode J_MSquareRows_placeOf.2.1 67 = .ok (.iload 4, 2) := by decide +kernel
theorem J_MSquareRows_placeOf_d69 : decode J_MSquareRows_placeOf.2.1 69 = .ok (.iload 7, 2) := by decide +kernel
theorem J_MSquareRows_placeOf_d71 : decode J_MSquareRows_placeOf.2.1 71 = .ok (.if_icmp .ge 13, 3) := by decide +kernel
theorem J_MSquareRows_placeOf_d74 : decode J_MSquareRows_placeOf.2.1 74 = .ok (.iload 4, 2) := by decide +kernel
theorem J_MSquareRows_placeOf_d76 : decode J_MSquareRows_placeOf.2.1 76 = .ok (.iload 5, 2) := by decide +kernel
theorem J_MSquareRows_placeOf_d78 : decode J_MSquareRows_placeOf.2.1 78 = .ok (.imul, 1) := by decide +kernel
theorem J_MSquareRows_placeOf_d79 : decode J_MSquareRows_placeOf.2.1 79 = .ok (.iload_n 3, 1) := by decide +kernel
theorem J_MSquareRows_placeOf_d80 : decode J_MSquareRows_placeOf.2.1 80 = .ok (.iadd, 1) := by decide +kernel
theorem J_MSquareRows_placeOf_d81 : decode J_MSquareRows_placeOf.2.1 81 = .ok (.goto 13, 3) := by decide +kernel
theorem J_MSquareRows_placeOf_d84 : decode J_MSquareRows_placeOf.2.1 84 = .ok (.iload 7, 2) := by decide +kernel
theorem J_MSquareRows_placeOf_d86 : decode J_MSquareRows_placeOf.2.1 86 = .ok (.iload 5, 2) := by decide +kernel
theorem J_MSquareRows_placeOf_d88 : decode J_MSquareRows_placeOf.2.1 88 = .ok (.imul, 1) := by decide +kernel
theorem J_MSquareRows_placeOf_d89 : decode J_MSquareRows_placeOf.2.1 89 = .ok (.iload_n 3, 1) := by decide +kernel
theorem J_MSquareRows_placeOf_d90 : decode J_MSquareRows_placeOf.2.1 90 = .ok (.iadd, 1) := by decide +kernel
theorem J_MSquareRows_placeOf_d91 : decode J_MSquareRows_placeOf.2.1 91 = .ok (.iload 8, 2) := by decide +kernel
theorem J_MSquareRows_placeOf_d93 : decode J_MSquareRows_placeOf.2.1 93 = .ok (.isub, 1) := by decide +kernel
theorem J_MSquareRows_placeOf_d94 : decode J_MSquareRows_placeOf.2.1 94 = .ok (.ireturn, 1) := by decide +kernel
theorem f_MSquareRows_placeOf_ok {L : Nat} {xs : Nat → Int32} {dep : Nat} {w : Bool} {p0 : Int32} {p1 : Int32} {p2 : Int32} {p3 : Int32} {M : im_M} {Q : Int32 → Prop} (hM : lw_S w M) (h : ed (f_MSquareRows_placeOf p0 p1 p2 p3 M) Q) : ia (tb_G L xs) (dep + 3) J_MSquareRows_placeOf (rpI M Q) (0, lv_args 0 [.ref 108, .int p0, .int p1, .int p2, .int p3], [], M) := by
  have hS : im_St (tb_G L xs) (dep + 3) J_MSquareRows_placeOf (ia (tb_G L xs) (dep + 3) J_MSquareRows_placeOf (rpI M Q)) := ia_St
  unfold f_MSquareRows_placeOf at h
  have l0 : im_lk (lv_args 0 [.ref 108, .int p0, .int p1, .int p2, .int p3]) 0 = some (.ref 108) := rfl
  have l1 : im_lk (lv_args 0 [.ref 108, .int p0, .int p1, .int p2, .int p3]) 1 = some (.int p0) := rfl
  have l2 : im_lk (lv_args 0 [.ref 108, .int p0, .int p1, .int p2, .int p3]) 2 = some (.int p1) := rfl
  have l3 : im_lk (lv_args 0 [.ref 108, .int p0, .int p1, .int p2, .int p3]) 3 = some (.int p2) := rfl
  have l4 : im_lk (lv_args 0 [.ref 108, .int p0, .int p1, .int p2, .int p3]) 4 = some (.int p3) := rfl
  refine iq_aload_n hS 1 J_MSquareRows_placeOf_d0 l0 rfl ?_
  refine iq_iload_n hS 2 J_MSquareRows_placeOf_d1 l1 rfl ?_
  refine iq_iload_n hS 3 J_MSquareRows_placeOf_d2 l2 rfl ?_
  obtain ⟨Q1, hQ1, h⟩ := bd1_ed h
  refine iq_cpI hS 6 J_MSquareRows_placeOf_d3 rfl (pr_inst (vs := [_, _]) lc_16_90 lT_404 rfl rfl (by decide) (by decide) rfl (Nat.le_of_ble_eq_true rfl) (Nat.le_of_ble_eq_true rfl) (fun _ => Or.inl (pr_b (ka_108 hM) (by decide) rfl))) (f_MSquareRows_blocksOf_ok (dep := dep + 2) hM h) rfl ?_
  intro x1 h
  replace h := hQ1 _ h
  refine iq_istore hS 8 J_MSquareRows_placeOf_d6 (by decide) rfl ?_
  refine iq_aload_n hS 9 J_MSquareRows_placeOf_d8 (lk_1r l0 (by decide)) rfl ?_
  refine iq_iload_n hS 10 J_MSquareRows_placeOf_d9 (lk_1i l1 (by decide)) rfl ?_
  refine iq_iload_n hS 11 J_MSquareRows_placeOf_d10 (lk_1i l2 (by decide)) rfl ?_
  refine iq_iload_n hS 12 J_MSquareRows_placeOf_d11 (lk_1i l3 (by decide)) rfl ?_
  obtain ⟨Q2, hQ2, h⟩ := bd1_ed h
  refine iq_cpI hS 15 J_MSquareRows_placeOf_d12 rfl (pr_inst (vs := [_, _, _]) lc_16_150 lT_412 rfl rfl (by decide) (by decide) rfl (Nat.le_of_ble_eq_true rfl) (Nat.le_of_ble_eq_true rfl) (fun _ => Or.inl (pr_b (ka_108 hM) (by decide) rfl))) (f_MSquareRows_shareOf_ok (dep := dep + 0) hM h) rfl ?_
  intro x2 h
  replace h := hQ2 _ h
  refine iq_istore hS 17 J_MSquareRows_placeOf_d15 (by decide) rfl ?_
  refine iq_iload hS 19 J_MSquareRows_placeOf_d17 (lk_1i (lk_1i l4 (by decide)) (by decide)) rfl ?_
  refine iq_iload hS 21 J_MSquareRows_placeOf_d19 lk_1s rfl ?_
  refine iq_icmp_lt hS 24 J_MSquareRows_placeOf_d21 (t := 42) rfl (fun q21 => ?_) rfl (fun q21 => ?_)
  · replace h := ed_pos q21 h
    refine iq_aload_n hS 43 J_MSquareRows_placeOf_d42 (lk_1r (lk_1r l0 (by decide)) (by decide)) rfl ?_
    refine iq_iload_n hS 44 J_MSquareRows_placeOf_d43 (lk_1i (lk_1i l1 (by decide)) (by decide)) rfl ?_
    refine iq_iload_n hS 45 J_MSquareRows_placeOf_d44 (lk_1i (lk_1i l2 (by decide)) (by decide)) rfl ?_
    obtain ⟨Q3, hQ3, h⟩ := bd1_ed h
    refine iq_cpI hS 48 J_MSquareRows_placeOf_d45 rfl (pr_inst (vs := [_, _]) lc_16_141 lT_401 rfl rfl (by decide) (by decide) rfl (Nat.le_of_ble_eq_true rfl) (Nat.le_of_ble_eq_true rfl) (fun _ => Or.inl (pr_b (ka_108 hM) (by decide) rfl))) (f_MSquareRows_holds_ok (dep := dep + 1) hM h) rfl ?_
    intro x3 h
    replace h := hQ3 _ h
    refine iq_iload hS 50 J_MSquareRows_placeOf_d48 (lk_1i lk_1s (by decide)) rfl ?_
    obtain ⟨g50, h⟩ := ed_gd h
    refine iq_idiv hS 51 J_MSquareRows_placeOf_d50 g50 rfl ?_
    refine iq_istore hS 53 J_MSquareRows_placeOf_d51 (by decide) rfl ?_
    refine iq_iload hS 55 J_MSquareRows_placeOf_d53 (lk_1i (lk_1i lk_1s (by decide)) (by decide)) rfl ?_
    refine iq_aload_n hS 56 J_MSquareRows_placeOf_d55 (lk_1r (lk_1r (lk_1r l0 (by decide)) (by decide)) (by decide)) rfl ?_
    refine iq_iload_n hS 57 J_MSquareRows_placeOf_d56 (lk_1i (lk_1i (lk_1i l1 (by decide)) (by decide)) (by decide)) rfl ?_
    refine iq_iload_n hS 58 J_MSquareRows_placeOf_d57 (lk_1i (lk_1i (lk_1i l2 (by decide)) (by decide)) (by decide)) rfl ?_
    obtain ⟨Q4, hQ4, h⟩ := bd1_ed h
    refine iq_cpI hS 61 J_MSquareRows_placeOf_d58 rfl (pr_inst (vs := [_, _]) lc_16_141 lT_401 rfl rfl (by decide) (by decide) rfl (Nat.le_of_ble_eq_true rfl) (Nat.le_of_ble_eq_true rfl) (fun _ => Or.inl (pr_b (ka_108 hM) (by decide) rfl))) (f_MSquareRows_holds_ok (dep := dep + 1) hM h) rfl ?_
    intro x4 h
    replace h := hQ4 _ h
    refine iq_iload hS 63 J_MSquareRows_placeOf_d61 (lk_1i (lk_1i lk_1s (by decide)) (by decide)) rfl ?_
    obtain ⟨g63, h⟩ := ed_gd h
    refine iq_irem hS 64 J_MSquareRows_placeOf_d63 g63 rfl ?_
    refine iq_isub hS 65 J_MSquareRows_placeOf_d64 rfl ?_
    refine iq_istore hS 67 J_MSquareRows_placeOf_d65 (by decide) rfl ?_
    refine iq_iload hS 69 J_MSquareRows_placeOf_d67 (lk_1i (lk_1i (lk_1i (lk_1i l4 (by decide)) (by decide)) (by decide)) (by decide)) rfl ?_
    refine iq_iload hS 71 J_MSquareRows_placeOf_d69 (lk_1i lk_1s (by decide)) rfl ?_
    refine iq_icmp_ge hS 74 J_MSquareRows_placeOf_d71 (t := 84) rfl (fun q71 => ?_) rfl (fun q71 => ?_)
    · replace h := ed_pos q71 h
      refine iq_iload hS 86 J_MSquareRows_placeOf_d84 (lk_1i lk_1s (by decide)) rfl ?_
      refine iq_iload hS 88 J_MSquareRows_placeOf_d86 (lk_1i (lk_1i (lk_1i lk_1s (by decide)) (by decide)) (by decide)) rfl ?_
      refine iq_imul hS 89 J_MSquareRows_placeOf_d88 rfl ?_
      refine iq_iload_n hS 90 J_MSquareRows_placeOf_d89 (lk_1i (lk_1i (lk_1i (lk_1i l3 (by decide)) (by decide)) (by decide)) (by decide)) rfl ?_
      refine iq_iadd hS 91 J_MSquareRows_placeOf_d90 rfl ?_
      refine iq_iload hS 93 J_MSquareRows_placeOf_d91 lk_1s rfl ?_
      refine iq_isub hS 94 J_MSquareRows_placeOf_d93 rfl ?_
      exact iq_iret J_MSquareRows_placeOf_d94 rfl rfl ⟨_, rfl, rfl, ed_some h⟩
    · replace h := ed_neg q71 h
      refine iq_iload hS 76 J_MSquareRows_placeOf_d74 (lk_1i (lk_1i (lk_1i (lk_1i l4 (by decide)) (by decide)) (by decide)) (by decide)) rfl ?_
      refine iq_iload hS 78 J_MSquareRows_placeOf_d76 (lk_1i (lk_1i (lk_1i lk_1s (by decide)) (by decide)) (by decide)) rfl ?_
      refine iq_imul hS 79 J_MSquareRows_placeOf_d78 rfl ?_
      refine iq_iload_n hS 80 J_MSquareRows_placeOf_d79 (lk_1i (lk_1i (lk_1i (lk_1i l3 (by decide)) (by decide)) (by decide)) (by decide)) rfl ?_
      refine iq_iadd hS 81 J_MSquareRows_placeOf_d80 rfl ?_
      refine iq_goto hS J_MSquareRows_placeOf_d81 (t := 94) rfl ?_
      exact iq_iret J_MSquareRows_placeOf_d94 rfl rfl ⟨_, rfl, rfl, ed_some h⟩
  · replace h := ed_neg q21 h
    refine iq_aload_n hS 25 J_MSquareRows_placeOf_d24 (lk_1r (lk_1r l0 (by decide)) (by decide)) rfl ?_
    refine iq_iload_n hS 26 J_MSquareRows_placeOf_d25 (lk_1i (lk_1i l1 (by decide)) (by decide)) rfl ?_
    refine iq_iload_n hS 27 J_MSquareRows_placeOf_d26 (lk_1i (lk_1i l2 (by decide)) (by decide)) rfl ?_
    obtain ⟨Q5, hQ5, h⟩ := bd1_ed h
    refine iq_cpI hS 30 J_MSquareRows_placeOf_d27 rfl (pr_inst (vs := [_, _]) lc_16_141 lT_401 rfl rfl (by decide) (by decide) rfl (Nat.le_of_ble_eq_true rfl) (Nat.le_of_ble_eq_true rfl) (fun _ => Or.inl (pr_b (ka_108 hM) (by decide) rfl))) (f_MSquareRows_holds_ok (dep := dep + 1) hM h) rfl ?_
    intro x5 h
    replace h := hQ5 _ h
    refine iq_iload hS 32 J_MSquareRows_placeOf_d30 (lk_1i (lk_1i l4 (by decide)) (by decide)) rfl ?_
    refine iq_iload hS 34 J_MSquareRows_placeOf_d32 lk_1s rfl ?_
    refine iq_isub hS 35 J_MSquareRows_placeOf_d34 rfl ?_
    refine iq_iload hS 37 J_MSquareRows_placeOf_d35 (lk_1i lk_1s (by decide)) rfl ?_
    refine iq_imul hS 38 J_MSquareRows_placeOf_d37 rfl ?_
    refine iq_iadd hS 39 J_MSquareRows_placeOf_d38 rfl ?_
    refine iq_iload_n hS 40 J_MSquareRows_placeOf_d39 (lk_1i (lk_1i l3 (by decide)) (by decide)) rfl ?_
    refine iq_iadd hS 41 J_MSquareRows_placeOf_d40 rfl ?_
    exact iq_iret J_MSquareRows_placeOf_d41 rfl rfl ⟨_, rfl, rfl, ed_some h⟩
