/-! METHODS AS FUNCTIONS -/
noncomputable def f_MDotRows_run_L72 (v13 : Int32) (v14 : Int32) (v15 : Int32) (v16 : Int32) (v17 : Int32) (M21 : im_M) (x18 : Int32) (x19 : Int32) (x20 : Int32) : Option ((Int32 × Int32 × Int32) ⊕ (Int32)) := bd1 (f_MDotRows_isOn (v13 + (x20 * v16)) (v14 + (x20 * v17)) M21) fun (x22 : Int32) => if x22 = 0 then some (.inr x19) else bd1 (f_MDotRows_isDark (v13 + (x20 * v16)) (v14 + (x20 * v17)) M21) fun (x23 : Int32) => bd1 (if x20 ≤ 0 then some x18 else bd1 (f_MDotRows_isDark (v13 + ((x20 - 1) * v16)) (v14 + ((x20 - 1) * v17)) M21) fun (x25 : Int32) => if x23 = x25 then some x18 else some (x18 + 1)) fun (y26 : Int32) => some (.inl (y26, (x19 + ((if ¬ y26 = v15 then 0 else 1) : Int32)), (x20 + 1)))
noncomputable def f_MDotRows_run (p0 : Int32) (p1 : Int32) (p2 : Int32) (p3 : Int32) (M : im_M) : Option (Int32 × im_M) := bd1 (f_MDotRows_noPlace p0 p1 M) fun (x1 : Int32) => bd1 (if x1 = 0 then bd1 (f_MDotRows_isOn p0 p1 M) fun (x3 : Int32) => if x3 = 0 then some 2 else some 0 else some 1) fun (y4 : Int32) => if (im_i (im_setI M 89 0 y4) 89 0) ≤ 0 then bd1 (lp (uc3 (f_MDotRows_run_L72 p0 p1 p2 ((if p3 = 0 then 1 else 0) : Int32) ((if p3 = 0 then 0 else 1) : Int32) (im_setI M 89 0 y4))) (0, 0, 0)) fun (y37 : Int32) => if ¬ y37 = 0 then some (y37, (im_setI M 89 0 y4)) else some ((-1), (im_setI M 89 0 y4)) else some (0, (im_setI M 89 0 y4))
theorem J_MDotRows_run_d0 : decode J_MDotRows_run.2.1 0 = .ok (.aload_n 0, 1) := by decide +kernel
theorem J_MDotRows_run_d1 : decode J_MDotRows_run.2.1 1 = .ok (.iload_n 1, 1) := by decide +kernel
theorem J_MDotRows_run_d2 : decode J_MDotRows_run.2.1 2 = .ok (.iload_n 2, 1) := by decide +kernel
theorem J_MDotRows_run_d3 : decode J_MDotRows_run.2.1 3 = .ok (.invokestatic 124, 3) := by decide +kernel
theorem J_MDotRows_run_d6 : decode J_MDotRows_run.2.1 6 = .ok (.ifCond .eq 7, 3) := by decide +kernel
theorem J_MDotRows_run_d9 : decode J_MDotRows_run.2.1 9 = .ok (.iconst 1, 1) := by decide +kernel
theorem J_MDotRows_run_d10 : decode J_MDotRows_run.2.1 10 = .ok (.goto 17, 3) := by decide +kernel
theorem J_MDotRows_run_d13 : decode J_MDotRows_run.2.1 13 = .ok (.aload_n 0, 1) := by decide +kernel
theorem J_MDotRows_run_d14 : decode J_MDotRows_run.2.1 14 = .ok (.iload_n 1, 1) := by decide +kernel
theorem J_MDotRows_run_d15 : decode J_MDotRows_run.2.1 15 = .ok (.iload_n 2, 1) := by decide +kernel
theorem J_MDotRows_run_d16 : decode J_MDotRows_run.2.1 16 = .ok (.invokevirtual 40, 3) := by decide +kernel
theorem J_MDotRows_run_d19 : decode J_MDotRows_run.2.1 19 = .ok (.ifCond .eq 7, 3) := by decide +kernel
theorem J_MDotRows_run_d22 : decode J_MDotRows_run.2.1 22 = .ok (.iconst 0, 1) := by decide +kernel
theorem J_MDotRows_run_d23 : decode J_MDotRows_run.2.1 23 = .ok (.goto 4, 3) := by decide +kernel
theorem J_MDotRows_run_d26 : decode J_MDotRows_run.2.1 26 = .ok (.iconst 2, 1) := by decide +kernel
theorem J_MDotRows_run_d27 : decode J_MDotRows_run.2.1 27 = .ok (.putfield 37, 3) := by decide +kernel
theorem J_MDotRows_run_d30 : decode J_MDotRows_run.2.1 30 = .ok (.aload_n 0, 1) := by decide +kernel
theorem J_MDotRows_run_d31 : decode J_MDotRows_run.2.1 31 = .ok (.getfield 37, 3) := by decide +kernel
theorem J_MDotRows_run_d34 : decode J_MDotRows_run.2.1 34 = .ok (.ifCond .le 5, 3) := by decide +kernel
theorem J_MDotRows_run_d37 : decode J_MDotRows_run.2.1 37 = .ok (.iconst 0, 1) := by decide +kernel
theorem J_MDotRows_run_d38 : decode J_MDotRows_run.2.1 38 = .ok (.ireturn, 1) := by decide +kernel
theorem J_MDotRows_run_d39 : decode J_MDotRows_run.2.1 39 = .ok (.iload 4, 2) := by decide +kernel
theorem J_MDotRows_run_d41 : decode J_MDotRows_run.2.1 41 = .ok (.ifCond .eq 7, 3) := by decide +kernel
theorem J_MDotRows_run_d44 : decode J_MDotRows_run.2.1 44 = .ok (.iconst 0, 1) := by decide +kernel
theorem J_MDotRows_run_d45 : decode J_MDotRows_run.2.1 45 = .ok (.goto 4, 3) := by decide +kernel
theorem J_MDotRows_run_d48 : decode J_MDotRows_run.2.1 48 = .ok (.iconst 1, 1) := by decide +kernel
theorem J_MDotRows_run_d49 : decode J_MDotRows_run.2.1 49 = .ok (.istore 5, 2) := by decide +kernel
theorem J_MDotRows_run_d51 : decode J_MDotRows_run.2.1 51 = .ok (.iload 4, 2) := by decide +kernel
theorem J_MDotRows_run_d53 : decode J_MDotRows_run.2.1 53 = .ok (.ifCond .eq 7, 3) := by decide +kernel
theorem J_MDotRows_run_d56 : decode J_MDotRows_run.2.1 56 = .ok (.iconst 1, 1) := by decide +kernel
theorem J_MDotRows_run_d57 : decode J_MDotRows_run.2.1 57 = .ok (.goto 4, 3) := by decide +kernel
theorem J_MDotRows_run_d60 : decode J_MDotRows_run.2.1 60 = .ok (.iconst 0, 1) := by decide +kernel
theorem J_MDotRows_run_d61 : decode J_MDotRows_run.2.1 61 = .ok (.istore 6, 2) := by decide +kernel
theorem J_MDotRows_run_d63 : decode J_MDotRows_run.2.1 63 = .ok (.iconst 0, 1) := by decide +kernel
theorem J_MDotRows_run_d64 : decode J_MDotRows_run.2.1 64 = .ok (.istore 7, 2) := by decide +kernel
theorem J_MDotRows_run_d66 : decode J_MDotRows_run.2.1 66 = .ok (.iconst 0, 1) := by decide +kernel
theorem J_MDotRows_run_d67 : decode J_MDotRows_run.2.1 67 = .ok (.istore 8, 2) := by decide +kernel
theorem J_MDotRows_run_d69 : decode J_MDotRows_run.2.1 69 = .ok (.iconst 0, 1) := by decide +kernel
theorem J_MDotRows_run_d70 : decode J_MDotRows_run.2.1 70 = .ok (.istore 9, 2) := by decide +kernel
theorem J_MDotRows_run_d72 : decode J_MDotRows_run.2.1 72 = .ok (.aload_n 0, 1) := by decide +kernel
theorem J_MDotRows_run_d73 : decode J_MDotRows_run.2.1 73 = .ok (.iload_n 1, 1) := by decide +kernel
theorem J_MDotRows_run_d74 : decode J_MDotRows_run.2.1 74 = .ok (.iload 9, 2) := by decide +kernel
theorem J_MDotRows_run_d76 : decode J_MDotRows_run.2.1 76 = .ok (.iload 5, 2) := by decide +kernel
theorem J_MDotRows_run_d78 : decode J_MDotRows_run.2.1 78 = .ok (.imul, 1) := by decide +kernel
theorem J_MDotRows_run_d79 : decode J_MDotRows_run.2.1 79 = .ok (.iadd, 1) := by decide +kernel
theorem J_MDotRows_run_d80 : decode J_MDotRows_run.2.1 80 = .ok (.iload_n 2, 1) := by decide +kernel
theorem J_MDotRows_run_d81 : decode J_MDotRows_run.2.1 81 = .ok (.iload 9, 2) := by decide +kernel
theorem J_MDotRows_run_d83 : decode J_MDotRows_run.2.1 83 = .ok (.iload 6, 2) := by decide +kernel
theorem J_MDotRows_run_d85 : decode J_MDotRows_run.2.1 85 = .ok (.imul, 1) := by decide +kernel
theorem J_MDotRows_run_d86 : decode J_MDotRows_run.2.1 86 = .ok (.iadd, 1) := by decide +kernel
theorem J_MDotRows_run_d87 : decode J_MDotRows_run.2.1 87 = .ok (.invokevirtual 40, 3) := by decide +kernel
theorem J_MDotRows_run_d90 : decode J_MDotRows_run.2.1 90 = .ok (.ifCond .eq 80, 3) := by decide +kernel
theorem J_MDotRows_run_d93 : decode J_MDotRows_run.2.1 93 = .ok (.aload_n 0, 1) := by decide +kernel
theorem J_MDotRows_run_d94 : decode J_MDotRows_run.2.1 94 = .ok (.iload_n 1, 1) := by decide +kernel
theorem J_MDotRows_run_d95 : decode J_MDotRows_run.2.1 95 = .ok (.iload 9, 2) := by decide +kernel
theorem J_MDotRows_run_d97 : decode J_MDotRows_run.2.1 97 = .ok (.iload 5, 2) := by decide +kernel
theorem J_MDotRows_run_d99 : decode J_MDotRows_run.2.1 99 = .ok (.imul, 1) := by decide +kernel
theorem J_MDotRows_run_d100 : decode J_MDotRows_run.2.1 100 = .ok (.iadd, 1) := by decide +kernel
theorem J_MDotRows_run_d101 : decode J_MDotRows_run.2.1 101 = .ok (.iload_n 2, 1) := by decide +kernel
theorem J_MDotRows_run_d102 : decode J_MDotRows_run.2.1 102 = .ok (.iload 9, 2) := by decide +kernel
theorem J_MDotRows_run_d104 : decode J_MDotRows_run.2.1 104 = .ok (.iload 6, 2) := by decide +kernel
theorem J_MDotRows_run_d106 : decode J_MDotRows_run.2.1 106 = .ok (.imul, 1) := by decide +kernel
theorem J_MDotRows_run_d107 : decode J_MDotRows_run.2.1 107 = .ok (.iadd, 1) := by decide +kernel
theorem J_MDotRows_run_d108 : decode J_MDotRows_run.2.1 108 = .ok (.invokevirtual 114, 3) := by decide +kernel
theorem J_MDotRows_run_d111 : decode J_MDotRows_run.2.1 111 = .ok (.istore 10, 2) := by decide +kernel
theorem J_MDotRows_run_d113 : decode J_MDotRows_run.2.1 113 = .ok (.iload 9, 2) := by decide +kernel
theorem J_MDotRows_run_d115 : decode J_MDotRows_run.2.1 115 = .ok (.ifCond .le 33, 3) := by decide +kernel
theorem J_MDotRows_run_d118 : decode J_MDotRows_run.2.1 118 = .ok (.iload 10, 2) := by decide +kernel
theorem J_MDotRows_run_d120 : decode J_MDotRows_run.2.1 120 = .ok (.aload_n 0, 1) := by decide +kernel
theorem J_MDotRows_run_d121 : decode J_MDotRows_run.2.1 121 = .ok (.iload_n 1, 1) := by decide +kernel
theorem J_MDotRows_run_d122 : decode J_MDotRows_run.2.1 122 = .ok (.iload 9, 2) := by decide +kernel
theorem J_MDotRows_run_d124 : decode J_MDotRows_run.2.1 124 = .ok (.iconst 1, 1) := by decide +kernel
theorem J_MDotRows_run_d125 : decode J_MDotRows_run.2.1 125 = .ok (.isub, 1) := by decide +kernel
theorem J_MDotRows_run_d126 : decode J_MDotRows_run.2.1 126 = .ok (.iload 5, 2) := by decide +kernel
theorem J_MDotRows_run_d128 : decode J_MDotRows_run.2.1 128 = .ok (.imul, 1) := by decide +kernel
theorem J_MDotRows_run_d129 : decode J_MDotRows_run.2.1 129 = .ok (.iadd, 1) := by decide +kernel
theorem J_MDotRows_run_d130 : decode J_MDotRows_run.2.1 130 = .ok (.iload_n 2, 1) := by decide +kernel
theorem J_MDotRows_run_d131 : decode J_MDotRows_run.2.1 131 = .ok (.iload 9, 2) := by decide +kernel
theorem J_MDotRows_run_d133 : decode J_MDotRows_run.2.1 133 = .ok (.iconst 1, 1) := by decide +kernel
theorem J_MDotRows_run_d134 : decode J_MDotRows_run.2.1 134 = .ok (.isub, 1) := by decide +kernel
theorem J_MDotRows_run_d135 : decode J_MDotRows_run.2.1 135 = .ok (.iload 6, 2) := by decide +kernel
theorem J_MDotRows_run_d137 : decode J_MDotRows_run.2.1 137 = .ok (.imul, 1) := by decide +kernel
theorem J_MDotRows_run_d138 : decode J_MDotRows_run.2.1 138 = .ok (.iadd, 1) := by decide +kernel
theorem J_MDotRows_run_d139 : decode J_MDotRows_run.2.1 139 = .ok (.invokevirtual 114, 3) := by decide +kernel
theorem J_MDotRows_run_d142 : decode J_MDotRows_run.2.1 142 = .ok (.if_icmp .eq 6, 3) := by decide +kernel
theorem J_MDotRows_run_d145 : decode J_MDotRows_run.2.1 145 = .ok (.iinc 7 1, 3) := by decide +kernel
theorem J_MDotRows_run_d148 : decode J_MDotRows_run.2.1 148 = .ok (.iload 8, 2) := by decide +kernel
theorem J_MDotRows_run_d150 : decode J_MDotRows_run.2.1 150 = .ok (.iload 7, 2) := by decide +kernel
theorem J_MDotRows_run_d152 : decode J_MDotRows_run.2.1 152 = .ok (.iload_n 3, 1) := by decide +kernel
theorem J_MDotRows_run_d153 : decode J_MDotRows_run.2.1 153 = .ok (.if_icmp .ne 7, 3) := by decide +kernel
theorem J_MDotRows_run_d156 : decode J_MDotRows_run.2.1 156 = .ok (.iconst 1, 1) := by decide +kernel
theorem J_MDotRows_run_d157 : decode J_MDotRows_run.2.1 157 = .ok (.goto 4, 3) := by decide +kernel
theorem J_MDotRows_run_d160 : decode J_MDotRows_run.2.1 160 = .ok (.iconst 0, 1) := by decide +kernel
theorem J_MDotRows_run_d161 : decode J_MDotRows_run.2.1 161 = .ok (.iadd, 1) := by decide +kernel
theorem J_MDotRows_run_d162 : decode J_MDotRows_run.2.1 162 = .ok (.istore 8, 2) := by decide +kernel
theorem J_MDotRows_run_d164 : decode J_MDotRows_run.2.1 164 = .ok (.iinc 9 1, 3) := by decide +kernel
theorem J_MDotRows_run_d167 : decode J_MDotRows_run.2.1 167 = .ok (.goto (-95), 3) := by decide +kernel
theorem J_MDotRows_run_d170 : decode J_MDotRows_run.2.1 170 = .ok (.iload 8, 2) := by decide +kernel
theorem J_MDotRows_run_d172 : decode J_MDotRows_run.2.1 172 = .ok (.ifCond .ne 7, 3) := by decide +kernel
theorem J_MDotRows_run_d175 : decode J_MDotRows_run.2.1 175 = .ok (.iconst (-1), 1) := by decide +kernel
theorem J_MDotRows_run_d176 : decode J_MDotRows_run.2.1 176 = .ok (.goto 5, 3) := by decide +kernel
theorem J_MDotRows_run_d179 : decode J_MDotRows_run.2.1 179 = .ok (.iload 8, 2) := by decide +kernel
theorem J_MDotRows_run_d181 : decode J_MDotRows_run.2.1 181 = .ok (.ireturn, 1) := by decide +kernel
theorem f_MDotRows_run_ok {L : Nat} {xs : Nat → Int32} {dep : Nat} {w : Bool} {p0 : Int32} {p1 : Int32} {p2 : Int32} {p3 : Int32} {M : im_M} {Q : Int32 × im_M → Prop} (hM : lw_S w M) (h : ed (f_MDotRows_run p0 p1 p2 p3 M) Q) : ia (tb_G L xs) (dep + 2) J_MDotRows_run (rwI w Q) (0, lv_args 0 [.ref 89, .int p0, .int p1, .int p2, .int p3], [], M) := by
  have hS : im_St (tb_G L xs) (dep + 2) J_MDotRows_run (ia (tb_G L xs) (dep + 2) J_MDotRows_run (rwI w Q)) := ia_St
  unfold f_MDotRows_run at h
  have l0 : im_lk (lv_args 0 [.ref 89, .int p0, .int p1, .int p2, .int p3]) 0 = some (.ref 89) := rfl
  have l1 : im_lk (lv_args 0 [.ref 89, .int p0, .int p1, .int p2, .int p3]) 1 = some (.int p0) := rfl
  have l2 : im_lk (lv_args 0 [.ref 89, .int p0, .int p1, .int p2, .int p3]) 2 = some (.int p1) := rfl
  have l3 : im_lk (lv_args 0 [.ref 89, .int p0, .int p1, .int p2, .int p3]) 3 = some (.int p2) := rfl
  have l4 : im_lk (lv_args 0 [.ref 89, .int p0, .int p1, .int p2, .int p3]) 4 = some (.int p3) := rfl
  refine iq_aload_n hS 1 J_MDotRows_run_d0 l0 rfl ?_
  refine iq_iload_n hS 2 J_MDotRows_run_d1 l1 rfl ?_
  refine iq_iload_n hS 3 J_MDotRows_run_d2 l2 rfl ?_
  obtain ⟨Q1, hQ1, h⟩ := bd1_ed h
  refine iq_cpI hS 6 J_MDotRows_run_d3 rfl (pr_stat (vs := [_, _]) lc_12_124 lT_334 rfl rfl (by decide) rfl (Nat.le_of_ble_eq_true rfl) (Nat.le_of_ble_eq_true rfl)) (f_MDotRows_noPlace_ok (dep := dep + 1) hM h) rfl ?_
  intro x1 h
  replace h := hQ1 _ h
  obtain ⟨Q2, hQ2, h⟩ := bd1_ed h
  have J2 : ∀ (y4 : Int32) (L' : List (Nat × Value)), im_lk L' 0 = some (.ref 89) → im_lk L' 1 = some (.int p0) → im_lk L' 2 = some (.int p1) → im_lk L' 3 = some (.int p2) → im_lk L' 4 = some (.int p3) → Q2 y4 → ia (tb_G L xs) (dep + 2) J_MDotRows_run (rwI w Q) (27, L', [.int y4, .ref 89], M) := by
    intro y4 L' l5 l6 l7 l8 l9 h
    replace h := hQ2 _ h
    refine iq_putI hS 30 J_MDotRows_run_d27 lf_12_37 (Or.inl rfl) rfl (ka_89 hM) rfl ?_
    refine iq_aload_n hS 31 J_MDotRows_run_d30 l5 rfl ?_
    refine iq_getI hS 34 J_MDotRows_run_d31 lf_12_37 (Or.inl rfl) (ka_89 hM) rfl ?_
    refine iq_if_le hS 37 J_MDotRows_run_d34 (t := 39) rfl (fun q34 => ?_) rfl (fun q34 => ?_)
    · replace h := ed_pos q34 h
      refine iq_iload hS 41 J_MDotRows_run_d39 l9 rfl ?_
      have J10 : ∀ (z11 : Int32) (L' : List (Nat × Value)), z11 = ((if p3 = 0 then 1 else 0) : Int32) → im_lk L' 0 = some (.ref 89) → im_lk L' 1 = some (.int p0) → im_lk L' 2 = some (.int p1) → im_lk L' 3 = some (.int p2) → im_lk L' 4 = some (.int p3) → ia (tb_G L xs) (dep + 2) J_MDotRows_run (rwI w Q) (49, L', [.int z11], (im_setI M 89 0 y4)) := by
        intro z11 L' e12 l13 l14 l15 l16 l17
        subst e12
        refine iq_istore hS 51 J_MDotRows_run_d49 (by decide) rfl ?_
        refine iq_iload hS 53 J_MDotRows_run_d51 (lk_1i l17 (by decide)) rfl ?_
        have J18 : ∀ (z19 : Int32) (L' : List (Nat × Value)), z19 = ((if p3 = 0 then 0 else 1) : Int32) → im_lk L' 0 = some (.ref 89) → im_lk L' 1 = some (.int p0) → im_lk L' 2 = some (.int p1) → im_lk L' 3 = some (.int p2) → im_lk L' 5 = some (.int ((if p3 = 0 then 1 else 0) : Int32)) → ia (tb_G L xs) (dep + 2) J_MDotRows_run (rwI w Q) (61, L', [.int z19], (im_setI M 89 0 y4)) := by
          intro z19 L' e20 l21 l22 l23 l24 l25
          subst e20
          refine iq_istore hS 63 J_MDotRows_run_d61 (by decide) rfl ?_
          refine iq_iconst hS 64 J_MDotRows_run_d63 (v := 0) (by decide +kernel) rfl ?_
          refine iq_istore hS 66 J_MDotRows_run_d64 (by decide) rfl ?_
          refine iq_iconst hS 67 J_MDotRows_run_d66 (v := 0) (by decide +kernel) rfl ?_
          refine iq_istore hS 69 J_MDotRows_run_d67 (by decide) rfl ?_
          refine iq_iconst hS 70 J_MDotRows_run_d69 (v := 0) (by decide +kernel) rfl ?_
          refine iq_istore hS 72 J_MDotRows_run_d70 (by decide) rfl ?_
          obtain ⟨Q26, hQ26, h⟩ := bd1_ed h
          have K26 : ∀ (y27 : Int32) (L' : List (Nat × Value)), im_lk L' 8 = some (.int y27) → Q26 y27 → ia (tb_G L xs) (dep + 2) J_MDotRows_run (rwI w Q) (170, L', [], (im_setI M 89 0 y4)) := by
            intro y27 L' l28 h
            replace h := hQ26 _ h
            refine iq_iload hS 172 J_MDotRows_run_d170 l28 rfl ?_
            refine iq_if_ne hS 175 J_MDotRows_run_d172 (t := 179) rfl (fun q172 => ?_) rfl (fun q172 => ?_)
            · replace h := ed_pos q172 h
              refine iq_iload hS 181 J_MDotRows_run_d179 l28 rfl ?_
              exact iq_iret J_MDotRows_run_d181 rfl rfl ⟨_, rfl, hM, ed_some h⟩
            · replace h := ed_neg q172 h
              refine iq_iconst hS 176 J_MDotRows_run_d175 (v := (-1)) (by decide +kernel) rfl ?_
              refine iq_goto hS J_MDotRows_run_d176 (t := 181) rfl ?_
              exact iq_iret J_MDotRows_run_d181 rfl rfl ⟨_, rfl, hM, ed_some h⟩
          obtain ⟨r26, hr26, hq26⟩ := h
          obtain ⟨n26, hn26⟩ := lp_n hr26
          have I26 : ∀ (n : Nat) (x29 : Int32) (x30 : Int32) (x31 : Int32) (L' : List (Nat × Value)), im_lk L' 0 = some (.ref 89) → im_lk L' 1 = some (.int p0) → im_lk L' 2 = some (.int p1) → im_lk L' 3 = some (.int p2) → im_lk L' 5 = some (.int ((if p3 = 0 then 1 else 0) : Int32)) → im_lk L' 6 = some (.int ((if p3 = 0 then 0 else 1) : Int32)) → im_lk L' 7 = some (.int x29) → im_lk L' 8 = some (.int x30) → im_lk L' 9 = some (.int x31) → lpn (uc3 (f_MDotRows_run_L72 p0 p1 p2 ((if p3 = 0 then 1 else 0) : Int32) ((if p3 = 0 then 0 else 1) : Int32) (im_setI M 89 0 y4))) n (x29, x30, x31) = some r26 → ia (tb_G L xs) (dep + 2) J_MDotRows_run (rwI w Q) (72, L', [], (im_setI M 89 0 y4)) := by
            intro n
            induction n with
            | zero => intro x29 x30 x31 L' l32 l33 l34 l35 l36 l37 l38 l39 l40 hn; exact (lpn_0 hn).elim
            | succ n ih =>
              intro x29 x30 x31 L' l32 l33 l34 l35 l36 l37 l38 l39 l40 hn
              have h := lpn_ed3 hn
              unfold f_MDotRows_run_L72 at h
              refine iq_aload_n hS 73 J_MDotRows_run_d72 l32 rfl ?_
              refine iq_iload_n hS 74 J_MDotRows_run_d73 l33 rfl ?_
              refine iq_iload hS 76 J_MDotRows_run_d74 l40 rfl ?_
              refine iq_iload hS 78 J_MDotRows_run_d76 l36 rfl ?_
              refine iq_imul hS 79 J_MDotRows_run_d78 rfl ?_
              refine iq_iadd hS 80 J_MDotRows_run_d79 rfl ?_
              refine iq_iload_n hS 81 J_MDotRows_run_d80 l34 rfl ?_
              refine iq_iload hS 83 J_MDotRows_run_d81 l40 rfl ?_
              refine iq_iload hS 85 J_MDotRows_run_d83 l37 rfl ?_
              refine iq_imul hS 86 J_MDotRows_run_d85 rfl ?_
              refine iq_iadd hS 87 J_MDotRows_run_d86 rfl ?_
              obtain ⟨Q41, hQ41, h⟩ := bd1_ed h
              refine iq_cpI hS 90 J_MDotRows_run_d87 rfl (pr_inst (vs := [_, _]) lc_12_40 lT_349 rfl rfl (by decide) (by decide) rfl (Nat.le_of_ble_eq_true rfl) (Nat.le_of_ble_eq_true rfl) (fun _ => Or.inl (pr_b (ka_89 hM) (by decide) rfl))) (f_MDotRows_isOn_ok (dep := dep + 1) hM h) rfl ?_
              intro x41 h
              replace h := hQ41 _ h
              refine iq_if_eq hS 93 J_MDotRows_run_d90 (t := 170) rfl (fun q90 => ?_) rfl (fun q90 => ?_)
              · replace h := ed_pos q90 h
                exact K26 _ _ l39 (lq_r h hq26)
              · replace h := ed_neg q90 h
                refine iq_aload_n hS 94 J_MDotRows_run_d93 l32 rfl ?_
                refine iq_iload_n hS 95 J_MDotRows_run_d94 l33 rfl ?_
                refine iq_iload hS 97 J_MDotRows_run_d95 l40 rfl ?_
                refine iq_iload hS 99 J_MDotRows_run_d97 l36 rfl ?_
                refine iq_imul hS 100 J_MDotRows_run_d99 rfl ?_
                refine iq_iadd hS 101 J_MDotRows_run_d100 rfl ?_
                refine iq_iload_n hS 102 J_MDotRows_run_d101 l34 rfl ?_
                refine iq_iload hS 104 J_MDotRows_run_d102 l40 rfl ?_
                refine iq_iload hS 106 J_MDotRows_run_d104 l37 rfl ?_
                refine iq_imul hS 107 J_MDotRows_run_d106 rfl ?_
                refine iq_iadd hS 108 J_MDotRows_run_d107 rfl ?_
                obtain ⟨Q42, hQ42, h⟩ := bd1_ed h
                refine iq_cpI hS 111 J_MDotRows_run_d108 rfl (pr_inst (vs := [_, _]) lc_12_114 lT_348 rfl rfl (by decide) (by decide) rfl (Nat.le_of_ble_eq_true rfl) (Nat.le_of_ble_eq_true rfl) (fun _ => Or.inl (pr_b (ka_89 hM) (by decide) rfl))) (f_MDotRows_isDark_ok (dep := dep + 0) hM h) rfl ?_
                intro x42 h
                replace h := hQ42 _ h
                refine iq_istore hS 113 J_MDotRows_run_d111 (by decide) rfl ?_
                refine iq_iload hS 115 J_MDotRows_run_d113 (lk_1i l40 (by decide)) rfl ?_
                obtain ⟨Q43, hQ43, h⟩ := bd1_ed h
                have J43 : ∀ (y45 : Int32) (L' : List (Nat × Value)), im_lk L' 0 = some (.ref 89) → im_lk L' 1 = some (.int p0) → im_lk L' 2 = some (.int p1) → im_lk L' 3 = some (.int p2) → im_lk L' 5 = some (.int ((if p3 = 0 then 1 else 0) : Int32)) → im_lk L' 6 = some (.int ((if p3 = 0 then 0 else 1) : Int32)) → im_lk L' 7 = some (.int y45) → im_lk L' 8 = some (.int x30) → im_lk L' 9 = some (.int x31) → Q43 y45 → ia (tb_G L xs) (dep + 2) J_MDotRows_run (rwI w Q) (148, L', [], (im_setI M 89 0 y4)) := by
                  intro y45 L' l46 l47 l48 l49 l50 l51 l52 l53 l54 h
                  replace h := hQ43 _ h
                  refine iq_iload hS 150 J_MDotRows_run_d148 l53 rfl ?_
                  refine iq_iload hS 152 J_MDotRows_run_d150 l52 rfl ?_
                  refine iq_iload_n hS 153 J_MDotRows_run_d152 l49 rfl ?_
                  have J55 : ∀ (z56 : Int32) (L' : List (Nat × Value)), z56 = ((if ¬ y45 = p2 then 0 else 1) : Int32) → im_lk L' 0 = some (.ref 89) → im_lk L' 1 = some (.int p0) → im_lk L' 2 = some (.int p1) → im_lk L' 3 = some (.int p2) → im_lk L' 5 = some (.int ((if p3 = 0 then 1 else 0) : Int32)) → im_lk L' 6 = some (.int ((if p3 = 0 then 0 else 1) : Int32)) → im_lk L' 7 = some (.int y45) → im_lk L' 9 = some (.int x31) → ia (tb_G L xs) (dep + 2) J_MDotRows_run (rwI w Q) (161, L', [.int z56, .int x30], (im_setI M 89 0 y4)) := by
                    intro z56 L' e57 l58 l59 l60 l61 l62 l63 l64 l65
                    subst e57
                    refine iq_iadd hS 162 J_MDotRows_run_d161 rfl ?_
                    refine iq_istore hS 164 J_MDotRows_run_d162 (by decide) rfl ?_
                    refine iq_iincv hS 167 J_MDotRows_run_d164 (c := 1) (by decide +kernel) (lk_1i l65 (by decide)) (by decide) rfl ?_
                    refine iq_goto hS J_MDotRows_run_d167 (t := 72) rfl ?_
                    exact ih _ _ _ _ (lk_1r (lk_1r l58 (by decide)) (by decide)) (lk_1i (lk_1i l59 (by decide)) (by decide)) (lk_1i (lk_1i l60 (by decide)) (by decide)) (lk_1i (lk_1i l61 (by decide)) (by decide)) (lk_1i (lk_1i l62 (by decide)) (by decide)) (lk_1i (lk_1i l63 (by decide)) (by decide)) (lk_1i (lk_1i l64 (by decide)) (by decide)) (lk_1i lk_1s (by decide)) lk_1s (lq_l h)
                  refine iq_icmp_ne hS 156 J_MDotRows_run_d153 (t := 160) rfl (fun q153 => ?_) rfl (fun q153 => ?_)
                  · refine iq_iconst hS 161 J_MDotRows_run_d160 (v := 0) (by decide +kernel) rfl ?_
                    exact J55 _ _ (by rw [if_pos q153]) l46 l47 l48 l49 l50 l51 l52 l54
                  · refine iq_iconst hS 157 J_MDotRows_run_d156 (v := 1) (by decide +kernel) rfl ?_
                    refine iq_goto hS J_MDotRows_run_d157 (t := 161) rfl ?_
                    exact J55 _ _ (by rw [if_neg q153]) l46 l47 l48 l49 l50 l51 l52 l54
                refine iq_if_le hS 118 J_MDotRows_run_d115 (t := 148) rfl (fun q115 => ?_) rfl (fun q115 => ?_)
                · replace h := ed_pos q115 h
                  exact J43 _ _ (lk_1r l32 (by decide)) (lk_1i l33 (by decide)) (lk_1i l34 (by decide)) (lk_1i l35 (by decide)) (lk_1i l36 (by decide)) (lk_1i l37 (by decide)) (lk_1i l38 (by decide)) (lk_1i l39 (by decide)) (lk_1i l40 (by decide)) (ed_some h)
                · replace h := ed_neg q115 h
                  refine iq_iload hS 120 J_MDotRows_run_d118 lk_1s rfl ?_
                  refine iq_aload_n hS 121 J_MDotRows_run_d120 (lk_1r l32 (by decide)) rfl ?_
                  refine iq_iload_n hS 122 J_MDotRows_run_d121 (lk_1i l33 (by decide)) rfl ?_
                  refine iq_iload hS 124 J_MDotRows_run_d122 (lk_1i l40 (by decide)) rfl ?_
                  refine iq_iconst hS 125 J_MDotRows_run_d124 (v := 1) (by decide +kernel) rfl ?_
                  refine iq_isub hS 126 J_MDotRows_run_d125 rfl ?_
                  refine iq_iload hS 128 J_MDotRows_run_d126 (lk_1i l36 (by decide)) rfl ?_
                  refine iq_imul hS 129 J_MDotRows_run_d128 rfl ?_
                  refine iq_iadd hS 130 J_MDotRows_run_d129 rfl ?_
                  refine iq_iload_n hS 131 J_MDotRows_run_d130 (lk_1i l34 (by decide)) rfl ?_
                  refine iq_iload hS 133 J_MDotRows_run_d131 (lk_1i l40 (by decide)) rfl ?_
                  refine iq_iconst hS 134 J_MDotRows_run_d133 (v := 1) (by decide +kernel) rfl ?_
                  refine iq_isub hS 135 J_MDotRows_run_d134 rfl ?_
                  refine iq_iload hS 137 J_MDotRows_run_d135 (lk_1i l37 (by decide)) rfl ?_
                  refine iq_imul hS 138 J_MDotRows_run_d137 rfl ?_
                  refine iq_iadd hS 139 J_MDotRows_run_d138 rfl ?_
                  obtain ⟨Q44, hQ44, h⟩ := bd1_ed h
                  refine iq_cpI hS 142 J_MDotRows_run_d139 rfl (pr_inst (vs := [_, _]) lc_12_114 lT_348 rfl rfl (by decide) (by decide) rfl (Nat.le_of_ble_eq_true rfl) (Nat.le_of_ble_eq_true rfl) (fun _ => Or.inl (pr_b (ka_89 hM) (by decide) rfl))) (f_MDotRows_isDark_ok (dep := dep + 0) hM h) rfl ?_
                  intro x44 h
                  replace h := hQ44 _ h
                  refine iq_icmp_eq hS 145 J_MDotRows_run_d142 (t := 148) rfl (fun q142 => ?_) rfl (fun q142 => ?_)
                  · replace h := ed_pos q142 h
                    exact J43 _ _ (lk_1r l32 (by decide)) (lk_1i l33 (by decide)) (lk_1i l34 (by decide)) (lk_1i l35 (by decide)) (lk_1i l36 (by decide)) (lk_1i l37 (by decide)) (lk_1i l38 (by decide)) (lk_1i l39 (by decide)) (lk_1i l40 (by decide)) (ed_some h)
                  · replace h := ed_neg q142 h
                    refine iq_iincv hS 148 J_MDotRows_run_d145 (c := 1) (by decide +kernel) (lk_1i l38 (by decide)) (by decide) rfl ?_
                    exact J43 _ _ (lk_1r (lk_1r l32 (by decide)) (by decide)) (lk_1i (lk_1i l33 (by decide)) (by decide)) (lk_1i (lk_1i l34 (by decide)) (by decide)) (lk_1i (lk_1i l35 (by decide)) (by decide)) (lk_1i (lk_1i l36 (by decide)) (by decide)) (lk_1i (lk_1i l37 (by decide)) (by decide)) lk_1s (lk_1i (lk_1i l39 (by decide)) (by decide)) (lk_1i (lk_1i l40 (by decide)) (by decide)) (ed_some h)
          exact I26 n26 _ _ _ _ (lk_1r (lk_1r (lk_1r (lk_1r l21 (by decide)) (by decide)) (by decide)) (by decide)) (lk_1i (lk_1i (lk_1i (lk_1i l22 (by decide)) (by decide)) (by decide)) (by decide)) (lk_1i (lk_1i (lk_1i (lk_1i l23 (by decide)) (by decide)) (by decide)) (by decide)) (lk_1i (lk_1i (lk_1i (lk_1i l24 (by decide)) (by decide)) (by decide)) (by decide)) (lk_1i (lk_1i (lk_1i (lk_1i l25 (by decide)) (by decide)) (by decide)) (by decide)) (lk_1i (lk_1i (lk_1i lk_1s (by decide)) (by decide)) (by decide)) (lk_1i (lk_1i lk_1s (by decide)) (by decide)) (lk_1i lk_1s (by decide)) lk_1s hn26
        refine iq_if_eq hS 56 J_MDotRows_run_d53 (t := 60) rfl (fun q53 => ?_) rfl (fun q53 => ?_)
        · refine iq_iconst hS 61 J_MDotRows_run_d60 (v := 0) (by decide +kernel) rfl ?_
          exact J18 _ _ (by rw [if_pos q53]) (lk_1r l13 (by decide)) (lk_1i l14 (by decide)) (lk_1i l15 (by decide)) (lk_1i l16 (by decide)) lk_1s
        · refine iq_iconst hS 57 J_MDotRows_run_d56 (v := 1) (by decide +kernel) rfl ?_
          refine iq_goto hS J_MDotRows_run_d57 (t := 61) rfl ?_
          exact J18 _ _ (by rw [if_neg q53]) (lk_1r l13 (by decide)) (lk_1i l14 (by decide)) (lk_1i l15 (by decide)) (lk_1i l16 (by decide)) lk_1s
      refine iq_if_eq hS 44 J_MDotRows_run_d41 (t := 48) rfl (fun q41 => ?_) rfl (fun q41 => ?_)
      · refine iq_iconst hS 49 J_MDotRows_run_d48 (v := 1) (by decide +kernel) rfl ?_
        exact J10 _ _ (by rw [if_pos q41]) l5 l6 l7 l8 l9
      · refine iq_iconst hS 45 J_MDotRows_run_d44 (v := 0) (by decide +kernel) rfl ?_
        refine iq_goto hS J_MDotRows_run_d45 (t := 49) rfl ?_
        exact J10 _ _ (by rw [if_neg q41]) l5 l6 l7 l8 l9
    · replace h := ed_neg q34 h
      refine iq_iconst hS 38 J_MDotRows_run_d37 (v := 0) (by decide +kernel) rfl ?_
      exact iq_iret J_MDotRows_run_d38 rfl rfl ⟨_, rfl, hM, ed_some h⟩
  refine iq_if_eq hS 9 J_MDotRows_run_d6 (t := 13) rfl (fun q6 => ?_) rfl (fun q6 => ?_)
  · replace h := ed_pos q6 h
    refine iq_aload_n hS 14 J_MDotRows_run_d13 l0 rfl ?_
    refine iq_iload_n hS 15 J_MDotRows_run_d14 l1 rfl ?_
    refine iq_iload_n hS 16 J_MDotRows_run_d15 l2 rfl ?_
    obtain ⟨Q3, hQ3, h⟩ := bd1_ed h
    refine iq_cpI hS 19 J_MDotRows_run_d16 rfl (pr_inst (vs := [_, _]) lc_12_40 lT_349 rfl rfl (by decide) (by decide) rfl (Nat.le_of_ble_eq_true rfl) (Nat.le_of_ble_eq_true rfl) (fun _ => Or.inl (pr_b (ka_89 hM) (by decide) rfl))) (f_MDotRows_isOn_ok (dep := dep + 1) hM h) rfl ?_
    intro x3 h
    replace h := hQ3 _ h
    refine iq_if_eq hS 22 J_MDotRows_run_d19 (t := 26) rfl (fun q19 => ?_) rfl (fun q19 => ?_)
    · replace h := ed_pos q19 h
      refine iq_iconst hS 27 J_MDotRows_run_d26 (v := 2) (by decide +kernel) rfl ?_
      exact J2 _ _ l0 l1 l2 l3 l4 (ed_some h)
    · replace h := ed_neg q19 h
      refine iq_iconst hS 23 J_MDotRows_run_d22 (v := 0) (by decide +kernel) rfl ?_
      refine iq_goto hS J_MDotRows_run_d23 (t := 27) rfl ?_
      exact J2 _ _ l0 l1 l2 l3 l4 (ed_some h)
  · replace h := ed_neg q6 h
    refine iq_iconst hS 10 J_MDotRows_run_d9 (v := 1) (by decide +kernel) rfl ?_
    refine iq_goto hS J_MDotRows_run_d10 (t := 27) rfl ?_
    exact J2 _ _ l0 l1 l2 l3 l4 (ed_some h)
noncomputable def f_M_run (p0 : Int32) (p1 : Int32) (p2 : Int32) (p3 : Int32) (M : im_M) : Option (Int32 × im_M) := bd2 (f_M_isOn (Int32.toInt64 p0) (Int32.toInt64 p1) M) fun (x1 : Int32) (M1 : im_M) => if (im_i (im_setI M1 69 0 ((if x1 = 0 then 1 else 0) : Int32)) 69 0) ≤ 0 then bd2 (f_MDotRows_run p0 p1 p2 p3 (im_setI M1 69 0 ((if x1 = 0 then 1 else 0) : Int32))) fun (x3 : Int32) (M3 : im_M) => some (x3, M3) else some (0, (im_setI M1 69 0 ((if x1 = 0 then 1 else 0) : Int32)))
theorem J_M_run_d0 : decode J_M_run.2.1 0 = .ok (.aload_n 0, 1) := by decide +kernel
theorem J_M_run_d1 : decode J_M_run.2.1 1 = .ok (.aload_n 0, 1) := by decide +kernel
theorem J_M_run_d2 : decode J_M_run.2.1 2 = .ok (.iload_n 1, 1) := by decide +kernel
theorem J_M_run_d3 : decode J_M_run.2.1 3 = .ok (.i2l, 1) := by decide +kernel
theorem J_M_run_d4 : decode J_M_run.2.1 4 = .ok (.iload_n 2, 1) := by decide +kernel
theorem J_M_run_d5 : decode J_M_run.2.1 5 = .ok (.i2l, 1) := by decide +kernel
theorem J_M_run_d6 : decode J_M_run.2.1 6 = .ok (.invokevirtual 209, 3) := by decide +kernel
theorem J_M_run_d9 : decode J_M_run.2.1 9 = .ok (.ifCond .eq 7, 3) := by decide +kernel
theorem J_M_run_d12 : decode J_M_run.2.1 12 = .ok (.iconst 0, 1) := by decide +kernel
theorem J_M_run_d13 : decode J_M_run.2.1 13 = .ok (.goto 4, 3) := by decide +kernel
theorem J_M_run_d16 : decode J_M_run.2.1 16 = .ok (.iconst 1, 1) := by decide +kernel
theorem J_M_run_d17 : decode J_M_run.2.1 17 = .ok (.putfield 58, 3) := by decide +kernel
theorem J_M_run_d20 : decode J_M_run.2.1 20 = .ok (.aload_n 0, 1) := by decide +kernel
theorem J_M_run_d21 : decode J_M_run.2.1 21 = .ok (.getfield 58, 3) := by decide +kernel
theorem J_M_run_d24 : decode J_M_run.2.1 24 = .ok (.ifCond .le 7, 3) := by decide +kernel
theorem J_M_run_d27 : decode J_M_run.2.1 27 = .ok (.iconst 0, 1) := by decide +kernel
theorem J_M_run_d28 : decode J_M_run.2.1 28 = .ok (.goto 15, 3) := by decide +kernel
theorem J_M_run_d31 : decode J_M_run.2.1 31 = .ok (.aload_n 0, 1) := by decide +kernel
theorem J_M_run_d32 : decode J_M_run.2.1 32 = .ok (.getfield 23, 3) := by decide +kernel
theorem J_M_run_d35 : decode J_M_run.2.1 35 = .ok (.iload_n 1, 1) := by decide +kernel
theorem J_M_run_d36 : decode J_M_run.2.1 36 = .ok (.iload_n 2, 1) := by decide +kernel
theorem J_M_run_d37 : decode J_M_run.2.1 37 = .ok (.iload_n 3, 1) := by decide +kernel
theorem J_M_run_d38 : decode J_M_run.2.1 38 = .ok (.iload 4, 2) := by decide +kernel
theorem J_M_run_d40 : decode J_M_run.2.1 40 = .ok (.invokevirtual 219, 3) := by decide +kernel
theorem J_M_run_d43 : decode J_M_run.2.1 43 = .ok (.ireturn, 1) := by decide +kernel
theorem f_M_run_ok {L : Nat} {xs : Nat → Int32} {dep : Nat} {w : Bool} {p0 : Int32} {p1 : Int32} {p2 : Int32} {p3 : Int32} {M : im_M} {Q : Int32 × im_M → Prop} (hM : lw_S w M) (h : ed (f_M_run p0 p1 p2 p3 M) Q) : ia (tb_G L xs) (dep + 4) J_M_run (rwI w Q) (0, lv_args 0 [.ref 69, .int p0, .int p1, .int p2, .int p3], [], M) := by
  have hS : im_St (tb_G L xs) (dep + 4) J_M_run (ia (tb_G L xs) (dep + 4) J_M_run (rwI w Q)) := ia_St
  unfold f_M_run at h
  have l0 : im_lk (lv_args 0 [.ref 69, .int p0, .int p1, .int p2, .int p3]) 0 = some (.ref 69) := rfl
  have l1 : im_lk (lv_args 0 [.ref 69, .int p0, .int p1, .int p2, .int p3]) 1 = some (.int p0) := rfl
  have l2 : im_lk (lv_args 0 [.ref 69, .int p0, .int p1, .int p2, .int p3]) 2 = some (.int p1) := rfl
  have l3 : im_lk (lv_args 0 [.ref 69, .int p0, .int p1, .int p2, .int p3]) 3 = some (.int p2) := rfl
  have l4 : im_lk (lv_args 0 [.ref 69, .int p0, .int p1, .int p2, .int p3]) 4 = some (.int p3) := rfl
  refine iq_aload_n hS 1 J_M_run_d0 l0 rfl ?_
  refine iq_aload_n hS 2 J_M_run_d1 l0 rfl ?_
  refine iq_iload_n hS 3 J_M_run_d2 l1 rfl ?_
  refine iq_i2l hS 4 J_M_run_d3 rfl ?_
  refine iq_iload_n hS 5 J_M_run_d4 l2 rfl ?_
  refine iq_i2l hS 6 J_M_run_d5 rfl ?_
  obtain ⟨Q1, hQ1, h⟩ := bd2_ed h
  refine iq_cwI hS 9 J_M_run_d6 rfl (pr_inst (vs := [_, _]) lc_17_209 lT_439 rfl rfl (by decide) (by decide) rfl (Nat.le_of_ble_eq_true rfl) (Nat.le_of_ble_eq_true rfl) (fun _ => Or.inl (pr_b (ka_69 hM) (by decide) rfl))) (f_M_isOn_ok (dep := dep + 0) hM h) rfl ?_
  intro x1 M1 hM1 h
  replace h := hQ1 _ _ h
  have J2 : ∀ (z3 : Int32) (L' : List (Nat × Value)), z3 = ((if x1 = 0 then 1 else 0) : Int32) → im_lk L' 0 = some (.ref 69) → im_lk L' 1 = some (.int p0) → im_lk L' 2 = some (.int p1) → im_lk L' 3 = some (.int p2) → im_lk L' 4 = some (.int p3) → ia (tb_G L xs) (dep + 4) J_M_run (rwI w Q) (17, L', [.int z3, .ref 69], M1) := by
    intro z3 L' e4 l5 l6 l7 l8 l9
    subst e4
    refine iq_putI hS 20 J_M_run_d17 lf_17_58 (Or.inl rfl) rfl (ka_69 hM1) rfl ?_
    refine iq_aload_n hS 21 J_M_run_d20 l5 rfl ?_
    refine iq_getI hS 24 J_M_run_d21 lf_17_58 (Or.inl rfl) (ka_69 hM1) rfl ?_
    refine iq_if_le hS 27 J_M_run_d24 (t := 31) rfl (fun q24 => ?_) rfl (fun q24 => ?_)
    · replace h := ed_pos q24 h
      refine iq_aload_n hS 32 J_M_run_d31 l5 rfl ?_
      refine iq_getR hS 35 J_M_run_d32 lf_17_23 (Or.inl ⟨_, rfl⟩) (ka_69 hM1) (ra_69_4 hM1) rfl ?_
      refine iq_iload_n hS 36 J_M_run_d35 l6 rfl ?_
      refine iq_iload_n hS 37 J_M_run_d36 l7 rfl ?_
      refine iq_iload_n hS 38 J_M_run_d37 l8 rfl ?_
      refine iq_iload hS 40 J_M_run_d38 l9 rfl ?_
      obtain ⟨Q10, hQ10, h⟩ := bd2_ed h
      refine iq_cwI hS 43 J_M_run_d40 rfl (pr_inst (vs := [_, _, _, _]) lc_17_219 lT_453 rfl rfl (by decide) (by decide) rfl (Nat.le_of_ble_eq_true rfl) (Nat.le_of_ble_eq_true rfl) (fun _ => Or.inl (pr_b (ka_89 hM1) (by decide) rfl))) (f_MDotRows_run_ok (dep := dep + 1) hM1 h) rfl ?_
      intro x10 M10 hM10 h
      replace h := hQ10 _ _ h
      exact iq_iret J_M_run_d43 rfl rfl ⟨_, rfl, hM10, ed_some h⟩
    · replace h := ed_neg q24 h
      refine iq_iconst hS 28 J_M_run_d27 (v := 0) (by decide +kernel) rfl ?_
      refine iq_goto hS J_M_run_d28 (t := 43) rfl ?_
      exact iq_iret J_M_run_d43 rfl rfl ⟨_, rfl, hM1, ed_some h⟩
  refine iq_if_eq hS 12 J_M_run_d9 (t := 16) rfl (fun q9 => ?_) rfl (fun q9 => ?_)
  · refine iq_iconst hS 17 J_M_run_d16 (v := 1) (by decide +kernel) rfl ?_
    exact J2 _ _ (by rw [if_pos q9]) l0 l1 l2 l3 l4
  · refine iq_iconst hS 13 J_M_run_d12 (v := 0) (by decide +kernel) rfl ?_
    refine iq_goto hS J_M_run_d13 (t := 17) rfl ?_
    exact J2 _ _ (by rw [if_neg q9]) l0 l1 l2 l3 l4
noncomputable def f_MPlaceRows_add_L14 (v5 : Int32) (x6 : Int32) (x7 : Int32) (M8 : im_M) : Option ((Int32 × Int32 × im_M) ⊕ (im_M)) := if (im_i M8 130 1) ≤ x7 then some (.inr M8) else bd1 (f_MPlaceRows_isDark x7 v5 M8) fun (x9 : Int32) => gd (inb ((((513 : Int32) * v5) + x7) + 1) 263169) <| gd (inb ((((513 : Int32) * (v5 + 1)) + x7) + 1) 263169) <| some (.inl ((x6 + ((if x9 = 0 then 0 else 1) : Int32)), (x7 + 1), (im_setI M8 132 (Int32.toNatClampNeg ((((513 : Int32) * (v5 + 1)) + x7) + 1)) ((im_i M8 132 (Int32.toNatClampNeg ((((513 : Int32) * v5) + x7) + 1))) + (x6 + ((if x9 = 0 then 0 else 1) : Int32))))))
noncomputable def f_MPlaceRows_add_L2 (x2 : Int32) (M3 : im_M) : Option ((Int32 × im_M) ⊕ (im_M)) := if (im_i M3 130 2) ≤ x2 then some (.inr M3) else bd1 (lp (uc3 (f_MPlaceRows_add_L14 x2)) (0, 0, M3)) fun (M11 : im_M) => some (.inl ((x2 + 1), M11))
noncomputable def f_MPlaceRows_add (M : im_M) : Option (im_M) := bd1 (lp (uc2 (f_MPlaceRows_add_L2)) (0, M)) fun (M12 : im_M) => some M12
theorem J_MPlaceRows_add_d0 : decode J_MPlaceRows_add.2.1 0 = .ok (.iconst 0, 1) := by decide +kernel
theorem J_MPlaceRows_add_d1 : decode J_MPlaceRows_add.2.1 1 = .ok (.istore_n 1, 1) := by decide +kernel
theorem J_MPlaceRows_add_d2 : decode J_MPlaceRows_add.2.1 2 = .ok (.iload_n 1, 1) := by decide +kernel
theorem J_MPlaceRows_add_d3 : decode J_MPlaceRows_add.2.1 3 = .ok (.aload_n 0, 1) := by decide +kernel
theorem J_MPlaceRows_add_d4 : decode J_MPlaceRows_add.2.1 4 = .ok (.getfield 13, 3) := by decide +kernel
theorem J_MPlaceRows_add_d7 : decode J_MPlaceRows_add.2.1 7 = .ok (.if_icmp .ge 76, 3) := by decide +kernel
theorem J_MPlaceRows_add_d10 : decode J_MPlaceRows_add.2.1 10 = .ok (.iconst 0, 1) := by decide +kernel
theorem J_MPlaceRows_add_d11 : decode J_MPlaceRows_add.2.1 11 = .ok (.istore_n 2, 1) := by decide +kernel
theorem J_MPlaceRows_add_d12 : decode J_MPlaceRows_add.2.1 12 = .ok (.iconst 0, 1) := by decide +kernel
theorem J_MPlaceRows_add_d13 : decode J_MPlaceRows_add.2.1 13 = .ok (.istore_n 3, 1) := by decide +kernel
theorem J_MPlaceRows_add_d14 : decode J_MPlaceRows_add.2.1 14 = .ok (.iload_n 3, 1) := by decide +kernel
theorem J_MPlaceRows_add_d15 : decode J_MPlaceRows_add.2.1 15 = .ok (.aload_n 0, 1) := by decide +kernel
theorem J_MPlaceRows_add_d16 : decode J_MPlaceRows_add.2.1 16 = .ok (.getfield 7, 3) := by decide +kernel
theorem J_MPlaceRows_add_d19 : decode J_MPlaceRows_add.2.1 19 = .ok (.if_icmp .ge 58, 3) := by decide +kernel
theorem J_MPlaceRows_add_d22 : decode J_MPlaceRows_add.2.1 22 = .ok (.iload_n 2, 1) := by decide +kernel
theorem J_MPlaceRows_add_d23 : decode J_MPlaceRows_add.2.1 23 = .ok (.aload_n 0, 1) := by decide +kernel
theorem J_MPlaceRows_add_d24 : decode J_MPlaceRows_add.2.1 24 = .ok (.iload_n 3, 1) := by decide +kernel
theorem J_MPlaceRows_add_d25 : decode J_MPlaceRows_add.2.1 25 = .ok (.iload_n 1, 1) := by decide +kernel
theorem J_MPlaceRows_add_d26 : decode J_MPlaceRows_add.2.1 26 = .ok (.invokevirtual 51, 3) := by decide +kernel
theorem J_MPlaceRows_add_d29 : decode J_MPlaceRows_add.2.1 29 = .ok (.ifCond .eq 7, 3) := by decide +kernel
theorem J_MPlaceRows_add_d32 : decode J_MPlaceRows_add.2.1 32 = .ok (.iconst 1, 1) := by decide +kernel
theorem J_MPlaceRows_add_d33 : decode J_MPlaceRows_add.2.1 33 = .ok (.goto 4, 3) := by decide +kernel
theorem J_MPlaceRows_add_d36 : decode J_MPlaceRows_add.2.1 36 = .ok (.iconst 0, 1) := by decide +kernel
theorem J_MPlaceRows_add_d37 : decode J_MPlaceRows_add.2.1 37 = .ok (.iadd, 1) := by decide +kernel
theorem J_MPlaceRows_add_d38 : decode J_MPlaceRows_add.2.1 38 = .ok (.istore_n 2, 1) := by decide +kernel
theorem J_MPlaceRows_add_d39 : decode J_MPlaceRows_add.2.1 39 = .ok (.aload_n 0, 1) := by decide +kernel
theorem J_MPlaceRows_add_d40 : decode J_MPlaceRows_add.2.1 40 = .ok (.getfield 22, 3) := by decide +kernel
theorem J_MPlaceRows_add_d43 : decode J_MPlaceRows_add.2.1 43 = .ok (.sipush 513, 3) := by decide +kernel
theorem J_MPlaceRows_add_d46 : decode J_MPlaceRows_add.2.1 46 = .ok (.iload_n 1, 1) := by decide +kernel
theorem J_MPlaceRows_add_d47 : decode J_MPlaceRows_add.2.1 47 = .ok (.iconst 1, 1) := by decide +kernel
theorem J_MPlaceRows_add_d48 : decode J_MPlaceRows_add.2.1 48 = .ok (.iadd, 1) := by decide +kernel
theorem J_MPlaceRows_add_d49 : decode J_MPlaceRows_add.2.1 49 = .ok (.imul, 1) := by decide +kernel
theorem J_MPlaceRows_add_d50 : decode J_MPlaceRows_add.2.1 50 = .ok (.iload_n 3, 1) := by decide +kernel
theorem J_MPlaceRows_add_d51 : decode J_MPlaceRows_add.2.1 51 = .ok (.iadd, 1) := by decide +kernel
theorem J_MPlaceRows_add_d52 : decode J_MPlaceRows_add.2.1 52 = .ok (.iconst 1, 1) := by decide +kernel
theorem J_MPlaceRows_add_d53 : decode J_MPlaceRows_add.2.1 53 = .ok (.iadd, 1) := by decide +kernel
theorem J_MPlaceRows_add_d54 : decode J_MPlaceRows_add.2.1 54 = .ok (.aload_n 0, 1) := by decide +kernel
theorem J_MPlaceRows_add_d55 : decode J_MPlaceRows_add.2.1 55 = .ok (.getfield 22, 3) := by decide +kernel
theorem J_MPlaceRows_add_d58 : decode J_MPlaceRows_add.2.1 58 = .ok (.sipush 513, 3) := by decide +kernel
theorem J_MPlaceRows_add_d61 : decode J_MPlaceRows_add.2.1 61 = .ok (.iload_n 1, 1) := by decide +kernel
theorem J_MPlaceRows_add_d62 : decode J_MPlaceRows_add.2.1 62 = .ok (.imul, 1) := by decide +kernel
theorem J_MPlaceRows_add_d63 : decode J_MPlaceRows_add.2.1 63 = .ok (.iload_n 3, 1) := by decide +kernel
theorem J_MPlaceRows_add_d64 : decode J_MPlaceRows_add.2.1 64 = .ok (.iadd, 1) := by decide +kernel
theorem J_MPlaceRows_add_d65 : decode J_MPlaceRows_add.2.1 65 = .ok (.iconst 1, 1) := by decide +kernel
theorem J_MPlaceRows_add_d66 : decode J_MPlaceRows_add.2.1 66 = .ok (.iadd, 1) := by decide +kernel
theorem J_MPlaceRows_add_d67 : decode J_MPlaceRows_add.2.1 67 = .ok (.iaload, 1) := by decide +kernel
theorem J_MPlaceRows_add_d68 : decode J_MPlaceRows_add.2.1 68 = .ok (.iload_n 2, 1) := by decide +kernel
theorem J_MPlaceRows_add_d69 : decode J_MPlaceRows_add.2.1 69 = .ok (.iadd, 1) := by decide +kernel
theorem J_MPlaceRows_add_d70 : decode J_MPlaceRows_add.2.1 70 = .ok (.iastore, 1) := by decide +kernel
theorem J_MPlaceRows_add_d71 : decode J_MPlaceRows_add.2.1 71 = .ok (.iinc 3 1, 3) := by decide +kernel
theorem J_MPlaceRows_add_d74 : decode J_MPlaceRows_add.2.1 74 = .ok (.goto (-60), 3) := by decide +kernel
theorem J_MPlaceRows_add_d77 : decode J_MPlaceRows_add.2.1 77 = .ok (.iinc 1 1, 3) := by decide +kernel
theorem J_MPlaceRows_add_d80 : decode J_MPlaceRows_add.2.1 80 = .ok (.goto (-78), 3) := by decide +kernel
theorem J_MPlaceRows_add_d83 : decode J_MPlaceRows_add.2.1 83 = .ok (.return_, 1) := by decide +kernel
theorem f_MPlaceRows_add_ok {L : Nat} {xs : Nat → Int32} {dep : Nat} {w : Bool} {M : im_M} {Q : im_M → Prop} (hM : lw_S w M) (h : ed (f_MPlaceRows_add M) Q) : ia (tb_G L xs) (dep + 1) J_MPlaceRows_add (rwV w Q) (0, lv_args 0 [.ref 130], [], M) := by
  have hS : im_St (tb_G L xs) (dep + 1) J_MPlaceRows_add (ia (tb_G L xs) (dep + 1) J_MPlaceRows_add (rwV w Q)) := ia_St
  unfold f_MPlaceRows_add at h
  have l0 : im_lk (lv_args 0 [.ref 130]) 0 = some (.ref 130) := rfl
  refine iq_iconst hS 1 J_MPlaceRows_add_d0 (v := 0) (by decide +kernel) rfl ?_
  refine iq_istore_n hS 2 J_MPlaceRows_add_d1 (by decide) rfl ?_
  obtain ⟨Q1, hQ1, h⟩ := bd1_ed h
  have K1 : ∀ (M2 : im_M) (L' : List (Nat × Value)), lw_S w M2 → Q1 M2 → ia (tb_G L xs) (dep + 1) J_MPlaceRows_add (rwV w Q) (83, L', [], M2) := by
    intro M2 L' hM2  h
    replace h := hQ1 _ h
    exact iq_ret J_MPlaceRows_add_d83 rfl ⟨rfl, hM2, ed_some h⟩
  obtain ⟨r1, hr1, hq1⟩ := h
  obtain ⟨n1, hn1⟩ := lp_n hr1
  have I1 : ∀ (n : Nat) (x3 : Int32) (M4 : im_M) (L' : List (Nat × Value)), lw_S w M4 → im_lk L' 0 = some (.ref 130) → im_lk L' 1 = some (.int x3) → lpn (uc2 (f_MPlaceRows_add_L2)) n (x3, M4) = some r1 → ia (tb_G L xs) (dep + 1) J_MPlaceRows_add (rwV w Q) (2, L', [], M4) := by
    intro n
    induction n with
    | zero => intro x3 M4 L' hM4 l5 l6 hn; exact (lpn_0 hn).elim
    | succ n ih =>
      intro x3 M4 L' hM4 l5 l6 hn
      have h := lpn_ed2 hn
      unfold f_MPlaceRows_add_L2 at h
      refine iq_iload_n hS 3 J_MPlaceRows_add_d2 l6 rfl ?_
      refine iq_aload_n hS 4 J_MPlaceRows_add_d3 l5 rfl ?_
      refine iq_getI hS 7 J_MPlaceRows_add_d4 lf_14_13 (Or.inl rfl) (ka_130 hM4) rfl ?_
      refine iq_icmp_ge hS 10 J_MPlaceRows_add_d7 (t := 83) rfl (fun q7 => ?_) rfl (fun q7 => ?_)
      · replace h := ed_pos q7 h
        exact K1 _ _ hM4  (lq_r h hq1)
      · replace h := ed_neg q7 h
        refine iq_iconst hS 11 J_MPlaceRows_add_d10 (v := 0) (by decide +kernel) rfl ?_
        refine iq_istore_n hS 12 J_MPlaceRows_add_d11 (by decide) rfl ?_
        refine iq_iconst hS 13 J_MPlaceRows_add_d12 (v := 0) (by decide +kernel) rfl ?_
        refine iq_istore_n hS 14 J_MPlaceRows_add_d13 (by decide) rfl ?_
        obtain ⟨Q7, hQ7, h⟩ := bd1_ed h
        have K7 : ∀ (M8 : im_M) (L' : List (Nat × Value)), lw_S w M8 → im_lk L' 0 = some (.ref 130) → im_lk L' 1 = some (.int x3) → Q7 M8 → ia (tb_G L xs) (dep + 1) J_MPlaceRows_add (rwV w Q) (77, L', [], M8) := by
          intro M8 L' hM8 l9 l10 h
          replace h := hQ7 _ h
          refine iq_iincv hS 80 J_MPlaceRows_add_d77 (c := 1) (by decide +kernel) l10 (by decide) rfl ?_
          refine iq_goto hS J_MPlaceRows_add_d80 (t := 2) rfl ?_
          exact ih _ _ _ hM8 (lk_1r l9 (by decide)) lk_1s (lq_l h)
        obtain ⟨r7, hr7, hq7⟩ := h
        obtain ⟨n7, hn7⟩ := lp_n hr7
        have I7 : ∀ (n : Nat) (x11 : Int32) (x12 : Int32) (M13 : im_M) (L' : List (Nat × Value)), lw_S w M13 → im_lk L' 0 = some (.ref 130) → im_lk L' 1 = some (.int x3) → im_lk L' 2 = some (.int x11) → im_lk L' 3 = some (.int x12) → lpn (uc3 (f_MPlaceRows_add_L14 x3)) n (x11, x12, M13) = some r7 → ia (tb_G L xs) (dep + 1) J_MPlaceRows_add (rwV w Q) (14, L', [], M13) := by
          intro n
          induction n with
          | zero => intro x11 x12 M13 L' hM13 l14 l15 l16 l17 hn; exact (lpn_0 hn).elim
          | succ n ih =>
            intro x11 x12 M13 L' hM13 l14 l15 l16 l17 hn
            have h := lpn_ed3 hn
            unfold f_MPlaceRows_add_L14 at h
            refine iq_iload_n hS 15 J_MPlaceRows_add_d14 l17 rfl ?_
            refine iq_aload_n hS 16 J_MPlaceRows_add_d15 l14 rfl ?_
            refine iq_getI hS 19 J_MPlaceRows_add_d16 lf_14_7 (Or.inl rfl) (ka_130 hM13) rfl ?_
            refine iq_icmp_ge hS 22 J_MPlaceRows_add_d19 (t := 77) rfl (fun q19 => ?_) rfl (fun q19 => ?_)
            · replace h := ed_pos q19 h
              exact K7 _ _ hM13 l14 l15 (lq_r h hq7)
            · replace h := ed_neg q19 h
              refine iq_iload_n hS 23 J_MPlaceRows_add_d22 l16 rfl ?_
              refine iq_aload_n hS 24 J_MPlaceRows_add_d23 l14 rfl ?_
              refine iq_iload_n hS 25 J_MPlaceRows_add_d24 l17 rfl ?_
              refine iq_iload_n hS 26 J_MPlaceRows_add_d25 l15 rfl ?_
              obtain ⟨Q18, hQ18, h⟩ := bd1_ed h
              refine iq_cpI hS 29 J_MPlaceRows_add_d26 rfl (pr_inst (vs := [_, _]) lc_14_51 lT_444 rfl rfl (by decide) (by decide) rfl (Nat.le_of_ble_eq_true rfl) (Nat.le_of_ble_eq_true rfl) (fun _ => Or.inl (pr_b (ka_130 hM13) (by decide) rfl))) (f_MPlaceRows_isDark_ok (dep := dep + 0) hM13 h) rfl ?_
              intro x18 h
              replace h := hQ18 _ h
              have J19 : ∀ (z20 : Int32) (L' : List (Nat × Value)), z20 = ((if x18 = 0 then 0 else 1) : Int32) → im_lk L' 0 = some (.ref 130) → im_lk L' 1 = some (.int x3) → im_lk L' 3 = some (.int x12) → ia (tb_G L xs) (dep + 1) J_MPlaceRows_add (rwV w Q) (37, L', [.int z20, .int x11], M13) := by
                intro z20 L' e21 l22 l23 l24
                subst e21
                refine iq_iadd hS 38 J_MPlaceRows_add_d37 rfl ?_
                refine iq_istore_n hS 39 J_MPlaceRows_add_d38 (by decide) rfl ?_
                refine iq_aload_n hS 40 J_MPlaceRows_add_d39 (lk_1r l22 (by decide)) rfl ?_
                refine iq_getR hS 43 J_MPlaceRows_add_d40 lf_14_22 (Or.inr ⟨_, rfl⟩) (ka_130 hM13) (ra_130_4 hM13) rfl ?_
                refine iq_sipush hS 46 J_MPlaceRows_add_d43 (v := 513) (by decide +kernel) rfl ?_
                refine iq_iload_n hS 47 J_MPlaceRows_add_d46 (lk_1i l23 (by decide)) rfl ?_
                refine iq_iconst hS 48 J_MPlaceRows_add_d47 (v := 1) (by decide +kernel) rfl ?_
                refine iq_iadd hS 49 J_MPlaceRows_add_d48 rfl ?_
                refine iq_imul hS 50 J_MPlaceRows_add_d49 rfl ?_
                refine iq_iload_n hS 51 J_MPlaceRows_add_d50 (lk_1i l24 (by decide)) rfl ?_
                refine iq_iadd hS 52 J_MPlaceRows_add_d51 rfl ?_
                refine iq_iconst hS 53 J_MPlaceRows_add_d52 (v := 1) (by decide +kernel) rfl ?_
                refine iq_iadd hS 54 J_MPlaceRows_add_d53 rfl ?_
                refine iq_aload_n hS 55 J_MPlaceRows_add_d54 (lk_1r l22 (by decide)) rfl ?_
                refine iq_getR hS 58 J_MPlaceRows_add_d55 lf_14_22 (Or.inr ⟨_, rfl⟩) (ka_130 hM13) (ra_130_4 hM13) rfl ?_
                refine iq_sipush hS 61 J_MPlaceRows_add_d58 (v := 513) (by decide +kernel) rfl ?_
                refine iq_iload_n hS 62 J_MPlaceRows_add_d61 (lk_1i l23 (by decide)) rfl ?_
                refine iq_imul hS 63 J_MPlaceRows_add_d62 rfl ?_
                refine iq_iload_n hS 64 J_MPlaceRows_add_d63 (lk_1i l24 (by decide)) rfl ?_
                refine iq_iadd hS 65 J_MPlaceRows_add_d64 rfl ?_
                refine iq_iconst hS 66 J_MPlaceRows_add_d65 (v := 1) (by decide +kernel) rfl ?_
                refine iq_iadd hS 67 J_MPlaceRows_add_d66 rfl ?_
                obtain ⟨g67, h⟩ := ed_gd h
                refine iq_iaload hS 68 J_MPlaceRows_add_d67 ⟨(ka_132 hM13).1, (ka_132 hM13).2, g67.1, ix_lt (kl_132 hM13) g67.2⟩ rfl ?_
                refine iq_iload_n hS 69 J_MPlaceRows_add_d68 lk_1s rfl ?_
                refine iq_iadd hS 70 J_MPlaceRows_add_d69 rfl ?_
                obtain ⟨g70, h⟩ := ed_gd h
                refine iq_iastore hS 71 J_MPlaceRows_add_d70 ⟨(ka_132 hM13).1, (ka_132 hM13).2, g70.1, ix_lt (kl_132 hM13) g70.2⟩ rfl ?_
                refine iq_iincv hS 74 J_MPlaceRows_add_d71 (c := 1) (by decide +kernel) (lk_1i l24 (by decide)) (by decide) rfl ?_
                refine iq_goto hS J_MPlaceRows_add_d74 (t := 14) rfl ?_
                exact ih _ _ _ _ hM13 (lk_1r (lk_1r l22 (by decide)) (by decide)) (lk_1i (lk_1i l23 (by decide)) (by decide)) (lk_1i lk_1s (by decide)) lk_1s (lq_l h)
              refine iq_if_eq hS 32 J_MPlaceRows_add_d29 (t := 36) rfl (fun q29 => ?_) rfl (fun q29 => ?_)
              · refine iq_iconst hS 37 J_MPlaceRows_add_d36 (v := 0) (by decide +kernel) rfl ?_
                exact J19 _ _ (by rw [if_pos q29]) l14 l15 l17
              · refine iq_iconst hS 33 J_MPlaceRows_add_d32 (v := 1) (by decide +kernel) rfl ?_
                refine iq_goto hS J_MPlaceRows_add_d33 (t := 37) rfl ?_
                exact J19 _ _ (by rw [if_neg q29]) l14 l15 l17
        exact I7 n7 _ _ _ _ hM4 (lk_1r (lk_1r l5 (by decide)) (by decide)) (lk_1i (lk_1i l6 (by decide)) (by decide)) (lk_1i lk_1s (by decide)) lk_1s hn7
  exact I1 n1 _ _ _ hM (lk_1r l0 (by decide)) lk_1s hn1
noncomputable def f_MPlaceRows_side (p0 : Int32) (M : im_M) : Option (Int32) := some ((17 : Int32) + ((4 : Int32) * p0))
theorem J_MPlaceRows_side_d0 : decode J_MPlaceRows_side.2.1 0 = .ok (.bipush 17, 2) := by decide +kernel
theorem J_MPlaceRows_side_d2 : decode J_MPlaceRows_side.2.1 2 = .ok (.iconst 4, 1) := by decide +kernel
theorem J_MPlaceRows_side_d3 : decode J_MPlaceRows_side.2.1 3 = .ok (.iload_n 0, 1) := by decide +kernel
theorem J_MPlaceRows_side_d4 : decode J_MPlaceRows_side.2.1 4 = .ok (.imul, 1) := by decide +kernel
theorem J_MPlaceRows_side_d5 : decode J_MPlaceRows_side.2.1 5 = .ok (.iadd, 1) := by decide +kernel
theorem J_MPlaceRows_side_d6 : decode J_MPlaceRows_side.2.1 6 = .ok (.ireturn, 1) := by decide +kernel
theorem f_MPlaceRows_side_ok {L : Nat} {xs : Nat → Int32} {dep : Nat} {w : Bool} {p0 : Int32} {M : im_M} {Q : Int32 → Prop} (hM : lw_S w M) (h : ed (f_MPlaceRows_side p0 M) Q) : ia (tb_G L xs) dep J_MPlaceRows_side (rpI M Q) (0, lv_args 0 [.int p0], [], M) := by
  have hS : im_St (tb_G L xs) dep J_MPlaceRows_side (ia (tb_G L xs) dep J_MPlaceRows_side (rpI M Q)) := ia_St
  unfold f_MPlaceRows_side at h
  have l0 : im_lk (lv_args 0 [.int p0]) 0 = some (.int p0) := rfl
  refine iq_bipush hS 2 J_MPlaceRows_side_d0 (v := 17) (by decide +kernel) rfl ?_
  refine iq_iconst hS 3 J_MPlaceRows_side_d2 (v := 4) (by decide +kernel) rfl ?_
  refine iq_iload_n hS 4 J_MPlaceRows_side_d3 l0 rfl ?_
  refine iq_imul hS 5 J_MPlaceRows_side_d4 rfl ?_
  refine iq_iadd hS 6 J_MPlaceRows_side_d5 rfl ?_
  exact iq_iret J_MPlaceRows_side_d6 rfl rfl ⟨_, rfl, rfl, ed_some h⟩
noncomputable def f_MPlaceRows_apart (p0 : Int32) (p1 : Int32) (M : im_M) : Option (Int32) := if p1 ≤ p0 then some (p0 - p1) else some (p1 - p0)
theorem J_MPlaceRows_apart_d0 : decode J_MPlaceRows_apart.2.1 0 = .ok (.iload_n 0, 1) := by decide +kernel
theorem J_MPlaceRows_apart_d1 : decode J_MPlaceRows_apart.2.1 1 = .ok (.iload_n 1, 1) := by decide +kernel
theorem J_MPlaceRows_apart_d2 : decode J_MPlaceRows_apart.2.1 2 = .ok (.if_icmp .ge 9, 3) := by decide +kernel
theorem J_MPlaceRows_apart_d5 : decode J_MPlaceRows_apart.2.1 5 = .ok (.iload_n 1, 1) := by decide +kernel
theorem J_MPlaceRows_apart_d6 : decode J_MPlaceRows_apart.2.1 6 = .ok (.iload_n 0, 1) := by decide +kernel
theorem J_MPlaceRows_apart_d7 : decode J_MPlaceRows_apart.2.1 7 = .ok (.isub, 1) := by decide +kernel
theorem J_MPlaceRows_apart_d8 : decode J_MPlaceRows_apart.2.1 8 = .ok (.goto 6, 3) := by decide +kernel
theorem J_MPlaceRows_apart_d11 : decode J_MPlaceRows_apart.2.1 11 = .ok (.iload_n 0, 1) := by decide +kernel
theorem J_MPlaceRows_apart_d12 : decode J_MPlaceRows_apart.2.1 12 = .ok (.iload_n 1, 1) := by decide +kernel
theorem J_MPlaceRows_apart_d13 : decode J_MPlaceRows_apart.2.1 13 = .ok (.isub, 1) := by decide +kernel
theorem J_MPlaceRows_apart_d14 : decode J_MPlaceRows_apart.2.1 14 = .ok (.ireturn, 1) := by decide +kernel
theorem f_MPlaceRows_apart_ok {L : Nat} {xs : Nat → Int32} {dep : Nat} {w : Bool} {p0 : Int32} {p1 : Int32} {M : im_M} {Q : Int32 → Prop} (hM : lw_S w M) (h : ed (f_MPlaceRows_apart p0 p1 M) Q) : ia (tb_G L xs) dep J_MPlaceRows_apart (rpI M Q) (0, lv_args 0 [.int p0, .int p1], [], M) := by
  have hS : im_St (tb_G L xs) dep J_MPlaceRows_apart (ia (tb_G L xs) dep J_MPlaceRows_apart (rpI M Q)) := ia_St
  unfold f_MPlaceRows_apart at h
  have l0 : im_lk (lv_args 0 [.int p0, .int p1]) 0 = some (.int p0) := rfl
  have l1 : im_lk (lv_args 0 [.int p0, .int p1]) 1 = some (.int p1) := rfl
  refine iq_iload_n hS 1 J_MPlaceRows_apart_d0 l0 rfl ?_
  refine iq_iload_n hS 2 J_MPlaceRows_apart_d1 l1 rfl ?_
  refine iq_icmp_ge hS 5 J_MPlaceRows_apart_d2 (t := 11) rfl (fun q2 => ?_) rfl (fun q2 => ?_)
  · replace h := ed_pos q2 h
    refine iq_iload_n hS 12 J_MPlaceRows_apart_d11 l0 rfl ?_
    refine iq_iload_n hS 13 J_MPlaceRows_apart_d12 l1 rfl ?_
    refine iq_isub hS 14 J_MPlaceRows_apart_d13 rfl ?_
    exact iq_iret J_MPlaceRows_apart_d14 rfl rfl ⟨_, rfl, rfl, ed_some h⟩
  · replace h := ed_neg q2 h
    refine iq_iload_n hS 6 J_MPlaceRows_apart_d5 l1 rfl ?_
    refine iq_iload_n hS 7 J_MPlaceRows_apart_d6 l0 rfl ?_
    refine iq_isub hS 8 J_MPlaceRows_apart_d7 rfl ?_
    refine iq_goto hS J_MPlaceRows_apart_d8 (t := 14) rfl ?_
    exact iq_iret J_MPlaceRows_apart_d14 rfl rfl ⟨_, rfl, rfl, ed_some h⟩
noncomputable def f_MPlaceRows_distance (p0 : Int32) (p1 : Int32) (p2 : Int32) (p3 : Int32) (M : im_M) : Option (Int32) := bd1 (f_MPlaceRows_apart p0 p2 M) fun (x1 : Int32) => bd1 (f_MPlaceRows_apart p1 p3 M) fun (x2 : Int32) => if x1 ≤ x2 then bd1 (f_MPlaceRows_apart p1 p3 M) fun (x3 : Int32) => some x3 else bd1 (f_MPlaceRows_apart p0 p2 M) fun (x4 : Int32) => some x4
theorem J_MPlaceRows_distance_d0 : decode J_MPlaceRows_distance.2.1 0 = .ok (.iload_n 0, 1) := by decide +kernel
theorem J_MPlaceRows_distance_d1 : decode J_MPlaceRows_distance.2.1 1 = .ok (.iload_n 2, 1) := by decide +kernel
theorem J_MPlaceRows_distance_d2 : decode J_MPlaceRows_distance.2.1 2 = .ok (.invokestatic 55, 3) := by decide +kernel
theorem J_MPlaceRows_distance_d5 : decode J_MPlaceRows_distance.2.1 5 = .ok (.iload_n 1, 1) := by decide +kernel
theorem J_MPlaceRows_distance_d6 : decode J_MPlaceRows_distance.2.1 6 = .ok (.iload_n 3, 1) := by decide +kernel
theorem J_MPlaceRows_distance_d7 : decode J_MPlaceRows_distance.2.1 7 = .ok (.invokestatic 55, 3) := by decide +kernel
theorem J_MPlaceRows_distance_d10 : decode J_MPlaceRows_distance.2.1 10 = .ok (.if_icmp .le 11, 3) := by decide +kernel
theorem J_MPlaceRows_distance_d13 : decode J_MPlaceRows_distance.2.1 13 = .ok (.iload_n 0, 1) := by decide +kernel
theorem J_MPlaceRows_distance_d14 : decode J_MPlaceRows_distance.2.1 14 = .ok (.iload_n 2, 1) := by decide +kernel
theorem J_MPlaceRows_distance_d15 : decode J_MPlaceRows_distance.2.1 15 = .ok (.invokestatic 55, 3) := by decide +kernel
theorem J_MPlaceRows_distance_d18 : decode J_MPlaceRows_distance.2.1 18 = .ok (.goto 8, 3) := by decide +kernel
theorem J_MPlaceRows_distance_d21 : decode J_MPlaceRows_distance.2.1 21 = .ok (.iload_n 1, 1) := by decide +kernel
theorem J_MPlaceRows_distance_d22 : decode J_MPlaceRows_distance.2.1 22 = .ok (.iload_n 3, 1) := by decide +kernel
theorem J_MPlaceRows_distance_d23 : decode J_MPlaceRows_distance.2.1 23 = .ok (.invokestatic 55, 3) := by decide +kernel
theorem J_MPlaceRows_distance_d26 : decode J_MPlaceRows_distance.2.1 26 = .ok (.ireturn, 1) := by decide +kernel
theorem f_MPlaceRows_distance_ok {L : Nat} {xs : Nat → Int32} {dep : Nat} {w : Bool} {p0 : Int32} {p1 : Int32} {p2 : Int32} {p3 : Int32} {M : im_M} {Q : Int32 → Prop} (hM : lw_S w M) (h : ed (f_MPlaceRows_distance p0 p1 p2 p3 M) Q) : ia (tb_G L xs) (dep + 1) J_MPlaceRows_distance (rpI M Q) (0, lv_args 0 [.int p0, .int p1, .int p2, .int p3], [], M) := by
  have hS : im_St (tb_G L xs) (dep + 1) J_MPlaceRows_distance (ia (tb_G L xs) (dep + 1) J_MPlaceRows_distance (rpI M Q)) := ia_St
  unfold f_MPlaceRows_distance at h
  have l0 : im_lk (lv_args 0 [.int p0, .int p1, .int p2, .int p3]) 0 = some (.int p0) := rfl
  have l1 : im_lk (lv_args 0 [.int p0, .int p1, .int p2, .int p3]) 1 = some (.int p1) := rfl
  have l2 : im_lk (lv_args 0 [.int p0, .int p1, .int p2, .int p3]) 2 = some (.int p2) := rfl
  have l3 : im_lk (lv_args 0 [.int p0, .int p1, .int p2, .int p3]) 3 = some (.int p3) := rfl
  refine iq_iload_n hS 1 J_MPlaceRows_distance_d0 l0 rfl ?_
  refine iq_iload_n hS 2 J_MPlaceRows_distance_d1 l2 rfl ?_
  obtain ⟨Q1, hQ1, h⟩ := bd1_ed h
  refine iq_cpI hS 5 J_MPlaceRows_distance_d2 rfl (pr_stat (vs := [_, _]) lc_14_55 lT_461 rfl rfl (by decide) rfl (Nat.le_of_ble_eq_true rfl) (Nat.le_of_ble_eq_true rfl)) (f_MPlaceRows_apart_ok (dep := dep + 0) hM h) rfl ?_
  intro x1 h
  replace h := hQ1 _ h
  refine iq_iload_n hS 6 J_MPlaceRows_distance_d5 l1 rfl ?_
  refine iq_iload_n hS 7 J_MPlaceRows_distance_d6 l3 rfl ?_
  obtain ⟨Q2, hQ2, h⟩ := bd1_ed h
  refine iq_cpI hS 10 J_MPlaceRows_distance_d7 rfl (pr_stat (vs := [_, _]) lc_14_55 lT_461 rfl rfl (by decide) rfl (Nat.le_of_ble_eq_true rfl) (Nat.le_of_ble_eq_true rfl)) (f_MPlaceRows_apart_ok (dep := dep + 0) hM h) rfl ?_
  intro x2 h
  replace h := hQ2 _ h
  refine iq_icmp_le hS 13 J_MPlaceRows_distance_d10 (t := 21) rfl (fun q10 => ?_) rfl (fun q10 => ?_)
  · replace h := ed_pos q10 h
    refine iq_iload_n hS 22 J_MPlaceRows_distance_d21 l1 rfl ?_
    refine iq_iload_n hS 23 J_MPlaceRows_distance_d22 l3 rfl ?_
    obtain ⟨Q3, hQ3, h⟩ := bd1_ed h
    refine iq_cpI hS 26 J_MPlaceRows_distance_d23 rfl (pr_stat (vs := [_, _]) lc_14_55 lT_461 rfl rfl (by decide) rfl (Nat.le_of_ble_eq_true rfl) (Nat.le_of_ble_eq_true rfl)) (f_MPlaceRows_apart_ok (dep := dep + 0) hM h) rfl ?_
    intro x3 h
    replace h := hQ3 _ h
    exact iq_iret J_MPlaceRows_distance_d26 rfl rfl ⟨_, rfl, rfl, ed_some h⟩
  · replace h := ed_neg q10 h
    refine iq_iload_n hS 14 J_MPlaceRows_distance_d13 l0 rfl ?_
    refine iq_iload_n hS 15 J_MPlaceRows_distance_d14 l2 rfl ?_
    obtain ⟨Q4, hQ4, h⟩ := bd1_ed h
    refine iq_cpI hS 18 J_MPlaceRows_distance_d15 rfl (pr_stat (vs := [_, _]) lc_14_55 lT_461 rfl rfl (by decide) rfl (Nat.le_of_ble_eq_true rfl) (Nat.le_of_ble_eq_true rfl)) (f_MPlaceRows_apart_ok (dep := dep + 0) hM h) rfl ?_
    intro x4 h
    replace h := hQ4 _ h
    refine iq_goto hS J_MPlaceRows_distance_d18 (t := 26) rfl ?_
    exact iq_iret J_MPlaceRows_distance_d26 rfl rfl ⟨_, rfl, rfl, ed_some h⟩
noncomputable def f_MPlaceRows_module (p0 : Int32) (p1 : Int32) (p2 : Int32) (M : im_M) : Option (Int32) := bd1 (f_MPlaceRows_side p0 M) fun (x1 : Int32) => bd1 (f_MPlaceRows_distance p1 p2 3 3 M) fun (x2 : Int32) => bd1 (if x2 ≤ 4 then some x2 else bd1 (f_MPlaceRows_distance p1 p2 (x1 - 4) 3 M) fun (x4 : Int32) => some x4) fun (y5 : Int32) => bd1 (if y5 ≤ 4 then some y5 else bd1 (f_MPlaceRows_distance p1 p2 3 (x1 - 4) M) fun (x10 : Int32) => some x10) fun (y11 : Int32) => if 4 < y11 then jn0 (fun (_ : Unit) => jn0 (fun (_ : Unit) => if ¬ p1 = 8 then some (-1) else if ¬ p2 = (x1 - 8) then some (-1) else some 1) fun k19 => if ¬ p1 = 6 then k19 () else if p2 < 8 then k19 () else if (x1 - 9) < p2 then k19 () else if ¬ (p2 - p2 / 2 * 2) = 0 then some 0 else some 1) fun k15 => if ¬ p2 = 6 then k15 () else if p1 < 8 then k15 () else if (x1 - 9) < p1 then k15 () else if ¬ (p1 - p1 / 2 * 2) = 0 then some 0 else some 1 else jn0 (fun (_ : Unit) => some 0) fun k23 => if y11 = 2 then k23 () else if ¬ y11 = 4 then some 1 else k23 ()
theorem J_MPlaceRows_module_d0 : decode J_MPlaceRows_module.2.1 0 = .ok (.iload_n 0, 1) := by decide +kernel
theorem J_MPlaceRows_module_d1 : decode J_MPlaceRows_module.2.1 1 = .ok (.invokestatic 59, 3) := by decide +kernel
theorem J_MPlaceRows_module_d4 : decode J_MPlaceRows_module.2.1 4 = .ok (.istore_n 3, 1) := by decide +kernel
theorem J_MPlaceRows_module_d5 : decode J_MPlaceRows_module.2.1 5 = .ok (.iload_n 1, 1) := by decide +kernel
theorem J_MPlaceRows_module_d6 : decode J_MPlaceRows_module.2.1 6 = .ok (.iload_n 2, 1) := by decide +kernel
theorem J_MPlaceRows_module_d7 : decode J_MPlaceRows_module.2.1 7 = .ok (.iconst 3, 1) := by decide +kernel
theorem J_MPlaceRows_module_d8 : decode J_MPlaceRows_module.2.1 8 = .ok (.iconst 3, 1) := by decide +kernel
theorem J_MPlaceRows_module_d9 : decode J_MPlaceRows_module.2.1 9 = .ok (.invokestatic 63, 3) := by decide +kernel
theorem J_MPlaceRows_module_d12 : decode J_MPlaceRows_module.2.1 12 = .ok (.istore 4, 2) := by decide +kernel
theorem J_MPlaceRows_module_d14 : decode J_MPlaceRows_module.2.1 14 = .ok (.iload 4, 2) := by decide +kernel
theorem J_MPlaceRows_module_d16 : decode J_MPlaceRows_module.2.1 16 = .ok (.iconst 4, 1) := by decide +kernel
theorem J_MPlaceRows_module_d17 : decode J_MPlaceRows_module.2.1 17 = .ok (.if_icmp .le 15, 3) := by decide +kernel
theorem J_MPlaceRows_module_d20 : decode J_MPlaceRows_module.2.1 20 = .ok (.iload_n 1, 1) := by decide +kernel
theorem J_MPlaceRows_module_d21 : decode J_MPlaceRows_module.2.1 21 = .ok (.iload_n 2, 1) := by decide +kernel
theorem J_MPlaceRows_module_d22 : decode J_MPlaceRows_module.2.1 22 = .ok (.iload_n 3, 1) := by decide +kernel
theorem J_MPlaceRows_module_d23 : decode J_MPlaceRows_module.2.1 23 = .ok (.iconst 4, 1) := by decide +kernel
theorem J_MPlaceRows_module_d24 : decode J_MPlaceRows_module.2.1 24 = .ok (.isub, 1) := by decide +kernel
theorem J_MPlaceRows_module_d25 : decode J_MPlaceRows_module.2.1 25 = .ok (.iconst 3, 1) := by decide +kernel
theorem J_MPlaceRows_module_d26 : decode J_MPlaceRows_module.2.1 26 = .ok (.invokestatic 63, 3) := by decide +kernel
theorem J_MPlaceRows_module_d29 : decode J_MPlaceRows_module.2.1 29 = .ok (.goto 5, 3) := by decide +kernel
theorem J_MPlaceRows_module_d32 : decode J_MPlaceRows_module.2.1 32 = .ok (.iload 4, 2) := by decide +kernel
theorem J_MPlaceRows_module_d34 : decode J_MPlaceRows_module.2.1 34 = .ok (.istore 4, 2) := by decide +kernel
theorem J_MPlaceRows_module_d36 : decode J_MPlaceRows_module.2.1 36 = .ok (.iload 4, 2) := by decide +kernel
theorem J_MPlaceRows_module_d38 : decode J_MPlaceRows_module.2.1 38 = .ok (.iconst 4, 1) := by decide +kernel
theorem J_MPlaceRows_module_d39 : decode J_MPlaceRows_module.2.1 39 = .ok (.if_icmp .le 15, 3) := by decide +kernel
theorem J_MPlaceRows_module_d42 : decode J_MPlaceRows_module.2.1 42 = .ok (.iload_n 1, 1) := by decide +kernel
theorem J_MPlaceRows_module_d43 : decode J_MPlaceRows_module.2.1 43 = .ok (.iload_n 2, 1) := by decide +kernel
theorem J_MPlaceRows_module_d44 : decode J_MPlaceRows_module.2.1 44 = .ok (.iconst 3, 1) := by decide +kernel
theorem J_MPlaceRows_module_d45 : decode J_MPlaceRows_module.2.1 45 = .ok (.iload_n 3, 1) := by decide +kernel
theorem J_MPlaceRows_module_d46 : decode J_MPlaceRows_module.2.1 46 = .ok (.iconst 4, 1) := by decide +kernel
theorem J_MPlaceRows_module_d47 : decode J_MPlaceRows_module.2.1 47 = .ok (.isub, 1) := by decide +kernel
theorem J_MPlaceRows_module_d48 : decode J_MPlaceRows_module.2.1 48 = .ok (.invokestatic 63, 3) := by decide +kernel
theorem J_MPlaceRows_module_d51 : decode J_MPlaceRows_module.2.1 51 = .ok (.goto 5, 3) := by decide +kernel
theorem J_MPlaceRows_module_d54 : decode J_MPlaceRows_module.2.1 54 = .ok (.iload 4, 2) := by decide +kernel
theorem J_MPlaceRows_module_d56 : decode J_MPlaceRows_module.2.1 56 = .ok (.istore 4, 2) := by decide +kernel
theorem J_MPlaceRows_module_d58 : decode J_MPlaceRows_module.2.1 58 = .ok (.iload 4, 2) := by decide +kernel
theorem J_MPlaceRows_module_d60 : decode J_MPlaceRows_module.2.1 60 = .ok (.iconst 4, 1) := by decide +kernel
theorem J_MPlaceRows_module_d61 : decode J_MPlaceRows_module.2.1 61 = .ok (.if_icmp .gt 21, 3) := by decide +kernel
theorem J_MPlaceRows_module_d64 : decode J_MPlaceRows_module.2.1 64 = .ok (.iload 4, 2) := by decide +kernel
theorem J_MPlaceRows_module_d66 : decode J_MPlaceRows_module.2.1 66 = .ok (.iconst 2, 1) := by decide +kernel
theorem J_MPlaceRows_module_d67 : decode J_MPlaceRows_module.2.1 67 = .ok (.if_icmp .eq 9, 3) := by decide +kernel
theorem J_MPlaceRows_module_d70 : decode J_MPlaceRows_module.2.1 70 = .ok (.iload 4, 2) := by decide +kernel
theorem J_MPlaceRows_module_d72 : decode J_MPlaceRows_module.2.1 72 = .ok (.iconst 4, 1) := by decide +kernel
theorem J_MPlaceRows_module_d73 : decode J_MPlaceRows_module.2.1 73 = .ok (.if_icmp .ne 7, 3) := by decide +kernel
theorem J_MPlaceRows_module_d76 : decode J_MPlaceRows_module.2.1 76 = .ok (.iconst 0, 1) := by decide +kernel
theorem J_MPlaceRows_module_d77 : decode J_MPlaceRows_module.2.1 77 = .ok (.goto 4, 3) := by decide +kernel
theorem J_MPlaceRows_module_d80 : decode J_MPlaceRows_module.2.1 80 = .ok (.iconst 1, 1) := by decide +kernel
theorem J_MPlaceRows_module_d81 : decode J_MPlaceRows_module.2.1 81 = .ok (.ireturn, 1) := by decide +kernel
theorem J_MPlaceRows_module_d82 : decode J_MPlaceRows_module.2.1 82 = .ok (.iload_n 2, 1) := by decide +kernel
theorem J_MPlaceRows_module_d83 : decode J_MPlaceRows_module.2.1 83 = .ok (.bipush 6, 2) := by decide +kernel
theorem J_MPlaceRows_module_d85 : decode J_MPlaceRows_module.2.1 85 = .ok (.if_icmp .ne 29, 3) := by decide +kernel
theorem J_MPlaceRows_module_d88 : decode J_MPlaceRows_module.2.1 88 = .ok (.iload_n 1, 1) := by decide +kernel
theorem J_MPlaceRows_module_d89 : decode J_MPlaceRows_module.2.1 89 = .ok (.bipush 8, 2) := by decide +kernel
theorem J_MPlaceRows_module_d91 : decode J_MPlaceRows_module.2.1 91 = .ok (.if_icmp .lt 23, 3) := by decide +kernel
theorem J_MPlaceRows_module_d94 : decode J_MPlaceRows_module.2.1 94 = .ok (.iload_n 1, 1) := by decide +kernel
theorem J_MPlaceRows_module_d95 : decode J_MPlaceRows_module.2.1 95 = .ok (.iload_n 3, 1) := by decide +kernel
theorem J_MPlaceRows_module_d96 : decode J_MPlaceRows_module.2.1 96 = .ok (.bipush 9, 2) := by decide +kernel
theorem J_MPlaceRows_module_d98 : decode J_MPlaceRows_module.2.1 98 = .ok (.isub, 1) := by decide +kernel
theorem J_MPlaceRows_module_d99 : decode J_MPlaceRows_module.2.1 99 = .ok (.if_icmp .gt 15, 3) := by decide +kernel
theorem J_MPlaceRows_module_d102 : decode J_MPlaceRows_module.2.1 102 = .ok (.iload_n 1, 1) := by decide +kernel
theorem J_MPlaceRows_module_d103 : decode J_MPlaceRows_module.2.1 103 = .ok (.iconst 2, 1) := by decide +kernel
theorem J_MPlaceRows_module_d104 : decode J_MPlaceRows_module.2.1 104 = .ok (.irem, 1) := by decide +kernel
theorem J_MPlaceRows_module_d105 : decode J_MPlaceRows_module.2.1 105 = .ok (.ifCond .ne 7, 3) := by decide +kernel
theorem J_MPlaceRows_module_d108 : decode J_MPlaceRows_module.2.1 108 = .ok (.iconst 1, 1) := by decide +kernel
theorem J_MPlaceRows_module_d109 : decode J_MPlaceRows_module.2.1 109 = .ok (.goto 4, 3) := by decide +kernel
theorem J_MPlaceRows_module_d112 : decode J_MPlaceRows_module.2.1 112 = .ok (.iconst 0, 1) := by decide +kernel
theorem J_MPlaceRows_module_d113 : decode J_MPlaceRows_module.2.1 113 = .ok (.ireturn, 1) := by decide +kernel
theorem J_MPlaceRows_module_d114 : decode J_MPlaceRows_module.2.1 114 = .ok (.iload_n 1, 1) := by decide +kernel
theorem J_MPlaceRows_module_d115 : decode J_MPlaceRows_module.2.1 115 = .ok (.bipush 6, 2) := by decide +kernel
theorem J_MPlaceRows_module_d117 : decode J_MPlaceRows_module.2.1 117 = .ok (.if_icmp .ne 29, 3) := by decide +kernel
theorem J_MPlaceRows_module_d120 : decode J_MPlaceRows_module.2.1 120 = .ok (.iload_n 2, 1) := by decide +kernel
theorem J_MPlaceRows_module_d121 : decode J_MPlaceRows_module.2.1 121 = .ok (.bipush 8, 2) := by decide +kernel
theorem J_MPlaceRows_module_d123 : decode J_MPlaceRows_module.2.1 123 = .ok (.if_icmp .lt 23, 3) := by decide +kernel
theorem J_MPlaceRows_module_d126 : decode J_MPlaceRows_module.2.1 126 = .ok (.iload_n 2, 1) := by decide +kernel
theorem J_MPlaceRows_module_d127 : decode J_MPlaceRows_module.2.1 127 = .ok (.iload_n 3, 1) := by decide +kernel
theorem J_MPlaceRows_module_d128 : decode J_MPlaceRows_module.2.1 128 = .ok (.bipush 9, 2) := by decide +kernel
theorem J_MPlaceRows_module_d130 : decode J_MPlaceRows_module.2.1 130 = .ok (.isub, 1) := by decide +kernel
theorem J_MPlaceRows_module_d131 : decode J_MPlaceRows_module.2.1 131 = .ok (.if_icmp .gt 15, 3) := by decide +kernel
theorem J_MPlaceRows_module_d134 : decode J_MPlaceRows_module.2.1 134 = .ok (.iload_n 2, 1) := by decide +kernel
theorem J_MPlaceRows_module_d135 : decode J_MPlaceRows_module.2.1 135 = .ok (.iconst 2, 1) := by decide +kernel
theorem J_MPlaceRows_module_d136 : decode J_MPlaceRows_module.2.1 136 = .ok (.irem, 1) := by decide +kernel
theorem J_MPlaceRows_module_d137 : decode J_MPlaceRows_module.2.1 137 = .ok (.ifCond .ne 7, 3) := by decide +kernel
theorem J_MPlaceRows_module_d140 : decode J_MPlaceRows_module.2.1 140 = .ok (.iconst 1, 1) := by decide +kernel
theorem J_MPlaceRows_module_d141 : decode J_MPlaceRows_module.2.1 141 = .ok (.goto 4, 3) := by decide +kernel
theorem J_MPlaceRows_module_d144 : decode J_MPlaceRows_module.2.1 144 = .ok (.iconst 0, 1) := by decide +kernel
theorem J_MPlaceRows_module_d145 : decode J_MPlaceRows_module.2.1 145 = .ok (.ireturn, 1) := by decide +kernel
theorem J_MPlaceRows_module_d146 : decode J_MPlaceRows_module.2.1 146 = .ok (.iload_n 1, 1) := by decide +kernel
theorem J_MPlaceRows_module_d147 : decode J_MPlaceRows_module.2.1 147 = .ok (.bipush 8, 2) := by decide +kernel
theorem J_MPlaceRows_module_d149 : decode J_MPlaceRows_module.2.1 149 = .ok (.if_icmp .ne 15, 3) := by decide +kernel
theorem J_MPlaceRows_module_d152 : decode J_MPlaceRows_module.2.1 152 = .ok (.iload_n 2, 1) := by decide +kernel
theorem J_MPlaceRows_module_d153 : decode J_MPlaceRows_module.2.1 153 = .ok (.iload_n 3, 1) := by decide +kernel
theorem J_MPlaceRows_module_d154 : decode J_MPlaceRows_module.2.1 154 = .ok (.bipush 8, 2) := by decide +kernel
theorem J_MPlaceRows_module_d156 : decode J_MPlaceRows_module.2.1 156 = .ok (.isub, 1) := by decide +kernel
theorem J_MPlaceRows_module_d157 : decode J_MPlaceRows_module.2.1 157 = .ok (.if_icmp .ne 7, 3) := by decide +kernel
theorem J_MPlaceRows_module_d160 : decode J_MPlaceRows_module.2.1 160 = .ok (.iconst 1, 1) := by decide +kernel
theorem J_MPlaceRows_module_d161 : decode J_MPlaceRows_module.2.1 161 = .ok (.goto 4, 3) := by decide +kernel
theorem J_MPlaceRows_module_d164 : decode J_MPlaceRows_module.2.1 164 = .ok (.iconst (-1), 1) := by decide +kernel
theorem J_MPlaceRows_module_d165 : decode J_MPlaceRows_module.2.1 165 = .ok (.ireturn, 1) := by decide +kernel
theorem f_MPlaceRows_module_ok {L : Nat} {xs : Nat → Int32} {dep : Nat} {w : Bool} {p0 : Int32} {p1 : Int32} {p2 : Int32} {M : im_M} {Q : Int32 → Prop} (hM : lw_S w M) (h : ed (f_MPlaceRows_module p0 p1 p2 M) Q) : ia (tb_G L xs) (dep + 2) J_MPlaceRows_module (rpI M Q) (0, lv_args 0 [.int p0, .int p1, .int p2], [], M) := by
  have hS : im_St (tb_G L xs) (dep + 2) J_MPlaceRows_module (ia (tb_G L xs) (dep + 2) J_MPlaceRows_module (rpI M Q)) := ia_St
  unfold f_MPlaceRows_module at h
  have l0 : im_lk (lv_args 0 [.int p0, .int p1, .int p2]) 0 = some (.int p0) := rfl
  have l1 : im_lk (lv_args 0 [.int p0, .int p1, .int p2]) 1 = some (.int p1) := rfl
  have l2 : im_lk (lv_args 0 [.int p0, .int p1, .int p2]) 2 = some (.int p2) := rfl
  refine iq_iload_n hS 1 J_MPlaceRows_module_d0 l0 rfl ?_
  obtain ⟨Q1, hQ1, h⟩ := bd1_ed h
  refine iq_cpI hS 4 J_MPlaceRows_module_d1 rfl (pr_stat (vs := [_]) lc_14_59 lT_458 rfl rfl (by decide) rfl (Nat.le_of_ble_eq_true rfl) (Nat.le_of_ble_eq_true rfl)) (f_MPlaceRows_side_ok (dep := dep + 1) hM h) rfl ?_
  intro x1 h
  replace h := hQ1 _ h
  refine iq_istore_n hS 5 J_MPlaceRows_module_d4 (by decide) rfl ?_
  refine iq_iload_n hS 6 J_MPlaceRows_module_d5 (lk_1i l1 (by decide)) rfl ?_
  refine iq_iload_n hS 7 J_MPlaceRows_module_d6 (lk_1i l2 (by decide)) rfl ?_
  refine iq_iconst hS 8 J_MPlaceRows_module_d7 (v := 3) (by decide +kernel) rfl ?_
  refine iq_iconst hS 9 J_MPlaceRows_module_d8 (v := 3) (by decide +kernel) rfl ?_
  obtain ⟨Q2, hQ2, h⟩ := bd1_ed h
  refine iq_cpI hS 12 J_MPlaceRows_module_d9 rfl (pr_stat (vs := [_, _, _, _]) lc_14_63 lT_460 rfl rfl (by decide) rfl (Nat.le_of_ble_eq_true rfl) (Nat.le_of_ble_eq_true rfl)) (f_MPlaceRows_distance_ok (dep := dep + 0) hM h) rfl ?_
  intro x2 h
  replace h := hQ2 _ h
  refine iq_istore hS 14 J_MPlaceRows_module_d12 (by decide) rfl ?_
  refine iq_iload hS 16 J_MPlaceRows_module_d14 lk_1s rfl ?_
  refine iq_iconst hS 17 J_MPlaceRows_module_d16 (v := 4) (by decide +kernel) rfl ?_
  obtain ⟨Q3, hQ3, h⟩ := bd1_ed h
  have J3 : ∀ (y5 : Int32) (L' : List (Nat × Value)), im_lk L' 1 = some (.int p1) → im_lk L' 2 = some (.int p2) → im_lk L' 3 = some (.int x1) → Q3 y5 → ia (tb_G L xs) (dep + 2) J_MPlaceRows_module (rpI M Q) (34, L', [.int y5], M) := by
    intro y5 L' l6 l7 l8 h
    replace h := hQ3 _ h
    refine iq_istore hS 36 J_MPlaceRows_module_d34 (by decide) rfl ?_
    refine iq_iload hS 38 J_MPlaceRows_module_d36 lk_1s rfl ?_
    refine iq_iconst hS 39 J_MPlaceRows_module_d38 (v := 4) (by decide +kernel) rfl ?_
    obtain ⟨Q9, hQ9, h⟩ := bd1_ed h
    have J9 : ∀ (y11 : Int32) (L' : List (Nat × Value)), im_lk L' 1 = some (.int p1) → im_lk L' 2 = some (.int p2) → im_lk L' 3 = some (.int x1) → Q9 y11 → ia (tb_G L xs) (dep + 2) J_MPlaceRows_module (rpI M Q) (56, L', [.int y11], M) := by
      intro y11 L' l12 l13 l14 h
      replace h := hQ9 _ h
      refine iq_istore hS 58 J_MPlaceRows_module_d56 (by decide) rfl ?_
      refine iq_iload hS 60 J_MPlaceRows_module_d58 lk_1s rfl ?_
      refine iq_iconst hS 61 J_MPlaceRows_module_d60 (v := 4) (by decide +kernel) rfl ?_
      refine iq_icmp_gt hS 64 J_MPlaceRows_module_d61 (t := 82) rfl (fun q61 => ?_) rfl (fun q61 => ?_)
      · replace h := ed_pos q61 h
        refine iq_iload_n hS 83 J_MPlaceRows_module_d82 (lk_1i l13 (by decide)) rfl ?_
        refine iq_bipush hS 85 J_MPlaceRows_module_d83 (v := 6) (by decide +kernel) rfl ?_
        obtain ⟨k15, Q15, hQ15, hk15, h⟩ := jn0_ed h
        have J15 : ∀  (L' : List (Nat × Value)), im_lk L' 1 = some (.int p1) → im_lk L' 2 = some (.int p2) → im_lk L' 3 = some (.int x1) → Q15 () → ia (tb_G L xs) (dep + 2) J_MPlaceRows_module (rpI M Q) (114, L', [], M) := by
          intro  L' l16 l17 l18 h
          replace h := hQ15  h
          refine iq_iload_n hS 115 J_MPlaceRows_module_d114 l16 rfl ?_
          refine iq_bipush hS 117 J_MPlaceRows_module_d115 (v := 6) (by decide +kernel) rfl ?_
          obtain ⟨k19, Q19, hQ19, hk19, h⟩ := jn0_ed h
          have J19 : ∀  (L' : List (Nat × Value)), im_lk L' 1 = some (.int p1) → im_lk L' 2 = some (.int p2) → im_lk L' 3 = some (.int x1) → Q19 () → ia (tb_G L xs) (dep + 2) J_MPlaceRows_module (rpI M Q) (146, L', [], M) := by
            intro  L' l20 l21 l22 h
            replace h := hQ19  h
            refine iq_iload_n hS 147 J_MPlaceRows_module_d146 l20 rfl ?_
            refine iq_bipush hS 149 J_MPlaceRows_module_d147 (v := 8) (by decide +kernel) rfl ?_
            refine iq_icmp_ne hS 152 J_MPlaceRows_module_d149 (t := 164) rfl (fun q149 => ?_) rfl (fun q149 => ?_)
            · replace h := ed_pos q149 h
              refine iq_iconst hS 165 J_MPlaceRows_module_d164 (v := (-1)) (by decide +kernel) rfl ?_
              exact iq_iret J_MPlaceRows_module_d165 rfl rfl ⟨_, rfl, rfl, ed_some h⟩
            · replace h := ed_neg q149 h
              refine iq_iload_n hS 153 J_MPlaceRows_module_d152 l21 rfl ?_
              refine iq_iload_n hS 154 J_MPlaceRows_module_d153 l22 rfl ?_
              refine iq_bipush hS 156 J_MPlaceRows_module_d154 (v := 8) (by decide +kernel) rfl ?_
              refine iq_isub hS 157 J_MPlaceRows_module_d156 rfl ?_
              refine iq_icmp_ne hS 160 J_MPlaceRows_module_d157 (t := 164) rfl (fun q157 => ?_) rfl (fun q157 => ?_)
              · replace h := ed_pos q157 h
                refine iq_iconst hS 165 J_MPlaceRows_module_d164 (v := (-1)) (by decide +kernel) rfl ?_
                exact iq_iret J_MPlaceRows_module_d165 rfl rfl ⟨_, rfl, rfl, ed_some h⟩
              · replace h := ed_neg q157 h
                refine iq_iconst hS 161 J_MPlaceRows_module_d160 (v := 1) (by decide +kernel) rfl ?_
                refine iq_goto hS J_MPlaceRows_module_d161 (t := 165) rfl ?_
                exact iq_iret J_MPlaceRows_module_d165 rfl rfl ⟨_, rfl, rfl, ed_some h⟩
          refine iq_icmp_ne hS 120 J_MPlaceRows_module_d117 (t := 146) rfl (fun q117 => ?_) rfl (fun q117 => ?_)
          · replace h := ed_pos q117 h
            exact J19  _ l16 l17 l18 (hk19  h)
          · replace h := ed_neg q117 h
            refine iq_iload_n hS 121 J_MPlaceRows_module_d120 l17 rfl ?_
            refine iq_bipush hS 123 J_MPlaceRows_module_d121 (v := 8) (by decide +kernel) rfl ?_
            refine iq_icmp_lt hS 126 J_MPlaceRows_module_d123 (t := 146) rfl (fun q123 => ?_) rfl (fun q123 => ?_)
            · replace h := ed_pos q123 h
              exact J19  _ l16 l17 l18 (hk19  h)
            · replace h := ed_neg q123 h
              refine iq_iload_n hS 127 J_MPlaceRows_module_d126 l17 rfl ?_
              refine iq_iload_n hS 128 J_MPlaceRows_module_d127 l18 rfl ?_
              refine iq_bipush hS 130 J_MPlaceRows_module_d128 (v := 9) (by decide +kernel) rfl ?_
              refine iq_isub hS 131 J_MPlaceRows_module_d130 rfl ?_
              refine iq_icmp_gt hS 134 J_MPlaceRows_module_d131 (t := 146) rfl (fun q131 => ?_) rfl (fun q131 => ?_)
              · replace h := ed_pos q131 h
                exact J19  _ l16 l17 l18 (hk19  h)
              · replace h := ed_neg q131 h
                refine iq_iload_n hS 135 J_MPlaceRows_module_d134 l17 rfl ?_
                refine iq_iconst hS 136 J_MPlaceRows_module_d135 (v := 2) (by decide +kernel) rfl ?_
                refine iq_irem hS 137 J_MPlaceRows_module_d136 (by decide) rfl ?_
                refine iq_if_ne hS 140 J_MPlaceRows_module_d137 (t := 144) rfl (fun q137 => ?_) rfl (fun q137 => ?_)
                · replace h := ed_pos q137 h
                  refine iq_iconst hS 145 J_MPlaceRows_module_d144 (v := 0) (by decide +kernel) rfl ?_
                  exact iq_iret J_MPlaceRows_module_d145 rfl rfl ⟨_, rfl, rfl, ed_some h⟩
                · replace h := ed_neg q137 h
                  refine iq_iconst hS 141 J_MPlaceRows_module_d140 (v := 1) (by decide +kernel) rfl ?_
                  refine iq_goto hS J_MPlaceRows_module_d141 (t := 145) rfl ?_
                  exact iq_iret J_MPlaceRows_module_d145 rfl rfl ⟨_, rfl, rfl, ed_some h⟩
        refine iq_icmp_ne hS 88 J_MPlaceRows_module_d85 (t := 114) rfl (fun q85 => ?_) rfl (fun q85 => ?_)
        · replace h := ed_pos q85 h
          exact J15  _ (lk_1i l12 (by decide)) (lk_1i l13 (by decide)) (lk_1i l14 (by decide)) (hk15  h)
        · replace h := ed_neg q85 h
          refine iq_iload_n hS 89 J_MPlaceRows_module_d88 (lk_1i l12 (by decide)) rfl ?_
          refine iq_bipush hS 91 J_MPlaceRows_module_d89 (v := 8) (by decide +kernel) rfl ?_
          refine iq_icmp_lt hS 94 J_MPlaceRows_module_d91 (t := 114) rfl (fun q91 => ?_) rfl (fun q91 => ?_)
          · replace h := ed_pos q91 h
            exact J15  _ (lk_1i l12 (by decide)) (lk_1i l13 (by decide)) (lk_1i l14 (by decide)) (hk15  h)
          · replace h := ed_neg q91 h
            refine iq_iload_n hS 95 J_MPlaceRows_module_d94 (lk_1i l12 (by decide)) rfl ?_
            refine iq_iload_n hS 96 J_MPlaceRows_module_d95 (lk_1i l14 (by decide)) rfl ?_
            refine iq_bipush hS 98 J_MPlaceRows_module_d96 (v := 9) (by decide +kernel) rfl ?_
            refine iq_isub hS 99 J_MPlaceRows_module_d98 rfl ?_
            refine iq_icmp_gt hS 102 J_MPlaceRows_module_d99 (t := 114) rfl (fun q99 => ?_) rfl (fun q99 => ?_)
            · replace h := ed_pos q99 h
              exact J15  _ (lk_1i l12 (by decide)) (lk_1i l13 (by decide)) (lk_1i l14 (by decide)) (hk15  h)
            · replace h := ed_neg q99 h
              refine iq_iload_n hS 103 J_MPlaceRows_module_d102 (lk_1i l12 (by decide)) rfl ?_
              refine iq_iconst hS 104 J_MPlaceRows_module_d103 (v := 2) (by decide +kernel) rfl ?_
              refine iq_irem hS 105 J_MPlaceRows_module_d104 (by decide) rfl ?_
              refine iq_if_ne hS 108 J_MPlaceRows_module_d105 (t := 112) rfl (fun q105 => ?_) rfl (fun q105 => ?_)
              · replace h := ed_pos q105 h
                refine iq_iconst hS 113 J_MPlaceRows_module_d112 (v := 0) (by decide +kernel) rfl ?_
                exact iq_iret J_MPlaceRows_module_d113 rfl rfl ⟨_, rfl, rfl, ed_some h⟩
              · replace h := ed_neg q105 h
                refine iq_iconst hS 109 J_MPlaceRows_module_d108 (v := 1) (by decide +kernel) rfl ?_
                refine iq_goto hS J_MPlaceRows_module_d109 (t := 113) rfl ?_
                exact iq_iret J_MPlaceRows_module_d113 rfl rfl ⟨_, rfl, rfl, ed_some h⟩
      · replace h := ed_neg q61 h
        refine iq_iload hS 66 J_MPlaceRows_module_d64 lk_1s rfl ?_
        refine iq_iconst hS 67 J_MPlaceRows_module_d66 (v := 2) (by decide +kernel) rfl ?_
        obtain ⟨k23, Q23, hQ23, hk23, h⟩ := jn0_ed h
        have J23 : ∀  (L' : List (Nat × Value)), Q23 () → ia (tb_G L xs) (dep + 2) J_MPlaceRows_module (rpI M Q) (76, L', [], M) := by
          intro  L'  h
          replace h := hQ23  h
          refine iq_iconst hS 77 J_MPlaceRows_module_d76 (v := 0) (by decide +kernel) rfl ?_
          refine iq_goto hS J_MPlaceRows_module_d77 (t := 81) rfl ?_
          exact iq_iret J_MPlaceRows_module_d81 rfl rfl ⟨_, rfl, rfl, ed_some h⟩
        refine iq_icmp_eq hS 70 J_MPlaceRows_module_d67 (t := 76) rfl (fun q67 => ?_) rfl (fun q67 => ?_)
        · replace h := ed_pos q67 h
          exact J23  _  (hk23  h)
        · replace h := ed_neg q67 h
          refine iq_iload hS 72 J_MPlaceRows_module_d70 lk_1s rfl ?_
          refine iq_iconst hS 73 J_MPlaceRows_module_d72 (v := 4) (by decide +kernel) rfl ?_
          refine iq_icmp_ne hS 76 J_MPlaceRows_module_d73 (t := 80) rfl (fun q73 => ?_) rfl (fun q73 => ?_)
          · replace h := ed_pos q73 h
            refine iq_iconst hS 81 J_MPlaceRows_module_d80 (v := 1) (by decide +kernel) rfl ?_
            exact iq_iret J_MPlaceRows_module_d81 rfl rfl ⟨_, rfl, rfl, ed_some h⟩
          · replace h := ed_neg q73 h
            exact J23  _  (hk23  h)
    refine iq_icmp_le hS 42 J_MPlaceRows_module_d39 (t := 54) rfl (fun q39 => ?_) rfl (fun q39 => ?_)
    · replace h := ed_pos q39 h
      refine iq_iload hS 56 J_MPlaceRows_module_d54 lk_1s rfl ?_
      exact J9 _ _ (lk_1i l6 (by decide)) (lk_1i l7 (by decide)) (lk_1i l8 (by decide)) (ed_some h)
    · replace h := ed_neg q39 h
      refine iq_iload_n hS 43 J_MPlaceRows_module_d42 (lk_1i l6 (by decide)) rfl ?_
      refine iq_iload_n hS 44 J_MPlaceRows_module_d43 (lk_1i l7 (by decide)) rfl ?_
      refine iq_iconst hS 45 J_MPlaceRows_module_d44 (v := 3) (by decide +kernel) rfl ?_
      refine iq_iload_n hS 46 J_MPlaceRows_module_d45 (lk_1i l8 (by decide)) rfl ?_
      refine iq_iconst hS 47 J_MPlaceRows_module_d46 (v := 4) (by decide +kernel) rfl ?_
      refine iq_isub hS 48 J_MPlaceRows_module_d47 rfl ?_
      obtain ⟨Q10, hQ10, h⟩ := bd1_ed h
      refine iq_cpI hS 51 J_MPlaceRows_module_d48 rfl (pr_stat (vs := [_, _, _, _]) lc_14_63 lT_460 rfl rfl (by decide) rfl (Nat.le_of_ble_eq_true rfl) (Nat.le_of_ble_eq_true rfl)) (f_MPlaceRows_distance_ok (dep := dep + 0) hM h) rfl ?_
      intro x10 h
      replace h := hQ10 _ h
      refine iq_goto hS J_MPlaceRows_module_d51 (t := 56) rfl ?_
      exact J9 _ _ (lk_1i l6 (by decide)) (lk_1i l7 (by decide)) (lk_1i l8 (by decide)) (ed_some h)
  refine iq_icmp_le hS 20 J_MPlaceRows_module_d17 (t := 32) rfl (fun q17 => ?_) rfl (fun q17 => ?_)
  · replace h := ed_pos q17 h
    refine iq_iload hS 34 J_MPlaceRows_module_d32 lk_1s rfl ?_
    exact J3 _ _ (lk_1i (lk_1i l1 (by decide)) (by decide)) (lk_1i (lk_1i l2 (by decide)) (by decide)) (lk_1i lk_1s (by decide)) (ed_some h)
  · replace h := ed_neg q17 h
    refine iq_iload_n hS 21 J_MPlaceRows_module_d20 (lk_1i (lk_1i l1 (by decide)) (by decide)) rfl ?_
    refine iq_iload_n hS 22 J_MPlaceRows_module_d21 (lk_1i (lk_1i l2 (by decide)) (by decide)) rfl ?_
    refine iq_iload_n hS 23 J_MPlaceRows_module_d22 (lk_1i lk_1s (by decide)) rfl ?_
    refine iq_iconst hS 24 J_MPlaceRows_module_d23 (v := 4) (by decide +kernel) rfl ?_
    refine iq_isub hS 25 J_MPlaceRows_module_d24 rfl ?_
    refine iq_iconst hS 26 J_MPlaceRows_module_d25 (v := 3) (by decide +kernel) rfl ?_
    obtain ⟨Q4, hQ4, h⟩ := bd1_ed h
    refine iq_cpI hS 29 J_MPlaceRows_module_d26 rfl (pr_stat (vs := [_, _, _, _]) lc_14_63 lT_460 rfl rfl (by decide) rfl (Nat.le_of_ble_eq_true rfl) (Nat.le_of_ble_eq_true rfl)) (f_MPlaceRows_distance_ok (dep := dep + 0) hM h) rfl ?_
    intro x4 h
    replace h := hQ4 _ h
    refine iq_goto hS J_MPlaceRows_module_d29 (t := 34) rfl ?_
    exact J3 _ _ (lk_1i (lk_1i l1 (by decide)) (by decide)) (lk_1i (lk_1i l2 (by decide)) (by decide)) (lk_1i lk_1s (by decide)) (ed_some h)
noncomputable def f_MPlaceRows_list_L20 (v8 : Int32) (v9 : Int32) (v10 : Int32) (x11 : Int32) (M12 : im_M) : Option ((Int32 × im_M) ⊕ (im_M)) := if v9 ≤ x11 then some (.inr M12) else bd1 (f_MPlaceRows_module v8 x11 v10 M12) fun (x13 : Int32) => bd1 (jn1 (fun (M17 : im_M) => if x13 = (-1) then some M17 else gd (inb ((4 : Int32) * (im_i M17 130 6)) 2100) <| gd (inb (((4 : Int32) * (im_i (im_setI M17 133 (Int32.toNatClampNeg ((4 : Int32) * (im_i M17 130 6))) x11) 130 6)) + 1) 2100) <| gd (inb (((4 : Int32) * (im_i (im_setI (im_setI M17 133 (Int32.toNatClampNeg ((4 : Int32) * (im_i M17 130 6))) x11) 133 (Int32.toNatClampNeg (((4 : Int32) * (im_i (im_setI M17 133 (Int32.toNatClampNeg ((4 : Int32) * (im_i M17 130 6))) x11) 130 6)) + 1)) v10) 130 6)) + 2) 2100) <| gd (inb (((4 : Int32) * (im_i (im_setI (im_setI (im_setI M17 133 (Int32.toNatClampNeg ((4 : Int32) * (im_i M17 130 6))) x11) 133 (Int32.toNatClampNeg (((4 : Int32) * (im_i (im_setI M17 133 (Int32.toNatClampNeg ((4 : Int32) * (im_i M17 130 6))) x11) 130 6)) + 1)) v10) 133 (Int32.toNatClampNeg (((4 : Int32) * (im_i (im_setI (im_setI M17 133 (Int32.toNatClampNeg ((4 : Int32) * (im_i M17 130 6))) x11) 133 (Int32.toNatClampNeg (((4 : Int32) * (im_i (im_setI M17 133 (Int32.toNatClampNeg ((4 : Int32) * (im_i M17 130 6))) x11) 130 6)) + 1)) v10) 130 6)) + 2)) 1) 130 6)) + 3) 2100) <| some (im_setI (im_setI (im_setI (im_setI (im_setI M17 133 (Int32.toNatClampNeg ((4 : Int32) * (im_i M17 130 6))) x11) 133 (Int32.toNatClampNeg (((4 : Int32) * (im_i (im_setI M17 133 (Int32.toNatClampNeg ((4 : Int32) * (im_i M17 130 6))) x11) 130 6)) + 1)) v10) 133 (Int32.toNatClampNeg (((4 : Int32) * (im_i (im_setI (im_setI M17 133 (Int32.toNatClampNeg ((4 : Int32) * (im_i M17 130 6))) x11) 133 (Int32.toNatClampNeg (((4 : Int32) * (im_i (im_setI M17 133 (Int32.toNatClampNeg ((4 : Int32) * (im_i M17 130 6))) x11) 130 6)) + 1)) v10) 130 6)) + 2)) 1) 133 (Int32.toNatClampNeg (((4 : Int32) * (im_i (im_setI (im_setI (im_setI M17 133 (Int32.toNatClampNeg ((4 : Int32) * (im_i M17 130 6))) x11) 133 (Int32.toNatClampNeg (((4 : Int32) * (im_i (im_setI M17 133 (Int32.toNatClampNeg ((4 : Int32) * (im_i M17 130 6))) x11) 130 6)) + 1)) v10) 133 (Int32.toNatClampNeg (((4 : Int32) * (im_i (im_setI (im_setI M17 133 (Int32.toNatClampNeg ((4 : Int32) * (im_i M17 130 6))) x11) 133 (Int32.toNatClampNeg (((4 : Int32) * (im_i (im_setI M17 133 (Int32.toNatClampNeg ((4 : Int32) * (im_i M17 130 6))) x11) 130 6)) + 1)) v10) 130 6)) + 2)) 1) 130 6)) + 3)) x13) 130 6 ((im_i (im_setI (im_setI (im_setI (im_setI M17 133 (Int32.toNatClampNeg ((4 : Int32) * (im_i M17 130 6))) x11) 133 (Int32.toNatClampNeg (((4 : Int32) * (im_i (im_setI M17 133 (Int32.toNatClampNeg ((4 : Int32) * (im_i M17 130 6))) x11) 130 6)) + 1)) v10) 133 (Int32.toNatClampNeg (((4 : Int32) * (im_i (im_setI (im_setI M17 133 (Int32.toNatClampNeg ((4 : Int32) * (im_i M17 130 6))) x11) 133 (Int32.toNatClampNeg (((4 : Int32) * (im_i (im_setI M17 133 (Int32.toNatClampNeg ((4 : Int32) * (im_i M17 130 6))) x11) 130 6)) + 1)) v10) 130 6)) + 2)) 1) 133 (Int32.toNatClampNeg (((4 : Int32) * (im_i (im_setI (im_setI (im_setI M17 133 (Int32.toNatClampNeg ((4 : Int32) * (im_i M17 130 6))) x11) 133 (Int32.toNatClampNeg (((4 : Int32) * (im_i (im_setI M17 133 (Int32.toNatClampNeg ((4 : Int32) * (im_i M17 130 6))) x11) 130 6)) + 1)) v10) 133 (Int32.toNatClampNeg (((4 : Int32) * (im_i (im_setI (im_setI M17 133 (Int32.toNatClampNeg ((4 : Int32) * (im_i M17 130 6))) x11) 133 (Int32.toNatClampNeg (((4 : Int32) * (im_i (im_setI M17 133 (Int32.toNatClampNeg ((4 : Int32) * (im_i M17 130 6))) x11) 130 6)) + 1)) v10) 130 6)) + 2)) 1) 130 6)) + 3)) x13) 130 6) + 1))) fun k15 => if x13 = (-1) then k15 M12 else if x11 ≤ 0 then k15 M12 else bd1 (f_MPlaceRows_module v8 (x11 - 1) v10 M12) fun (x16 : Int32) => if ¬ x16 = x13 then k15 M12 else gd (inb (((4 : Int32) * (im_i M12 130 6)) - 2) 2100) <| gd (inb (((4 : Int32) * (im_i M12 130 6)) - 2) 2100) <| some (im_setI M12 133 (Int32.toNatClampNeg (((4 : Int32) * (im_i M12 130 6)) - 2)) ((im_i M12 133 (Int32.toNatClampNeg (((4 : Int32) * (im_i M12 130 6)) - 2))) + 1))) fun (M24 : im_M) => some (.inl ((x11 + 1), M24))
noncomputable def f_MPlaceRows_list_L12 (v3 : Int32) (v4 : Int32) (x5 : Int32) (M6 : im_M) : Option ((Int32 × im_M) ⊕ (im_M)) := if v4 ≤ x5 then some (.inr M6) else bd1 (lp (uc2 (f_MPlaceRows_list_L20 v3 v4 x5)) (0, M6)) fun (M30 : im_M) => some (.inl ((x5 + 1), M30))
noncomputable def f_MPlaceRows_list (p0 : Int32) (M : im_M) : Option (im_M) := bd1 (f_MPlaceRows_side p0 M) fun (x1 : Int32) => bd1 (lp (uc2 (f_MPlaceRows_list_L12 p0 x1)) (0, (im_setI M 130 6 0))) fun (M31 : im_M) => some M31
theorem J_MPlaceRows_list_d0 : decode J_MPlaceRows_list.2.1 0 = .ok (.iload_n 1, 1) := by decide +kernel
theorem J_MPlaceRows_list_d1 : decode J_MPlaceRows_list.2.1 1 = .ok (.invokestatic 59, 3) := by decide +kernel
theorem J_MPlaceRows_list_d4 : decode J_MPlaceRows_list.2.1 4 = .ok (.istore_n 2, 1) := by decide +kernel
theorem J_MPlaceRows_list_d5 : decode J_MPlaceRows_list.2.1 5 = .ok (.aload_n 0, 1) := by decide +kernel
theorem J_MPlaceRows_list_d6 : decode J_MPlaceRows_list.2.1 6 = .ok (.iconst 0, 1) := by decide +kernel
theorem J_MPlaceRows_list_d7 : decode J_MPlaceRows_list.2.1 7 = .ok (.putfield 85, 3) := by decide +kernel
theorem J_MPlaceRows_list_d10 : decode J_MPlaceRows_list.2.1 10 = .ok (.iconst 0, 1) := by decide +kernel
theorem J_MPlaceRows_list_d11 : decode J_MPlaceRows_list.2.1 11 = .ok (.istore_n 3, 1) := by decide +kernel
theorem J_MPlaceRows_list_d12 : decode J_MPlaceRows_list.2.1 12 = .ok (.iload_n 3, 1) := by decide +kernel
theorem J_MPlaceRows_list_d13 : decode J_MPlaceRows_list.2.1 13 = .ok (.iload_n 2, 1) := by decide +kernel
theorem J_MPlaceRows_list_d14 : decode J_MPlaceRows_list.2.1 14 = .ok (.if_icmp .ge 150, 3) := by decide +kernel
theorem J_MPlaceRows_list_d17 : decode J_MPlaceRows_list.2.1 17 = .ok (.iconst 0, 1) := by decide +kernel
theorem J_MPlaceRows_list_d18 : decode J_MPlaceRows_list.2.1 18 = .ok (.istore 4, 2) := by decide +kernel
theorem J_MPlaceRows_list_d20 : decode J_MPlaceRows_list.2.1 20 = .ok (.iload 4, 2) := by decide +kernel
theorem J_MPlaceRows_list_d22 : decode J_MPlaceRows_list.2.1 22 = .ok (.iload_n 2, 1) := by decide +kernel
theorem J_MPlaceRows_list_d23 : decode J_MPlaceRows_list.2.1 23 = .ok (.if_icmp .ge 135, 3) := by decide +kernel
theorem J_MPlaceRows_list_d26 : decode J_MPlaceRows_list.2.1 26 = .ok (.iload_n 1, 1) := by decide +kernel
theorem J_MPlaceRows_list_d27 : decode J_MPlaceRows_list.2.1 27 = .ok (.iload 4, 2) := by decide +kernel
theorem J_MPlaceRows_list_d29 : decode J_MPlaceRows_list.2.1 29 = .ok (.iload_n 3, 1) := by decide +kernel
theorem J_MPlaceRows_list_d30 : decode J_MPlaceRows_list.2.1 30 = .ok (.invokestatic 71, 3) := by decide +kernel
theorem J_MPlaceRows_list_d33 : decode J_MPlaceRows_list.2.1 33 = .ok (.istore 5, 2) := by decide +kernel
theorem J_MPlaceRows_list_d35 : decode J_MPlaceRows_list.2.1 35 = .ok (.iload 5, 2) := by decide +kernel
theorem J_MPlaceRows_list_d37 : decode J_MPlaceRows_list.2.1 37 = .ok (.iconst (-1), 1) := by decide +kernel
theorem J_MPlaceRows_list_d38 : decode J_MPlaceRows_list.2.1 38 = .ok (.if_icmp .eq 42, 3) := by decide +kernel
theorem J_MPlaceRows_list_d41 : decode J_MPlaceRows_list.2.1 41 = .ok (.iload 4, 2) := by decide +kernel
theorem J_MPlaceRows_list_d43 : decode J_MPlaceRows_list.2.1 43 = .ok (.ifCond .le 37, 3) := by decide +kernel
theorem J_MPlaceRows_list_d46 : decode J_MPlaceRows_list.2.1 46 = .ok (.iload_n 1, 1) := by decide +kernel
theorem J_MPlaceRows_list_d47 : decode J_MPlaceRows_list.2.1 47 = .ok (.iload 4, 2) := by decide +kernel
theorem J_MPlaceRows_list_d49 : decode J_MPlaceRows_list.2.1 49 = .ok (.iconst 1, 1) := by decide +kernel
theorem J_MPlaceRows_list_d50 : decode J_MPlaceRows_list.2.1 50 = .ok (.isub, 1) := by decide +kernel
theorem J_MPlaceRows_list_d51 : decode J_MPlaceRows_list.2.1 51 = .ok (.iload_n 3, 1) := by decide +kernel
theorem J_MPlaceRows_list_d52 : decode J_MPlaceRows_list.2.1 52 = .ok (.invokestatic 71, 3) := by decide +kernel
theorem J_MPlaceRows_list_d55 : decode J_MPlaceRows_list.2.1 55 = .ok (.iload 5, 2) := by decide +kernel
theorem J_MPlaceRows_list_d57 : decode J_MPlaceRows_list.2.1 57 = .ok (.if_icmp .ne 23, 3) := by decide +kernel
theorem J_MPlaceRows_list_d60 : decode J_MPlaceRows_list.2.1 60 = .ok (.aload_n 0, 1) := by decide +kernel
theorem J_MPlaceRows_list_d61 : decode J_MPlaceRows_list.2.1 61 = .ok (.getfield 26, 3) := by decide +kernel
theorem J_MPlaceRows_list_d64 : decode J_MPlaceRows_list.2.1 64 = .ok (.iconst 4, 1) := by decide +kernel
theorem J_MPlaceRows_list_d65 : decode J_MPlaceRows_list.2.1 65 = .ok (.aload_n 0, 1) := by decide +kernel
theorem J_MPlaceRows_list_d66 : decode J_MPlaceRows_list.2.1 66 = .ok (.getfield 85, 3) := by decide +kernel
theorem J_MPlaceRows_list_d69 : decode J_MPlaceRows_list.2.1 69 = .ok (.imul, 1) := by decide +kernel
theorem J_MPlaceRows_list_d70 : decode J_MPlaceRows_list.2.1 70 = .ok (.iconst 2, 1) := by decide +kernel
theorem J_MPlaceRows_list_d71 : decode J_MPlaceRows_list.2.1 71 = .ok (.isub, 1) := by decide +kernel
theorem J_MPlaceRows_list_d72 : decode J_MPlaceRows_list.2.1 72 = .ok (.dup2, 1) := by decide +kernel
theorem J_MPlaceRows_list_d73 : decode J_MPlaceRows_list.2.1 73 = .ok (.iaload, 1) := by decide +kernel
theorem J_MPlaceRows_list_d74 : decode J_MPlaceRows_list.2.1 74 = .ok (.iconst 1, 1) := by decide +kernel
theorem J_MPlaceRows_list_d75 : decode J_MPlaceRows_list.2.1 75 = .ok (.iadd, 1) := by decide +kernel
theorem J_MPlaceRows_list_d76 : decode J_MPlaceRows_list.2.1 76 = .ok (.iastore, 1) := by decide +kernel
theorem J_MPlaceRows_list_d77 : decode J_MPlaceRows_list.2.1 77 = .ok (.goto 75, 3) := by decide +kernel
theorem J_MPlaceRows_list_d80 : decode J_MPlaceRows_list.2.1 80 = .ok (.iload 5, 2) := by decide +kernel
theorem J_MPlaceRows_list_d82 : decode J_MPlaceRows_list.2.1 82 = .ok (.iconst (-1), 1) := by decide +kernel
theorem J_MPlaceRows_list_d83 : decode J_MPlaceRows_list.2.1 83 = .ok (.if_icmp .eq 69, 3) := by decide +kernel
theorem J_MPlaceRows_list_d86 : decode J_MPlaceRows_list.2.1 86 = .ok (.aload_n 0, 1) := by decide +kernel
theorem J_MPlaceRows_list_d87 : decode J_MPlaceRows_list.2.1 87 = .ok (.getfield 26, 3) := by decide +kernel
theorem J_MPlaceRows_list_d90 : decode J_MPlaceRows_list.2.1 90 = .ok (.iconst 4, 1) := by decide +kernel
theorem J_MPlaceRows_list_d91 : decode J_MPlaceRows_list.2.1 91 = .ok (.aload_n 0, 1) := by decide +kernel
theorem J_MPlaceRows_list_d92 : decode J_MPlaceRows_list.2.1 92 = .ok (.getfield 85, 3) := by decide +kernel
theorem J_MPlaceRows_list_d95 : decode J_MPlaceRows_list.2.1 95 = .ok (.imul, 1) := by decide +kernel
theorem J_MPlaceRows_list_d96 : decode J_MPlaceRows_list.2.1 96 = .ok (.iload 4, 2) := by decide +kernel
theorem J_MPlaceRows_list_d98 : decode J_MPlaceRows_list.2.1 98 = .ok (.iastore, 1) := by decide +kernel
theorem J_MPlaceRows_list_d99 : decode J_MPlaceRows_list.2.1 99 = .ok (.aload_n 0, 1) := by decide +kernel
theorem J_MPlaceRows_list_d100 : decode J_MPlaceRows_list.2.1 100 = .ok (.getfield 26, 3) := by decide +kernel
theorem J_MPlaceRows_list_d103 : decode J_MPlaceRows_list.2.1 103 = .ok (.iconst 4, 1) := by decide +kernel
theorem J_MPlaceRows_list_d104 : decode J_MPlaceRows_list.2.1 104 = .ok (.aload_n 0, 1) := by decide +kernel
theorem J_MPlaceRows_list_d105 : decode J_MPlaceRows_list.2.1 105 = .ok (.getfield 85, 3) := by decide +kernel
theorem J_MPlaceRows_list_d108 : decode J_MPlaceRows_list.2.1 108 = .ok (.imul, 1) := by decide +kernel
theorem J_MPlaceRows_list_d109 : decode J_MPlaceRows_list.2.1 109 = .ok (.iconst 1, 1) := by decide +kernel
theorem J_MPlaceRows_list_d110 : decode J_MPlaceRows_list.2.1 110 = .ok (.iadd, 1) := by decide +kernel
theorem J_MPlaceRows_list_d111 : decode J_MPlaceRows_list.2.1 111 = .ok (.iload_n 3, 1) := by decide +kernel
theorem J_MPlaceRows_list_d112 : decode J_MPlaceRows_list.2.1 112 = .ok (.iastore, 1) := by decide +kernel
theorem J_MPlaceRows_list_d113 : decode J_MPlaceRows_list.2.1 113 = .ok (.aload_n 0, 1) := by decide +kernel
theorem J_MPlaceRows_list_d114 : decode J_MPlaceRows_list.2.1 114 = .ok (.getfield 26, 3) := by decide +kernel
theorem J_MPlaceRows_list_d117 : decode J_MPlaceRows_list.2.1 117 = .ok (.iconst 4, 1) := by decide +kernel
theorem J_MPlaceRows_list_d118 : decode J_MPlaceRows_list.2.1 118 = .ok (.aload_n 0, 1) := by decide +kernel
theorem J_MPlaceRows_list_d119 : decode J_MPlaceRows_list.2.1 119 = .ok (.getfield 85, 3) := by decide +kernel
theorem J_MPlaceRows_list_d122 : decode J_MPlaceRows_list.2.1 122 = .ok (.imul, 1) := by decide +kernel
theorem J_MPlaceRows_list_d123 : decode J_MPlaceRows_list.2.1 123 = .ok (.iconst 2, 1) := by decide +kernel
theorem J_MPlaceRows_list_d124 : decode J_MPlaceRows_list.2.1 124 = .ok (.iadd, 1) := by decide +kernel
theorem J_MPlaceRows_list_d125 : decode J_MPlaceRows_list.2.1 125 = .ok (.iconst 1, 1) := by decide +kernel
theorem J_MPlaceRows_list_d126 : decode J_MPlaceRows_list.2.1 126 = .ok (.iastore, 1) := by decide +kernel
theorem J_MPlaceRows_list_d127 : decode J_MPlaceRows_list.2.1 127 = .ok (.aload_n 0, 1) := by decide +kernel
theorem J_MPlaceRows_list_d128 : decode J_MPlaceRows_list.2.1 128 = .ok (.getfield 26, 3) := by decide +kernel
theorem J_MPlaceRows_list_d131 : decode J_MPlaceRows_list.2.1 131 = .ok (.iconst 4, 1) := by decide +kernel
theorem J_MPlaceRows_list_d132 : decode J_MPlaceRows_list.2.1 132 = .ok (.aload_n 0, 1) := by decide +kernel
theorem J_MPlaceRows_list_d133 : decode J_MPlaceRows_list.2.1 133 = .ok (.getfield 85, 3) := by decide +kernel
theorem J_MPlaceRows_list_d136 : decode J_MPlaceRows_list.2.1 136 = .ok (.imul, 1) := by decide +kernel
theorem J_MPlaceRows_list_d137 : decode J_MPlaceRows_list.2.1 137 = .ok (.iconst 3, 1) := by decide +kernel
theorem J_MPlaceRows_list_d138 : decode J_MPlaceRows_list.2.1 138 = .ok (.iadd, 1) := by decide +kernel
theorem J_MPlaceRows_list_d139 : decode J_MPlaceRows_list.2.1 139 = .ok (.iload 5, 2) := by decide +kernel
theorem J_MPlaceRows_list_d141 : decode J_MPlaceRows_list.2.1 141 = .ok (.iastore, 1) := by decide +kernel
theorem J_MPlaceRows_list_d142 : decode J_MPlaceRows_list.2.1 142 = .ok (.aload_n 0, 1) := by decide +kernel
theorem J_MPlaceRows_list_d143 : decode J_MPlaceRows_list.2.1 143 = .ok (.dup, 1) := by decide +kernel
theorem J_MPlaceRows_list_d144 : decode J_MPlaceRows_list.2.1 144 = .ok (.getfield 85, 3) := by decide +kernel
theorem J_MPlaceRows_list_d147 : decode J_MPlaceRows_list.2.1 147 = .ok (.iconst 1, 1) := by decide +kernel
theorem J_MPlaceRows_list_d148 : decode J_MPlaceRows_list.2.1 148 = .ok (.iadd, 1) := by decide +kernel
theorem J_MPlaceRows_list_d149 : decode J_MPlaceRows_list.2.1 149 = .ok (.putfield 85, 3) := by decide +kernel
theorem J_MPlaceRows_list_d152 : decode J_MPlaceRows_list.2.1 152 = .ok (.iinc 4 1, 3) := by decide +kernel
theorem J_MPlaceRows_list_d155 : decode J_MPlaceRows_list.2.1 155 = .ok (.goto (-135), 3) := by decide +kernel
theorem J_MPlaceRows_list_d158 : decode J_MPlaceRows_list.2.1 158 = .ok (.iinc 3 1, 3) := by decide +kernel
theorem J_MPlaceRows_list_d161 : decode J_MPlaceRows_list.2.1 161 = .ok (.goto (-149), 3) := by decide +kernel
theorem J_MPlaceRows_list_d164 : decode J_MPlaceRows_list.2.1 164 = .ok (.return_, 1) := by decide +kernel
theorem f_MPlaceRows_list_ok {L : Nat} {xs : Nat → Int32} {dep : Nat} {w : Bool} {p0 : Int32} {M : im_M} {Q : im_M → Prop} (hM : lw_S w M) (h : ed (f_MPlaceRows_list p0 M) Q) : ia (tb_G L xs) (dep + 3) J_MPlaceRows_list (rwV w Q) (0, lv_args 0 [.ref 130, .int p0], [], M) := by
  have hS : im_St (tb_G L xs) (dep + 3) J_MPlaceRows_list (ia (tb_G L xs) (dep + 3) J_MPlaceRows_list (rwV w Q)) := ia_St
  unfold f_MPlaceRows_list at h
  have l0 : im_lk (lv_args 0 [.ref 130, .int p0]) 0 = some (.ref 130) := rfl
  have l1 : im_lk (lv_args 0 [.ref 130, .int p0]) 1 = some (.int p0) := rfl
  refine iq_iload_n hS 1 J_MPlaceRows_list_d0 l1 rfl ?_
  obtain ⟨Q1, hQ1, h⟩ := bd1_ed h
  refine iq_cpI hS 4 J_MPlaceRows_list_d1 rfl (pr_stat (vs := [_]) lc_14_59 lT_458 rfl rfl (by decide) rfl (Nat.le_of_ble_eq_true rfl) (Nat.le_of_ble_eq_true rfl)) (f_MPlaceRows_side_ok (dep := dep + 2) hM h) rfl ?_
  intro x1 h
  replace h := hQ1 _ h
  refine iq_istore_n hS 5 J_MPlaceRows_list_d4 (by decide) rfl ?_
  refine iq_aload_n hS 6 J_MPlaceRows_list_d5 (lk_1r l0 (by decide)) rfl ?_
  refine iq_iconst hS 7 J_MPlaceRows_list_d6 (v := 0) (by decide +kernel) rfl ?_
  refine iq_putI hS 10 J_MPlaceRows_list_d7 lf_14_85 (Or.inl rfl) rfl (ka_130 hM) rfl ?_
  refine iq_iconst hS 11 J_MPlaceRows_list_d10 (v := 0) (by decide +kernel) rfl ?_
  refine iq_istore_n hS 12 J_MPlaceRows_list_d11 (by decide) rfl ?_
  obtain ⟨Q2, hQ2, h⟩ := bd1_ed h
  have K2 : ∀ (M3 : im_M) (L' : List (Nat × Value)), lw_S w M3 → Q2 M3 → ia (tb_G L xs) (dep + 3) J_MPlaceRows_list (rwV w Q) (164, L', [], M3) := by
    intro M3 L' hM3  h
    replace h := hQ2 _ h
    exact iq_ret J_MPlaceRows_list_d164 rfl ⟨rfl, hM3, ed_some h⟩
  obtain ⟨r2, hr2, hq2⟩ := h
  obtain ⟨n2, hn2⟩ := lp_n hr2
  have I2 : ∀ (n : Nat) (x4 : Int32) (M5 : im_M) (L' : List (Nat × Value)), lw_S w M5 → im_lk L' 0 = some (.ref 130) → im_lk L' 1 = some (.int p0) → im_lk L' 2 = some (.int x1) → im_lk L' 3 = some (.int x4) → lpn (uc2 (f_MPlaceRows_list_L12 p0 x1)) n (x4, M5) = some r2 → ia (tb_G L xs) (dep + 3) J_MPlaceRows_list (rwV w Q) (12, L', [], M5) := by
    intro n
    induction n with
    | zero => intro x4 M5 L' hM5 l6 l7 l8 l9 hn; exact (lpn_0 hn).elim
    | succ n ih =>
      intro x4 M5 L' hM5 l6 l7 l8 l9 hn
      have h := lpn_ed2 hn
      unfold f_MPlaceRows_list_L12 at h
      refine iq_iload_n hS 13 J_MPlaceRows_list_d12 l9 rfl ?_
      refine iq_iload_n hS 14 J_MPlaceRows_list_d13 l8 rfl ?_
      refine iq_icmp_ge hS 17 J_MPlaceRows_list_d14 (t := 164) rfl (fun q14 => ?_) rfl (fun q14 => ?_)
      · replace h := ed_pos q14 h
        exact K2 _ _ hM5  (lq_r h hq2)
      · replace h := ed_neg q14 h
        refine iq_iconst hS 18 J_MPlaceRows_list_d17 (v := 0) (by decide +kernel) rfl ?_
        refine iq_istore hS 20 J_MPlaceRows_list_d18 (by decide) rfl ?_
        obtain ⟨Q10, hQ10, h⟩ := bd1_ed h
        have K10 : ∀ (M11 : im_M) (L' : List (Nat × Value)), lw_S w M11 → im_lk L' 0 = some (.ref 130) → im_lk L' 1 = some (.int p0) → im_lk L' 2 = some (.int x1) → im_lk L' 3 = some (.int x4) → Q10 M11 → ia (tb_G L xs) (dep + 3) J_MPlaceRows_list (rwV w Q) (158, L', [], M11) := by
          intro M11 L' hM11 l12 l13 l14 l15 h
          replace h := hQ10 _ h
          refine iq_iincv hS 161 J_MPlaceRows_list_d158 (c := 1) (by decide +kernel) l15 (by decide) rfl ?_
          refine iq_goto hS J_MPlaceRows_list_d161 (t := 12) rfl ?_
          exact ih _ _ _ hM11 (lk_1r l12 (by decide)) (lk_1i l13 (by decide)) (lk_1i l14 (by decide)) lk_1s (lq_l h)
        obtain ⟨r10, hr10, hq10⟩ := h
        obtain ⟨n10, hn10⟩ := lp_n hr10
        have I10 : ∀ (n : Nat) (x16 : Int32) (M17 : im_M) (L' : List (Nat × Value)), lw_S w M17 → im_lk L' 0 = some (.ref 130) → im_lk L' 1 = some (.int p0) → im_lk L' 2 = some (.int x1) → im_lk L' 3 = some (.int x4) → im_lk L' 4 = some (.int x16) → lpn (uc2 (f_MPlaceRows_list_L20 p0 x1 x4)) n (x16, M17) = some r10 → ia (tb_G L xs) (dep + 3) J_MPlaceRows_list (rwV w Q) (20, L', [], M17) := by
          intro n
          induction n with
          | zero => intro x16 M17 L' hM17 l18 l19 l20 l21 l22 hn; exact (lpn_0 hn).elim
          | succ n ih =>
            intro x16 M17 L' hM17 l18 l19 l20 l21 l22 hn
            have h := lpn_ed2 hn
            unfold f_MPlaceRows_list_L20 at h
            refine iq_iload hS 22 J_MPlaceRows_list_d20 l22 rfl ?_
            refine iq_iload_n hS 23 J_MPlaceRows_list_d22 l20 rfl ?_
            refine iq_icmp_ge hS 26 J_MPlaceRows_list_d23 (t := 158) rfl (fun q23 => ?_) rfl (fun q23 => ?_)
            · replace h := ed_pos q23 h
              exact K10 _ _ hM17 l18 l19 l20 l21 (lq_r h hq10)
            · replace h := ed_neg q23 h
              refine iq_iload_n hS 27 J_MPlaceRows_list_d26 l19 rfl ?_
              refine iq_iload hS 29 J_MPlaceRows_list_d27 l22 rfl ?_
              refine iq_iload_n hS 30 J_MPlaceRows_list_d29 l21 rfl ?_
              obtain ⟨Q23, hQ23, h⟩ := bd1_ed h
              refine iq_cpI hS 33 J_MPlaceRows_list_d30 rfl (pr_stat (vs := [_, _, _]) lc_14_71 lT_459 rfl rfl (by decide) rfl (Nat.le_of_ble_eq_true rfl) (Nat.le_of_ble_eq_true rfl)) (f_MPlaceRows_module_ok (dep := dep + 0) hM17 h) rfl ?_
              intro x23 h
              replace h := hQ23 _ h
              refine iq_istore hS 35 J_MPlaceRows_list_d33 (by decide) rfl ?_
              refine iq_iload hS 37 J_MPlaceRows_list_d35 lk_1s rfl ?_
              refine iq_iconst hS 38 J_MPlaceRows_list_d37 (v := (-1)) (by decide +kernel) rfl ?_
              obtain ⟨Q24, hQ24, h⟩ := bd1_ed h
              have J24 : ∀ (M34 : im_M) (L' : List (Nat × Value)), lw_S w M34 → im_lk L' 0 = some (.ref 130) → im_lk L' 1 = some (.int p0) → im_lk L' 2 = some (.int x1) → im_lk L' 3 = some (.int x4) → im_lk L' 4 = some (.int x16) → Q24 M34 → ia (tb_G L xs) (dep + 3) J_MPlaceRows_list (rwV w Q) (152, L', [], M34) := by
                intro M34 L' hM34 l35 l36 l37 l38 l39 h
                replace h := hQ24 _ h
                refine iq_iincv hS 155 J_MPlaceRows_list_d152 (c := 1) (by decide +kernel) l39 (by decide) rfl ?_
                refine iq_goto hS J_MPlaceRows_list_d155 (t := 20) rfl ?_
                exact ih _ _ _ hM34 (lk_1r l35 (by decide)) (lk_1i l36 (by decide)) (lk_1i l37 (by decide)) (lk_1i l38 (by decide)) lk_1s (lq_l h)
              obtain ⟨k25, Q25, hQ25, hk25, h⟩ := jn1_ed h
              have J25 : ∀ (M27 : im_M) (L' : List (Nat × Value)), lw_S w M27 → im_lk L' 0 = some (.ref 130) → im_lk L' 1 = some (.int p0) → im_lk L' 2 = some (.int x1) → im_lk L' 3 = some (.int x4) → im_lk L' 4 = some (.int x16) → im_lk L' 5 = some (.int x23) → Q25 M27 → ia (tb_G L xs) (dep + 3) J_MPlaceRows_list (rwV w Q) (80, L', [], M27) := by
                intro M27 L' hM27 l28 l29 l30 l31 l32 l33 h
                replace h := hQ25 _ h
                refine iq_iload hS 82 J_MPlaceRows_list_d80 l33 rfl ?_
                refine iq_iconst hS 83 J_MPlaceRows_list_d82 (v := (-1)) (by decide +kernel) rfl ?_
                refine iq_icmp_eq hS 86 J_MPlaceRows_list_d83 (t := 152) rfl (fun q83 => ?_) rfl (fun q83 => ?_)
                · replace h := ed_pos q83 h
                  exact J24 _ _ hM27 l28 l29 l30 l31 l32 (ed_some h)
                · replace h := ed_neg q83 h
                  refine iq_aload_n hS 87 J_MPlaceRows_list_d86 l28 rfl ?_
                  refine iq_getR hS 90 J_MPlaceRows_list_d87 lf_14_26 (Or.inr ⟨_, rfl⟩) (ka_130 hM27) (ra_130_5 hM27) rfl ?_
                  refine iq_iconst hS 91 J_MPlaceRows_list_d90 (v := 4) (by decide +kernel) rfl ?_
                  refine iq_aload_n hS 92 J_MPlaceRows_list_d91 l28 rfl ?_
                  refine iq_getI hS 95 J_MPlaceRows_list_d92 lf_14_85 (Or.inl rfl) (ka_130 hM27) rfl ?_
                  refine iq_imul hS 96 J_MPlaceRows_list_d95 rfl ?_
                  refine iq_iload hS 98 J_MPlaceRows_list_d96 l32 rfl ?_
                  obtain ⟨g98, h⟩ := ed_gd h
                  refine iq_iastore hS 99 J_MPlaceRows_list_d98 ⟨(ka_133 hM27).1, (ka_133 hM27).2, g98.1, ix_lt (kl_133 hM27) g98.2⟩ rfl ?_
                  refine iq_aload_n hS 100 J_MPlaceRows_list_d99 l28 rfl ?_
                  refine iq_getR hS 103 J_MPlaceRows_list_d100 lf_14_26 (Or.inr ⟨_, rfl⟩) (ka_130 hM27) (ra_130_5 hM27) rfl ?_
                  refine iq_iconst hS 104 J_MPlaceRows_list_d103 (v := 4) (by decide +kernel) rfl ?_
                  refine iq_aload_n hS 105 J_MPlaceRows_list_d104 l28 rfl ?_
                  refine iq_getI hS 108 J_MPlaceRows_list_d105 lf_14_85 (Or.inl rfl) (ka_130 hM27) rfl ?_
                  refine iq_imul hS 109 J_MPlaceRows_list_d108 rfl ?_
                  refine iq_iconst hS 110 J_MPlaceRows_list_d109 (v := 1) (by decide +kernel) rfl ?_
                  refine iq_iadd hS 111 J_MPlaceRows_list_d110 rfl ?_
                  refine iq_iload_n hS 112 J_MPlaceRows_list_d111 l31 rfl ?_
                  obtain ⟨g112, h⟩ := ed_gd h
                  refine iq_iastore hS 113 J_MPlaceRows_list_d112 ⟨(ka_133 hM27).1, (ka_133 hM27).2, g112.1, ix_lt (kl_133 hM27) g112.2⟩ rfl ?_
                  refine iq_aload_n hS 114 J_MPlaceRows_list_d113 l28 rfl ?_
                  refine iq_getR hS 117 J_MPlaceRows_list_d114 lf_14_26 (Or.inr ⟨_, rfl⟩) (ka_130 hM27) (ra_130_5 hM27) rfl ?_
                  refine iq_iconst hS 118 J_MPlaceRows_list_d117 (v := 4) (by decide +kernel) rfl ?_
                  refine iq_aload_n hS 119 J_MPlaceRows_list_d118 l28 rfl ?_
                  refine iq_getI hS 122 J_MPlaceRows_list_d119 lf_14_85 (Or.inl rfl) (ka_130 hM27) rfl ?_
                  refine iq_imul hS 123 J_MPlaceRows_list_d122 rfl ?_
                  refine iq_iconst hS 124 J_MPlaceRows_list_d123 (v := 2) (by decide +kernel) rfl ?_
                  refine iq_iadd hS 125 J_MPlaceRows_list_d124 rfl ?_
                  refine iq_iconst hS 126 J_MPlaceRows_list_d125 (v := 1) (by decide +kernel) rfl ?_
                  obtain ⟨g126, h⟩ := ed_gd h
                  refine iq_iastore hS 127 J_MPlaceRows_list_d126 ⟨(ka_133 hM27).1, (ka_133 hM27).2, g126.1, ix_lt (kl_133 hM27) g126.2⟩ rfl ?_
                  refine iq_aload_n hS 128 J_MPlaceRows_list_d127 l28 rfl ?_
                  refine iq_getR hS 131 J_MPlaceRows_list_d128 lf_14_26 (Or.inr ⟨_, rfl⟩) (ka_130 hM27) (ra_130_5 hM27) rfl ?_
                  refine iq_iconst hS 132 J_MPlaceRows_list_d131 (v := 4) (by decide +kernel) rfl ?_
                  refine iq_aload_n hS 133 J_MPlaceRows_list_d132 l28 rfl ?_
                  refine iq_getI hS 136 J_MPlaceRows_list_d133 lf_14_85 (Or.inl rfl) (ka_130 hM27) rfl ?_
                  refine iq_imul hS 137 J_MPlaceRows_list_d136 rfl ?_
                  refine iq_iconst hS 138 J_MPlaceRows_list_d137 (v := 3) (by decide +kernel) rfl ?_
                  refine iq_iadd hS 139 J_MPlaceRows_list_d138 rfl ?_
                  refine iq_iload hS 141 J_MPlaceRows_list_d139 l33 rfl ?_
                  obtain ⟨g141, h⟩ := ed_gd h
                  refine iq_iastore hS 142 J_MPlaceRows_list_d141 ⟨(ka_133 hM27).1, (ka_133 hM27).2, g141.1, ix_lt (kl_133 hM27) g141.2⟩ rfl ?_
                  refine iq_aload_n hS 143 J_MPlaceRows_list_d142 l28 rfl ?_
                  refine iq_dup hS 144 J_MPlaceRows_list_d143 rfl rfl ?_
                  refine iq_getI hS 147 J_MPlaceRows_list_d144 lf_14_85 (Or.inl rfl) (ka_130 hM27) rfl ?_
                  refine iq_iconst hS 148 J_MPlaceRows_list_d147 (v := 1) (by decide +kernel) rfl ?_
                  refine iq_iadd hS 149 J_MPlaceRows_list_d148 rfl ?_
                  refine iq_putI hS 152 J_MPlaceRows_list_d149 lf_14_85 (Or.inl rfl) rfl (ka_130 hM27) rfl ?_
                  exact J24 _ _ hM27 l28 l29 l30 l31 l32 (ed_some h)
              refine iq_icmp_eq hS 41 J_MPlaceRows_list_d38 (t := 80) rfl (fun q38 => ?_) rfl (fun q38 => ?_)
              · replace h := ed_pos q38 h
                exact J25 _ _ hM17 (lk_1r l18 (by decide)) (lk_1i l19 (by decide)) (lk_1i l20 (by decide)) (lk_1i l21 (by decide)) (lk_1i l22 (by decide)) lk_1s (hk25 _ h)
              · replace h := ed_neg q38 h
                refine iq_iload hS 43 J_MPlaceRows_list_d41 (lk_1i l22 (by decide)) rfl ?_
                refine iq_if_le hS 46 J_MPlaceRows_list_d43 (t := 80) rfl (fun q43 => ?_) rfl (fun q43 => ?_)
                · replace h := ed_pos q43 h
                  exact J25 _ _ hM17 (lk_1r l18 (by decide)) (lk_1i l19 (by decide)) (lk_1i l20 (by decide)) (lk_1i l21 (by decide)) (lk_1i l22 (by decide)) lk_1s (hk25 _ h)
                · replace h := ed_neg q43 h
                  refine iq_iload_n hS 47 J_MPlaceRows_list_d46 (lk_1i l19 (by decide)) rfl ?_
                  refine iq_iload hS 49 J_MPlaceRows_list_d47 (lk_1i l22 (by decide)) rfl ?_
                  refine iq_iconst hS 50 J_MPlaceRows_list_d49 (v := 1) (by decide +kernel) rfl ?_
                  refine iq_isub hS 51 J_MPlaceRows_list_d50 rfl ?_
                  refine iq_iload_n hS 52 J_MPlaceRows_list_d51 (lk_1i l21 (by decide)) rfl ?_
                  obtain ⟨Q26, hQ26, h⟩ := bd1_ed h
                  refine iq_cpI hS 55 J_MPlaceRows_list_d52 rfl (pr_stat (vs := [_, _, _]) lc_14_71 lT_459 rfl rfl (by decide) rfl (Nat.le_of_ble_eq_true rfl) (Nat.le_of_ble_eq_true rfl)) (f_MPlaceRows_module_ok (dep := dep + 0) hM17 h) rfl ?_
                  intro x26 h
                  replace h := hQ26 _ h
                  refine iq_iload hS 57 J_MPlaceRows_list_d55 lk_1s rfl ?_
                  refine iq_icmp_ne hS 60 J_MPlaceRows_list_d57 (t := 80) rfl (fun q57 => ?_) rfl (fun q57 => ?_)
                  · replace h := ed_pos q57 h
                    exact J25 _ _ hM17 (lk_1r l18 (by decide)) (lk_1i l19 (by decide)) (lk_1i l20 (by decide)) (lk_1i l21 (by decide)) (lk_1i l22 (by decide)) lk_1s (hk25 _ h)
                  · replace h := ed_neg q57 h
                    refine iq_aload_n hS 61 J_MPlaceRows_list_d60 (lk_1r l18 (by decide)) rfl ?_
                    refine iq_getR hS 64 J_MPlaceRows_list_d61 lf_14_26 (Or.inr ⟨_, rfl⟩) (ka_130 hM17) (ra_130_5 hM17) rfl ?_
                    refine iq_iconst hS 65 J_MPlaceRows_list_d64 (v := 4) (by decide +kernel) rfl ?_
                    refine iq_aload_n hS 66 J_MPlaceRows_list_d65 (lk_1r l18 (by decide)) rfl ?_
                    refine iq_getI hS 69 J_MPlaceRows_list_d66 lf_14_85 (Or.inl rfl) (ka_130 hM17) rfl ?_
                    refine iq_imul hS 70 J_MPlaceRows_list_d69 rfl ?_
                    refine iq_iconst hS 71 J_MPlaceRows_list_d70 (v := 2) (by decide +kernel) rfl ?_
                    refine iq_isub hS 72 J_MPlaceRows_list_d71 rfl ?_
                    refine iq_dup2 hS 73 J_MPlaceRows_list_d72 rfl rfl rfl ?_
                    obtain ⟨g73, h⟩ := ed_gd h
                    refine iq_iaload hS 74 J_MPlaceRows_list_d73 ⟨(ka_133 hM17).1, (ka_133 hM17).2, g73.1, ix_lt (kl_133 hM17) g73.2⟩ rfl ?_
                    refine iq_iconst hS 75 J_MPlaceRows_list_d74 (v := 1) (by decide +kernel) rfl ?_
                    refine iq_iadd hS 76 J_MPlaceRows_list_d75 rfl ?_
                    obtain ⟨g76, h⟩ := ed_gd h
                    refine iq_iastore hS 77 J_MPlaceRows_list_d76 ⟨(ka_133 hM17).1, (ka_133 hM17).2, g76.1, ix_lt (kl_133 hM17) g76.2⟩ rfl ?_
                    refine iq_goto hS J_MPlaceRows_list_d77 (t := 152) rfl ?_
                    exact J24 _ _ hM17 (lk_1r l18 (by decide)) (lk_1i l19 (by decide)) (lk_1i l20 (by decide)) (lk_1i l21 (by decide)) (lk_1i l22 (by decide)) (ed_some h)
        exact I10 n10 _ _ _ hM5 (lk_1r l6 (by decide)) (lk_1i l7 (by decide)) (lk_1i l8 (by decide)) (lk_1i l9 (by decide)) lk_1s hn10
  exact I2 n2 _ _ _ hM (lk_1r (lk_1r l0 (by decide)) (by decide)) (lk_1i (lk_1i l1 (by decide)) (by decide)) (lk_1i lk_1s (by decide)) lk_1s hn2
noncomputable def f_MPlaceRows_isPlace (p0 : Int32) (p1 : Int32) (p2 : Int32) (M : im_M) : Option (Int32) := if p0 < 0 then some 0 else if ((im_i M 130 1) - p2) < p0 then some 0 else if p1 < 0 then some 0 else if ((im_i M 130 2) - p2) < p1 then some 0 else some 1
theorem J_MPlaceRows_isPlace_d0 : decode J_MPlaceRows_isPlace.2.1 0 = .ok (.iload_n 1, 1) := by decide +kernel
theorem J_MPlaceRows_isPlace_d1 : decode J_MPlaceRows_isPlace.2.1 1 = .ok (.ifCond .lt 31, 3) := by decide +kernel
theorem J_MPlaceRows_isPlace_d4 : decode J_MPlaceRows_isPlace.2.1 4 = .ok (.iload_n 1, 1) := by decide +kernel
theorem J_MPlaceRows_isPlace_d5 : decode J_MPlaceRows_isPlace.2.1 5 = .ok (.aload_n 0, 1) := by decide +kernel
theorem J_MPlaceRows_isPlace_d6 : decode J_MPlaceRows_isPlace.2.1 6 = .ok (.getfield 7, 3) := by decide +kernel
theorem J_MPlaceRows_isPlace_d9 : decode J_MPlaceRows_isPlace.2.1 9 = .ok (.iload_n 3, 1) := by decide +kernel
theorem J_MPlaceRows_isPlace_d10 : decode J_MPlaceRows_isPlace.2.1 10 = .ok (.isub, 1) := by decide +kernel
theorem J_MPlaceRows_isPlace_d11 : decode J_MPlaceRows_isPlace.2.1 11 = .ok (.if_icmp .gt 21, 3) := by decide +kernel
theorem J_MPlaceRows_isPlace_d14 : decode J_MPlaceRows_isPlace.2.1 14 = .ok (.iload_n 2, 1) := by decide +kernel
theorem J_MPlaceRows_isPlace_d15 : decode J_MPlaceRows_isPlace.2.1 15 = .ok (.ifCond .lt 17, 3) := by decide +kernel
theorem J_MPlaceRows_isPlace_d18 : decode J_MPlaceRows_isPlace.2.1 18 = .ok (.iload_n 2, 1) := by decide +kernel
theorem J_MPlaceRows_isPlace_d19 : decode J_MPlaceRows_isPlace.2.1 19 = .ok (.aload_n 0, 1) := by decide +kernel
theorem J_MPlaceRows_isPlace_d20 : decode J_MPlaceRows_isPlace.2.1 20 = .ok (.getfield 13, 3) := by decide +kernel
theorem J_MPlaceRows_isPlace_d23 : decode J_MPlaceRows_isPlace.2.1 23 = .ok (.iload_n 3, 1) := by decide +kernel
theorem J_MPlaceRows_isPlace_d24 : decode J_MPlaceRows_isPlace.2.1 24 = .ok (.isub, 1) := by decide +kernel
theorem J_MPlaceRows_isPlace_d25 : decode J_MPlaceRows_isPlace.2.1 25 = .ok (.if_icmp .gt 7, 3) := by decide +kernel
theorem J_MPlaceRows_isPlace_d28 : decode J_MPlaceRows_isPlace.2.1 28 = .ok (.iconst 1, 1) := by decide +kernel
theorem J_MPlaceRows_isPlace_d29 : decode J_MPlaceRows_isPlace.2.1 29 = .ok (.goto 4, 3) := by decide +kernel
theorem J_MPlaceRows_isPlace_d32 : decode J_MPlaceRows_isPlace.2.1 32 = .ok (.iconst 0, 1) := by decide +kernel
theorem J_MPlaceRows_isPlace_d33 : decode J_MPlaceRows_isPlace.2.1 33 = .ok (.ireturn, 1) := by decide +kernel
theorem f_MPlaceRows_isPlace_ok {L : Nat} {xs : Nat → Int32} {dep : Nat} {w : Bool} {p0 : Int32} {p1 : Int32} {p2 : Int32} {M : im_M} {Q : Int32 → Prop} (hM : lw_S w M) (h : ed (f_MPlaceRows_isPlace p0 p1 p2 M) Q) : ia (tb_G L xs) dep J_MPlaceRows_isPlace (rpI M Q) (0, lv_args 0 [.ref 130, .int p0, .int p1, .int p2], [], M) := by
  have hS : im_St (tb_G L xs) dep J_MPlaceRows_isPlace (ia (tb_G L xs) dep J_MPlaceRows_isPlace (rpI M Q)) := ia_St
  unfold f_MPlaceRows_isPlace at h
  have l0 : im_lk (lv_args 0 [.ref 130, .int p0, .int p1, .int p2]) 0 = some (.ref 130) := rfl
  have l1 : im_lk (lv_args 0 [.ref 130, .int p0, .int p1, .int p2]) 1 = some (.int p0) := rfl
  have l2 : im_lk (lv_args 0 [.ref 130, .int p0, .int p1, .int p2]) 2 = some (.int p1) := rfl
  have l3 : im_lk (lv_args 0 [.ref 130, .int p0, .int p1, .int p2]) 3 = some (.int p2) := rfl
  refine iq_iload_n hS 1 J_MPlaceRows_isPlace_d0 l1 rfl ?_
  refine iq_if_lt hS 4 J_MPlaceRows_isPlace_d1 (t := 32) rfl (fun q1 => ?_) rfl (fun q1 => ?_)
  · replace h := ed_pos q1 h
    refine iq_iconst hS 33 J_MPlaceRows_isPlace_d32 (v := 0) (by decide +kernel) rfl ?_
    exact iq_iret J_MPlaceRows_isPlace_d33 rfl rfl ⟨_, rfl, rfl, ed_some h⟩
  · replace h := ed_neg q1 h
    refine iq_iload_n hS 5 J_MPlaceRows_isPlace_d4 l1 rfl ?_
    refine iq_aload_n hS 6 J_MPlaceRows_isPlace_d5 l0 rfl ?_
    refine iq_getI hS 9 J_MPlaceRows_isPlace_d6 lf_14_7 (Or.inl rfl) (ka_130 hM) rfl ?_
    refine iq_iload_n hS 10 J_MPlaceRows_isPlace_d9 l3 rfl ?_
    refine iq_isub hS 11 J_MPlaceRows_isPlace_d10 rfl ?_
    refine iq_icmp_gt hS 14 J_MPlaceRows_isPlace_d11 (t := 32) rfl (fun q11 => ?_) rfl (fun q11 => ?_)
    · replace h := ed_pos q11 h
      refine iq_iconst hS 33 J_MPlaceRows_isPlace_d32 (v := 0) (by decide +kernel) rfl ?_
      exact iq_iret J_MPlaceRows_isPlace_d33 rfl rfl ⟨_, rfl, rfl, ed_some h⟩
    · replace h := ed_neg q11 h
      refine iq_iload_n hS 15 J_MPlaceRows_isPlace_d14 l2 rfl ?_
      refine iq_if_lt hS 18 J_MPlaceRows_isPlace_d15 (t := 32) rfl (fun q15 => ?_) rfl (fun q15 => ?_)
      · replace h := ed_pos q15 h
        refine iq_iconst hS 33 J_MPlaceRows_isPlace_d32 (v := 0) (by decide +kernel) rfl ?_
        exact iq_iret J_MPlaceRows_isPlace_d33 rfl rfl ⟨_, rfl, rfl, ed_some h⟩
      · replace h := ed_neg q15 h
        refine iq_iload_n hS 19 J_MPlaceRows_isPlace_d18 l2 rfl ?_
        refine iq_aload_n hS 20 J_MPlaceRows_isPlace_d19 l0 rfl ?_
        refine iq_getI hS 23 J_MPlaceRows_isPlace_d20 lf_14_13 (Or.inl rfl) (ka_130 hM) rfl ?_
        refine iq_iload_n hS 24 J_MPlaceRows_isPlace_d23 l3 rfl ?_
        refine iq_isub hS 25 J_MPlaceRows_isPlace_d24 rfl ?_
        refine iq_icmp_gt hS 28 J_MPlaceRows_isPlace_d25 (t := 32) rfl (fun q25 => ?_) rfl (fun q25 => ?_)
        · replace h := ed_pos q25 h
          refine iq_iconst hS 33 J_MPlaceRows_isPlace_d32 (v := 0) (by decide +kernel) rfl ?_
          exact iq_iret J_MPlaceRows_isPlace_d33 rfl rfl ⟨_, rfl, rfl, ed_some h⟩
        · replace h := ed_neg q25 h
          refine iq_iconst hS 29 J_MPlaceRows_isPlace_d28 (v := 1) (by decide +kernel) rfl ?_
          refine iq_goto hS J_MPlaceRows_isPlace_d29 (t := 33) rfl ?_
          exact iq_iret J_MPlaceRows_isPlace_d33 rfl rfl ⟨_, rfl, rfl, ed_some h⟩
noncomputable def f_MPlaceRows_blockX (p0 : Int32) (p1 : Int32) (p2 : Int32) (p3 : Int32) (M : im_M) : Option (Int32) := if ¬ p3 = 0 then if ¬ p3 = 1 then if ¬ p3 = 2 then some p2 else some ((p0 - 1) - p1) else some ((p0 - 1) - p2) else some p1
theorem J_MPlaceRows_blockX_d0 : decode J_MPlaceRows_blockX.2.1 0 = .ok (.iload_n 3, 1) := by decide +kernel
theorem J_MPlaceRows_blockX_d1 : decode J_MPlaceRows_blockX.2.1 1 = .ok (.ifCond .ne 7, 3) := by decide +kernel
theorem J_MPlaceRows_blockX_d4 : decode J_MPlaceRows_blockX.2.1 4 = .ok (.iload_n 1, 1) := by decide +kernel
theorem J_MPlaceRows_blockX_d5 : decode J_MPlaceRows_blockX.2.1 5 = .ok (.goto 30, 3) := by decide +kernel
theorem J_MPlaceRows_blockX_d8 : decode J_MPlaceRows_blockX.2.1 8 = .ok (.iload_n 3, 1) := by decide +kernel
theorem J_MPlaceRows_blockX_d9 : decode J_MPlaceRows_blockX.2.1 9 = .ok (.iconst 1, 1) := by decide +kernel
theorem J_MPlaceRows_blockX_d10 : decode J_MPlaceRows_blockX.2.1 10 = .ok (.if_icmp .ne 11, 3) := by decide +kernel
theorem J_MPlaceRows_blockX_d13 : decode J_MPlaceRows_blockX.2.1 13 = .ok (.iload_n 0, 1) := by decide +kernel
theorem J_MPlaceRows_blockX_d14 : decode J_MPlaceRows_blockX.2.1 14 = .ok (.iconst 1, 1) := by decide +kernel
theorem J_MPlaceRows_blockX_d15 : decode J_MPlaceRows_blockX.2.1 15 = .ok (.isub, 1) := by decide +kernel
theorem J_MPlaceRows_blockX_d16 : decode J_MPlaceRows_blockX.2.1 16 = .ok (.iload_n 2, 1) := by decide +kernel
theorem J_MPlaceRows_blockX_d17 : decode J_MPlaceRows_blockX.2.1 17 = .ok (.isub, 1) := by decide +kernel
theorem J_MPlaceRows_blockX_d18 : decode J_MPlaceRows_blockX.2.1 18 = .ok (.goto 17, 3) := by decide +kernel
theorem J_MPlaceRows_blockX_d21 : decode J_MPlaceRows_blockX.2.1 21 = .ok (.iload_n 3, 1) := by decide +kernel
theorem J_MPlaceRows_blockX_d22 : decode J_MPlaceRows_blockX.2.1 22 = .ok (.iconst 2, 1) := by decide +kernel
theorem J_MPlaceRows_blockX_d23 : decode J_MPlaceRows_blockX.2.1 23 = .ok (.if_icmp .ne 11, 3) := by decide +kernel
theorem J_MPlaceRows_blockX_d26 : decode J_MPlaceRows_blockX.2.1 26 = .ok (.iload_n 0, 1) := by decide +kernel
theorem J_MPlaceRows_blockX_d27 : decode J_MPlaceRows_blockX.2.1 27 = .ok (.iconst 1, 1) := by decide +kernel
theorem J_MPlaceRows_blockX_d28 : decode J_MPlaceRows_blockX.2.1 28 = .ok (.isub, 1) := by decide +kernel
theorem J_MPlaceRows_blockX_d29 : decode J_MPlaceRows_blockX.2.1 29 = .ok (.iload_n 1, 1) := by decide +kernel
theorem J_MPlaceRows_blockX_d30 : decode J_MPlaceRows_blockX.2.1 30 = .ok (.isub, 1) := by decide +kernel
theorem J_MPlaceRows_blockX_d31 : decode J_MPlaceRows_blockX.2.1 31 = .ok (.goto 4, 3) := by decide +kernel
theorem J_MPlaceRows_blockX_d34 : decode J_MPlaceRows_blockX.2.1 34 = .ok (.iload_n 2, 1) := by decide +kernel
theorem J_MPlaceRows_blockX_d35 : decode J_MPlaceRows_blockX.2.1 35 = .ok (.ireturn, 1) := by decide +kernel
theorem f_MPlaceRows_blockX_ok {L : Nat} {xs : Nat → Int32} {dep : Nat} {w : Bool} {p0 : Int32} {p1 : Int32} {p2 : Int32} {p3 : Int32} {M : im_M} {Q : Int32 → Prop} (hM : lw_S w M) (h : ed (f_MPlaceRows_blockX p0 p1 p2 p3 M) Q) : ia (tb_G L xs) dep J_MPlaceRows_blockX (rpI M Q) (0, lv_args 0 [.int p0, .int p1, .int p2, .int p3], [], M) := by
  have hS : im_St (tb_G L xs) dep J_MPlaceRows_blockX (ia (tb_G L xs) dep J_MPlaceRows_blockX (rpI M Q)) := ia_St
  unfold f_MPlaceRows_blockX at h
  have l0 : im_lk (lv_args 0 [.int p0, .int p1, .int p2, .int p3]) 0 = some (.int p0) := rfl
  have l1 : im_lk (lv_args 0 [.int p0, .int p1, .int p2, .int p3]) 1 = some (.int p1) := rfl
  have l2 : im_lk (lv_args 0 [.int p0, .int p1, .int p2, .int p3]) 2 = some (.int p2) := rfl
  have l3 : im_lk (lv_args 0 [.int p0, .int p1, .int p2, .int p3]) 3 = some (.int p3) := rfl
  refine iq_iload_n hS 1 J_MPlaceRows_blockX_d0 l3 rfl ?_
  refine iq_if_ne hS 4 J_MPlaceRows_blockX_d1 (t := 8) rfl (fun q1 => ?_) rfl (fun q1 => ?_)
  · replace h := ed_pos q1 h
    refine iq_iload_n hS 9 J_MPlaceRows_blockX_d8 l3 rfl ?_
    refine iq_iconst hS 10 J_MPlaceRows_blockX_d9 (v := 1) (by decide +kernel) rfl ?_
    refine iq_icmp_ne hS 13 J_MPlaceRows_blockX_d10 (t := 21) rfl (fun q10 => ?_) rfl (fun q10 => ?_)
    · replace h := ed_pos q10 h
      refine iq_iload_n hS 22 J_MPlaceRows_blockX_d21 l3 rfl ?_
      refine iq_iconst hS 23 J_MPlaceRows_blockX_d22 (v := 2) (by decide +kernel) rfl ?_
      refine iq_icmp_ne hS 26 J_MPlaceRows_blockX_d23 (t := 34) rfl (fun q23 => ?_) rfl (fun q23 => ?_)
      · replace h := ed_pos q23 h
        refine iq_iload_n hS 35 J_MPlaceRows_blockX_d34 l2 rfl ?_
        exact iq_iret J_MPlaceRows_blockX_d35 rfl rfl ⟨_, rfl, rfl, ed_some h⟩
      · replace h := ed_neg q23 h
        refine iq_iload_n hS 27 J_MPlaceRows_blockX_d26 l0 rfl ?_
        refine iq_iconst hS 28 J_MPlaceRows_blockX_d27 (v := 1) (by decide +kernel) rfl ?_
        refine iq_isub hS 29 J_MPlaceRows_blockX_d28 rfl ?_
        refine iq_iload_n hS 30 J_MPlaceRows_blockX_d29 l1 rfl ?_
        refine iq_isub hS 31 J_MPlaceRows_blockX_d30 rfl ?_
        refine iq_goto hS J_MPlaceRows_blockX_d31 (t := 35) rfl ?_
        exact iq_iret J_MPlaceRows_blockX_d35 rfl rfl ⟨_, rfl, rfl, ed_some h⟩
    · replace h := ed_neg q10 h
      refine iq_iload_n hS 14 J_MPlaceRows_blockX_d13 l0 rfl ?_
      refine iq_iconst hS 15 J_MPlaceRows_blockX_d14 (v := 1) (by decide +kernel) rfl ?_
      refine iq_isub hS 16 J_MPlaceRows_blockX_d15 rfl ?_
      refine iq_iload_n hS 17 J_MPlaceRows_blockX_d16 l2 rfl ?_
      refine iq_isub hS 18 J_MPlaceRows_blockX_d17 rfl ?_
      refine iq_goto hS J_MPlaceRows_blockX_d18 (t := 35) rfl ?_
      exact iq_iret J_MPlaceRows_blockX_d35 rfl rfl ⟨_, rfl, rfl, ed_some h⟩
  · replace h := ed_neg q1 h
    refine iq_iload_n hS 5 J_MPlaceRows_blockX_d4 l1 rfl ?_
    refine iq_goto hS J_MPlaceRows_blockX_d5 (t := 35) rfl ?_
    exact iq_iret J_MPlaceRows_blockX_d35 rfl rfl ⟨_, rfl, rfl, ed_some h⟩
noncomputable def f_MPlaceRows_least (p0 : Int32) (p1 : Int32) (M : im_M) : Option (Int32) := if p1 ≤ p0 then some p1 else some p0
theorem J_MPlaceRows_least_d0 : decode J_MPlaceRows_least.2.1 0 = .ok (.iload_n 0, 1) := by decide +kernel
theorem J_MPlaceRows_least_d1 : decode J_MPlaceRows_least.2.1 1 = .ok (.iload_n 1, 1) := by decide +kernel
theorem J_MPlaceRows_least_d2 : decode J_MPlaceRows_least.2.1 2 = .ok (.if_icmp .ge 7, 3) := by decide +kernel
theorem J_MPlaceRows_least_d5 : decode J_MPlaceRows_least.2.1 5 = .ok (.iload_n 0, 1) := by decide +kernel
theorem J_MPlaceRows_least_d6 : decode J_MPlaceRows_least.2.1 6 = .ok (.goto 4, 3) := by decide +kernel
theorem J_MPlaceRows_least_d9 : decode J_MPlaceRows_least.2.1 9 = .ok (.iload_n 1, 1) := by decide +kernel
theorem J_MPlaceRows_least_d10 : decode J_MPlaceRows_least.2.1 10 = .ok (.ireturn, 1) := by decide +kernel
theorem f_MPlaceRows_least_ok {L : Nat} {xs : Nat → Int32} {dep : Nat} {w : Bool} {p0 : Int32} {p1 : Int32} {M : im_M} {Q : Int32 → Prop} (hM : lw_S w M) (h : ed (f_MPlaceRows_least p0 p1 M) Q) : ia (tb_G L xs) dep J_MPlaceRows_least (rpI M Q) (0, lv_args 0 [.int p0, .int p1], [], M) := by
  have hS : im_St (tb_G L xs) dep J_MPlaceRows_least (ia (tb_G L xs) dep J_MPlaceRows_least (rpI M Q)) := ia_St
  unfold f_MPlaceRows_least at h
  have l0 : im_lk (lv_args 0 [.int p0, .int p1]) 0 = some (.int p0) := rfl
  have l1 : im_lk (lv_args 0 [.int p0, .int p1]) 1 = some (.int p1) := rfl
  refine iq_iload_n hS 1 J_MPlaceRows_least_d0 l0 rfl ?_
  refine iq_iload_n hS 2 J_MPlaceRows_least_d1 l1 rfl ?_
  refine iq_icmp_ge hS 5 J_MPlaceRows_least_d2 (t := 9) rfl (fun q2 => ?_) rfl (fun q2 => ?_)
  · replace h := ed_pos q2 h
    refine iq_iload_n hS 10 J_MPlaceRows_least_d9 l1 rfl ?_
    exact iq_iret J_MPlaceRows_least_d10 rfl rfl ⟨_, rfl, rfl, ed_some h⟩
  · replace h := ed_neg q2 h
    refine iq_iload_n hS 6 J_MPlaceRows_least_d5 l0 rfl ?_
    refine iq_goto hS J_MPlaceRows_least_d6 (t := 10) rfl ?_
    exact iq_iret J_MPlaceRows_least_d10 rfl rfl ⟨_, rfl, rfl, ed_some h⟩
noncomputable def f_MPlaceRows_blockY (p0 : Int32) (p1 : Int32) (p2 : Int32) (p3 : Int32) (M : im_M) : Option (Int32) := if ¬ p3 = 0 then if ¬ p3 = 1 then if ¬ p3 = 2 then some ((p0 - 1) - p1) else some ((p0 - 1) - p2) else some p1 else some p2
theorem J_MPlaceRows_blockY_d0 : decode J_MPlaceRows_blockY.2.1 0 = .ok (.iload_n 3, 1) := by decide +kernel
theorem J_MPlaceRows_blockY_d1 : decode J_MPlaceRows_blockY.2.1 1 = .ok (.ifCond .ne 7, 3) := by decide +kernel
theorem J_MPlaceRows_blockY_d4 : decode J_MPlaceRows_blockY.2.1 4 = .ok (.iload_n 2, 1) := by decide +kernel
theorem J_MPlaceRows_blockY_d5 : decode J_MPlaceRows_blockY.2.1 5 = .ok (.goto 30, 3) := by decide +kernel
theorem J_MPlaceRows_blockY_d8 : decode J_MPlaceRows_blockY.2.1 8 = .ok (.iload_n 3, 1) := by decide +kernel
theorem J_MPlaceRows_blockY_d9 : decode J_MPlaceRows_blockY.2.1 9 = .ok (.iconst 1, 1) := by decide +kernel
theorem J_MPlaceRows_blockY_d10 : decode J_MPlaceRows_blockY.2.1 10 = .ok (.if_icmp .ne 7, 3) := by decide +kernel
theorem J_MPlaceRows_blockY_d13 : decode J_MPlaceRows_blockY.2.1 13 = .ok (.iload_n 1, 1) := by decide +kernel
theorem J_MPlaceRows_blockY_d14 : decode J_MPlaceRows_blockY.2.1 14 = .ok (.goto 21, 3) := by decide +kernel
theorem J_MPlaceRows_blockY_d17 : decode J_MPlaceRows_blockY.2.1 17 = .ok (.iload_n 3, 1) := by decide +kernel
theorem J_MPlaceRows_blockY_d18 : decode J_MPlaceRows_blockY.2.1 18 = .ok (.iconst 2, 1) := by decide +kernel
theorem J_MPlaceRows_blockY_d19 : decode J_MPlaceRows_blockY.2.1 19 = .ok (.if_icmp .ne 11, 3) := by decide +kernel
theorem J_MPlaceRows_blockY_d22 : decode J_MPlaceRows_blockY.2.1 22 = .ok (.iload_n 0, 1) := by decide +kernel
theorem J_MPlaceRows_blockY_d23 : decode J_MPlaceRows_blockY.2.1 23 = .ok (.iconst 1, 1) := by decide +kernel
theorem J_MPlaceRows_blockY_d24 : decode J_MPlaceRows_blockY.2.1 24 = .ok (.isub, 1) := by decide +kernel
theorem J_MPlaceRows_blockY_d25 : decode J_MPlaceRows_blockY.2.1 25 = .ok (.iload_n 2, 1) := by decide +kernel
theorem J_MPlaceRows_blockY_d26 : decode J_MPlaceRows_blockY.2.1 26 = .ok (.isub, 1) := by decide +kernel
theorem J_MPlaceRows_blockY_d27 : decode J_MPlaceRows_blockY.2.1 27 = .ok (.goto 8, 3) := by decide +kernel
theorem J_MPlaceRows_blockY_d30 : decode J_MPlaceRows_blockY.2.1 30 = .ok (.iload_n 0, 1) := by decide +kernel
theorem J_MPlaceRows_blockY_d31 : decode J_MPlaceRows_blockY.2.1 31 = .ok (.iconst 1, 1) := by decide +kernel
theorem J_MPlaceRows_blockY_d32 : decode J_MPlaceRows_blockY.2.1 32 = .ok (.isub, 1) := by decide +kernel
theorem J_MPlaceRows_blockY_d33 : decode J_MPlaceRows_blockY.2.1 33 = .ok (.iload_n 1, 1) := by decide +kernel
theorem J_MPlaceRows_blockY_d34 : decode J_MPlaceRows_blockY.2.1 34 = .ok (.isub, 1) := by decide +kernel
theorem J_MPlaceRows_blockY_d35 : decode J_MPlaceRows_blockY.2.1 35 = .ok (.ireturn, 1) := by decide +kernel
theorem f_MPlaceRows_blockY_ok {L : Nat} {xs : Nat → Int32} {dep : Nat} {w : Bool} {p0 : Int32} {p1 : Int32} {p2 : Int32} {p3 : Int32} {M : im_M} {Q : Int32 → Prop} (hM : lw_S w M) (h : ed (f_MPlaceRows_blockY p0 p1 p2 p3 M) Q) : ia (tb_G L xs) dep J_MPlaceRows_blockY (rpI M Q) (0, lv_args 0 [.int p0, .int p1, .int p2, .int p3], [], M) := by
  have hS : im_St (tb_G L xs) dep J_MPlaceRows_blockY (ia (tb_G L xs) dep J_MPlaceRows_blockY (rpI M Q)) := ia_St
  unfold f_MPlaceRows_blockY at h
  have l0 : im_lk (lv_args 0 [.int p0, .int p1, .int p2, .int p3]) 0 = some (.int p0) := rfl
  have l1 : im_lk (lv_args 0 [.int p0, .int p1, .int p2, .int p3]) 1 = some (.int p1) := rfl
  have l2 : im_lk (lv_args 0 [.int p0, .int p1, .int p2, .int p3]) 2 = some (.int p2) := rfl
  have l3 : im_lk (lv_args 0 [.int p0, .int p1, .int p2, .int p3]) 3 = some (.int p3) := rfl
  refine iq_iload_n hS 1 J_MPlaceRows_blockY_d0 l3 rfl ?_
  refine iq_if_ne hS 4 J_MPlaceRows_blockY_d1 (t := 8) rfl (fun q1 => ?_) rfl (fun q1 => ?_)
  · replace h := ed_pos q1 h
    refine iq_iload_n hS 9 J_MPlaceRows_blockY_d8 l3 rfl ?_
    refine iq_iconst hS 10 J_MPlaceRows_blockY_d9 (v := 1) (by decide +kernel) rfl ?_
    refine iq_icmp_ne hS 13 J_MPlaceRows_blockY_d10 (t := 17) rfl (fun q10 => ?_) rfl (fun q10 => ?_)
    · replace h := ed_pos q10 h
      refine iq_iload_n hS 18 J_MPlaceRows_blockY_d17 l3 rfl ?_
      refine iq_iconst hS 19 J_MPlaceRows_blockY_d18 (v := 2) (by decide +kernel) rfl ?_
      refine iq_icmp_ne hS 22 J_MPlaceRows_blockY_d19 (t := 30) rfl (fun q19 => ?_) rfl (fun q19 => ?_)
      · replace h := ed_pos q19 h
        refine iq_iload_n hS 31 J_MPlaceRows_blockY_d30 l0 rfl ?_
        refine iq_iconst hS 32 J_MPlaceRows_blockY_d31 (v := 1) (by decide +kernel) rfl ?_
        refine iq_isub hS 33 J_MPlaceRows_blockY_d32 rfl ?_
        refine iq_iload_n hS 34 J_MPlaceRows_blockY_d33 l1 rfl ?_
        refine iq_isub hS 35 J_MPlaceRows_blockY_d34 rfl ?_
        exact iq_iret J_MPlaceRows_blockY_d35 rfl rfl ⟨_, rfl, rfl, ed_some h⟩
      · replace h := ed_neg q19 h
        refine iq_iload_n hS 23 J_MPlaceRows_blockY_d22 l0 rfl ?_
        refine iq_iconst hS 24 J_MPlaceRows_blockY_d23 (v := 1) (by decide +kernel) rfl ?_
        refine iq_isub hS 25 J_MPlaceRows_blockY_d24 rfl ?_
        refine iq_iload_n hS 26 J_MPlaceRows_blockY_d25 l2 rfl ?_
        refine iq_isub hS 27 J_MPlaceRows_blockY_d26 rfl ?_
        refine iq_goto hS J_MPlaceRows_blockY_d27 (t := 35) rfl ?_
        exact iq_iret J_MPlaceRows_blockY_d35 rfl rfl ⟨_, rfl, rfl, ed_some h⟩
    · replace h := ed_neg q10 h
      refine iq_iload_n hS 14 J_MPlaceRows_blockY_d13 l1 rfl ?_
      refine iq_goto hS J_MPlaceRows_blockY_d14 (t := 35) rfl ?_
      exact iq_iret J_MPlaceRows_blockY_d35 rfl rfl ⟨_, rfl, rfl, ed_some h⟩
  · replace h := ed_neg q1 h
    refine iq_iload_n hS 5 J_MPlaceRows_blockY_d4 l2 rfl ?_
    refine iq_goto hS J_MPlaceRows_blockY_d5 (t := 35) rfl ?_
    exact iq_iret J_MPlaceRows_blockY_d35 rfl rfl ⟨_, rfl, rfl, ed_some h⟩
noncomputable def f_MPlaceRows_darkIn (p0 : Int32) (p1 : Int32) (p2 : Int32) (p3 : Int32) (p4 : Int32) (p5 : Int32) (M : im_M) : Option (Int32) := gd (inb ((4 : Int32) * p0) 2100) <| gd (inb (((4 : Int32) * p0) + 1) 2100) <| gd (inb (((4 : Int32) * p0) + 2) 2100) <| bd1 (f_MPlaceRows_blockX p4 (im_i M 133 (Int32.toNatClampNeg ((4 : Int32) * p0))) (im_i M 133 (Int32.toNatClampNeg (((4 : Int32) * p0) + 1))) p5 M) fun (x1 : Int32) => bd1 (f_MPlaceRows_blockX p4 (((im_i M 133 (Int32.toNatClampNeg ((4 : Int32) * p0))) + (im_i M 133 (Int32.toNatClampNeg (((4 : Int32) * p0) + 2)))) - 1) (im_i M 133 (Int32.toNatClampNeg (((4 : Int32) * p0) + 1))) p5 M) fun (x2 : Int32) => bd1 (f_MPlaceRows_least x1 x2 M) fun (x3 : Int32) => bd1 (f_MPlaceRows_blockY p4 (im_i M 133 (Int32.toNatClampNeg ((4 : Int32) * p0))) (im_i M 133 (Int32.toNatClampNeg (((4 : Int32) * p0) + 1))) p5 M) fun (x4 : Int32) => bd1 (f_MPlaceRows_blockY p4 (((im_i M 133 (Int32.toNatClampNeg ((4 : Int32) * p0))) + (im_i M 133 (Int32.toNatClampNeg (((4 : Int32) * p0) + 2)))) - 1) (im_i M 133 (Int32.toNatClampNeg (((4 : Int32) * p0) + 1))) p5 M) fun (x5 : Int32) => bd1 (f_MPlaceRows_least x4 x5 M) fun (x6 : Int32) => bd1 (if ¬ (p5 - p5 / 2 * 2) = 0 then some 1 else gd (inb (((4 : Int32) * p0) + 2) 2100) <| some (im_i M 133 (Int32.toNatClampNeg (((4 : Int32) * p0) + 2)))) fun (y8 : Int32) => bd1 (if ¬ (p5 - p5 / 2 * 2) = 0 then gd (inb (((4 : Int32) * p0) + 2) 2100) <| some (im_i M 133 (Int32.toNatClampNeg (((4 : Int32) * p0) + 2))) else some 1) fun (y18 : Int32) => gd (inb ((((((513 : Int32) * (p2 + (p3 * x6))) + p1) + (p3 * x3)) + (((513 : Int32) * p3) * y18)) + (p3 * y8)) 263169) <| gd (inb (((((513 : Int32) * (p2 + (p3 * x6))) + p1) + (p3 * x3)) + (((513 : Int32) * p3) * y18)) 263169) <| gd (inb (((((513 : Int32) * (p2 + (p3 * x6))) + p1) + (p3 * x3)) + (p3 * y8)) 263169) <| gd (inb ((((513 : Int32) * (p2 + (p3 * x6))) + p1) + (p3 * x3)) 263169) <| some ((((im_i M 132 (Int32.toNatClampNeg ((((((513 : Int32) * (p2 + (p3 * x6))) + p1) + (p3 * x3)) + (((513 : Int32) * p3) * y18)) + (p3 * y8)))) - (im_i M 132 (Int32.toNatClampNeg (((((513 : Int32) * (p2 + (p3 * x6))) + p1) + (p3 * x3)) + (((513 : Int32) * p3) * y18))))) - (im_i M 132 (Int32.toNatClampNeg (((((513 : Int32) * (p2 + (p3 * x6))) + p1) + (p3 * x3)) + (p3 * y8))))) + (im_i M 132 (Int32.toNatClampNeg ((((513 : Int32) * (p2 + (p3 * x6))) + p1) + (p3 * x3)))))
theorem J_MPlaceRows_darkIn_d0 : decode J_MPlaceRows_darkIn.2.1 0 = .ok (.aload_n 0, 1) := by decide +kernel
theorem J_MPlaceRows_darkIn_d1 : decode J_MPlaceRows_darkIn.2.1 1 = .ok (.getfield 26, 3) := by decide +kernel
theorem J_MPlaceRows_darkIn_d4 : decode J_MPlaceRows_darkIn.2.1 4 = .ok (.iconst 4, 1) := by decide +kernel
theorem J_MPlaceRows_darkIn_d5 : decode J_MPlaceRows_darkIn.2.1 5 = .ok (.iload_n 1, 1) := by decide +kernel
theorem J_MPlaceRows_darkIn_d6 : decode J_MPlaceRows_darkIn.2.1 6 = .ok (.imul, 1) := by decide +kernel
theorem J_MPlaceRows_darkIn_d7 : decode J_MPlaceRows_darkIn.2.1 7 = .ok (.iaload, 1) := by decide +kernel
theorem J_MPlaceRows_darkIn_d8 : decode J_MPlaceRows_darkIn.2.1 8 = .ok (.istore 7, 2) := by decide +kernel
theorem J_MPlaceRows_darkIn_d10 : decode J_MPlaceRows_darkIn.2.1 10 = .ok (.aload_n 0, 1) := by decide +kernel
theorem J_MPlaceRows_darkIn_d11 : decode J_MPlaceRows_darkIn.2.1 11 = .ok (.getfield 26, 3) := by decide +kernel
theorem J_MPlaceRows_darkIn_d14 : decode J_MPlaceRows_darkIn.2.1 14 = .ok (.iconst 4, 1) := by decide +kernel
theorem J_MPlaceRows_darkIn_d15 : decode J_MPlaceRows_darkIn.2.1 15 = .ok (.iload_n 1, 1) := by decide +kernel
theorem J_MPlaceRows_darkIn_d16 : decode J_MPlaceRows_darkIn.2.1 16 = .ok (.imul, 1) := by decide +kernel
theorem J_MPlaceRows_darkIn_d17 : decode J_MPlaceRows_darkIn.2.1 17 = .ok (.iconst 1, 1) := by decide +kernel
theorem J_MPlaceRows_darkIn_d18 : decode J_MPlaceRows_darkIn.2.1 18 = .ok (.iadd, 1) := by decide +kernel
theorem J_MPlaceRows_darkIn_d19 : decode J_MPlaceRows_darkIn.2.1 19 = .ok (.iaload, 1) := by decide +kernel
theorem J_MPlaceRows_darkIn_d20 : decode J_MPlaceRows_darkIn.2.1 20 = .ok (.istore 8, 2) := by decide +kernel
theorem J_MPlaceRows_darkIn_d22 : decode J_MPlaceRows_darkIn.2.1 22 = .ok (.iload 7, 2) := by decide +kernel
theorem J_MPlaceRows_darkIn_d24 : decode J_MPlaceRows_darkIn.2.1 24 = .ok (.aload_n 0, 1) := by decide +kernel
theorem J_MPlaceRows_darkIn_d25 : decode J_MPlaceRows_darkIn.2.1 25 = .ok (.getfield 26, 3) := by decide +kernel
theorem J_MPlaceRows_darkIn_d28 : decode J_MPlaceRows_darkIn.2.1 28 = .ok (.iconst 4, 1) := by decide +kernel
theorem J_MPlaceRows_darkIn_d29 : decode J_MPlaceRows_darkIn.2.1 29 = .ok (.iload_n 1, 1) := by decide +kernel
theorem J_MPlaceRows_darkIn_d30 : decode J_MPlaceRows_darkIn.2.1 30 = .ok (.imul, 1) := by decide +kernel
theorem J_MPlaceRows_darkIn_d31 : decode J_MPlaceRows_darkIn.2.1 31 = .ok (.iconst 2, 1) := by decide +kernel
theorem J_MPlaceRows_darkIn_d32 : decode J_MPlaceRows_darkIn.2.1 32 = .ok (.iadd, 1) := by decide +kernel
theorem J_MPlaceRows_darkIn_d33 : decode J_MPlaceRows_darkIn.2.1 33 = .ok (.iaload, 1) := by decide +kernel
theorem J_MPlaceRows_darkIn_d34 : decode J_MPlaceRows_darkIn.2.1 34 = .ok (.iadd, 1) := by decide +kernel
theorem J_MPlaceRows_darkIn_d35 : decode J_MPlaceRows_darkIn.2.1 35 = .ok (.iconst 1, 1) := by decide +kernel
theorem J_MPlaceRows_darkIn_d36 : decode J_MPlaceRows_darkIn.2.1 36 = .ok (.isub, 1) := by decide +kernel
theorem J_MPlaceRows_darkIn_d37 : decode J_MPlaceRows_darkIn.2.1 37 = .ok (.istore 9, 2) := by decide +kernel
theorem J_MPlaceRows_darkIn_d39 : decode J_MPlaceRows_darkIn.2.1 39 = .ok (.iload 5, 2) := by decide +kernel
theorem J_MPlaceRows_darkIn_d41 : decode J_MPlaceRows_darkIn.2.1 41 = .ok (.iload 7, 2) := by decide +kernel
theorem J_MPlaceRows_darkIn_d43 : decode J_MPlaceRows_darkIn.2.1 43 = .ok (.iload 8, 2) := by decide +kernel
theorem J_MPlaceRows_darkIn_d45 : decode J_MPlaceRows_darkIn.2.1 45 = .ok (.iload 6, 2) := by decide +kernel
theorem J_MPlaceRows_darkIn_d47 : decode J_MPlaceRows_darkIn.2.1 47 = .ok (.invokestatic 75, 3) := by decide +kernel
theorem J_MPlaceRows_darkIn_d50 : decode J_MPlaceRows_darkIn.2.1 50 = .ok (.iload 5, 2) := by decide +kernel
theorem J_MPlaceRows_darkIn_d52 : decode J_MPlaceRows_darkIn.2.1 52 = .ok (.iload 9, 2) := by decide +kernel
theorem J_MPlaceRows_darkIn_d54 : decode J_MPlaceRows_darkIn.2.1 54 = .ok (.iload 8, 2) := by decide +kernel
theorem J_MPlaceRows_darkIn_d56 : decode J_MPlaceRows_darkIn.2.1 56 = .ok (.iload 6, 2) := by decide +kernel
theorem J_MPlaceRows_darkIn_d58 : decode J_MPlaceRows_darkIn.2.1 58 = .ok (.invokestatic 75, 3) := by decide +kernel
theorem J_MPlaceRows_darkIn_d61 : decode J_MPlaceRows_darkIn.2.1 61 = .ok (.invokestatic 88, 3) := by decide +kernel
theorem J_MPlaceRows_darkIn_d64 : decode J_MPlaceRows_darkIn.2.1 64 = .ok (.istore 10, 2) := by decide +kernel
theorem J_MPlaceRows_darkIn_d66 : decode J_MPlaceRows_darkIn.2.1 66 = .ok (.iload 5, 2) := by decide +kernel
theorem J_MPlaceRows_darkIn_d68 : decode J_MPlaceRows_darkIn.2.1 68 = .ok (.iload 7, 2) := by decide +kernel
theorem J_MPlaceRows_darkIn_d70 : decode J_MPlaceRows_darkIn.2.1 70 = .ok (.iload 8, 2) := by decide +kernel
theorem J_MPlaceRows_darkIn_d72 : decode J_MPlaceRows_darkIn.2.1 72 = .ok (.iload 6, 2) := by decide +kernel
theorem J_MPlaceRows_darkIn_d74 : decode J_MPlaceRows_darkIn.2.1 74 = .ok (.invokestatic 78, 3) := by decide +kernel
theorem J_MPlaceRows_darkIn_d77 : decode J_MPlaceRows_darkIn.2.1 77 = .ok (.iload 5, 2) := by decide +kernel
theorem J_MPlaceRows_darkIn_d79 : decode J_MPlaceRows_darkIn.2.1 79 = .ok (.iload 9, 2) := by decide +kernel
theorem J_MPlaceRows_darkIn_d81 : decode J_MPlaceRows_darkIn.2.1 81 = .ok (.iload 8, 2) := by decide +kernel
theorem J_MPlaceRows_darkIn_d83 : decode J_MPlaceRows_darkIn.2.1 83 = .ok (.iload 6, 2) := by decide +kernel
theorem J_MPlaceRows_darkIn_d85 : decode J_MPlaceRows_darkIn.2.1 85 = .ok (.invokestatic 78, 3) := by decide +kernel
theorem J_MPlaceRows_darkIn_d88 : decode J_MPlaceRows_darkIn.2.1 88 = .ok (.invokestatic 88, 3) := by decide +kernel
theorem J_MPlaceRows_darkIn_d91 : decode J_MPlaceRows_darkIn.2.1 91 = .ok (.istore 11, 2) := by decide +kernel
theorem J_MPlaceRows_darkIn_d93 : decode J_MPlaceRows_darkIn.2.1 93 = .ok (.iload 6, 2) := by decide +kernel
theorem J_MPlaceRows_darkIn_d95 : decode J_MPlaceRows_darkIn.2.1 95 = .ok (.iconst 2, 1) := by decide +kernel
theorem J_MPlaceRows_darkIn_d96 : decode J_MPlaceRows_darkIn.2.1 96 = .ok (.irem, 1) := by decide +kernel
theorem J_MPlaceRows_darkIn_d97 : decode J_MPlaceRows_darkIn.2.1 97 = .ok (.ifCond .ne 16, 3) := by decide +kernel
theorem J_MPlaceRows_darkIn_d100 : decode J_MPlaceRows_darkIn.2.1 100 = .ok (.aload_n 0, 1) := by decide +kernel
theorem J_MPlaceRows_darkIn_d101 : decode J_MPlaceRows_darkIn.2.1 101 = .ok (.getfield 26, 3) := by decide +kernel
theorem J_MPlaceRows_darkIn_d104 : decode J_MPlaceRows_darkIn.2.1 104 = .ok (.iconst 4, 1) := by decide +kernel
theorem J_MPlaceRows_darkIn_d105 : decode J_MPlaceRows_darkIn.2.1 105 = .ok (.iload_n 1, 1) := by decide +kernel
theorem J_MPlaceRows_darkIn_d106 : decode J_MPlaceRows_darkIn.2.1 106 = .ok (.imul, 1) := by decide +kernel
theorem J_MPlaceRows_darkIn_d107 : decode J_MPlaceRows_darkIn.2.1 107 = .ok (.iconst 2, 1) := by decide +kernel
theorem J_MPlaceRows_darkIn_d108 : decode J_MPlaceRows_darkIn.2.1 108 = .ok (.iadd, 1) := by decide +kernel
theorem J_MPlaceRows_darkIn_d109 : decode J_MPlaceRows_darkIn.2.1 109 = .ok (.iaload, 1) := by decide +kernel
theorem J_MPlaceRows_darkIn_d110 : decode J_MPlaceRows_darkIn.2.1 110 = .ok (.goto 4, 3) := by decide +kernel
theorem J_MPlaceRows_darkIn_d113 : decode J_MPlaceRows_darkIn.2.1 113 = .ok (.iconst 1, 1) := by decide +kernel
theorem J_MPlaceRows_darkIn_d114 : decode J_MPlaceRows_darkIn.2.1 114 = .ok (.istore 12, 2) := by decide +kernel
theorem J_MPlaceRows_darkIn_d116 : decode J_MPlaceRows_darkIn.2.1 116 = .ok (.iload 6, 2) := by decide +kernel
theorem J_MPlaceRows_darkIn_d118 : decode J_MPlaceRows_darkIn.2.1 118 = .ok (.iconst 2, 1) := by decide +kernel
theorem J_MPlaceRows_darkIn_d119 : decode J_MPlaceRows_darkIn.2.1 119 = .ok (.irem, 1) := by decide +kernel
theorem J_MPlaceRows_darkIn_d120 : decode J_MPlaceRows_darkIn.2.1 120 = .ok (.ifCond .ne 7, 3) := by decide +kernel
theorem J_MPlaceRows_darkIn_d123 : decode J_MPlaceRows_darkIn.2.1 123 = .ok (.iconst 1, 1) := by decide +kernel
theorem J_MPlaceRows_darkIn_d124 : decode J_MPlaceRows_darkIn.2.1 124 = .ok (.goto 13, 3) := by decide +kernel
theorem J_MPlaceRows_darkIn_d127 : decode J_MPlaceRows_darkIn.2.1 127 = .ok (.aload_n 0, 1) := by decide +kernel
theorem J_MPlaceRows_darkIn_d128 : decode J_MPlaceRows_darkIn.2.1 128 = .ok (.getfield 26, 3) := by decide +kernel
theorem J_MPlaceRows_darkIn_d131 : decode J_MPlaceRows_darkIn.2.1 131 = .ok (.iconst 4, 1) := by decide +kernel
theorem J_MPlaceRows_darkIn_d132 : decode J_MPlaceRows_darkIn.2.1 132 = .ok (.iload_n 1, 1) := by decide +kernel
theorem J_MPlaceRows_darkIn_d133 : decode J_MPlaceRows_darkIn.2.1 133 = .ok (.imul, 1) := by decide +kernel
theorem J_MPlaceRows_darkIn_d134 : decode J_MPlaceRows_darkIn.2.1 134 = .ok (.iconst 2, 1) := by decide +kernel
theorem J_MPlaceRows_darkIn_d135 : decode J_MPlaceRows_darkIn.2.1 135 = .ok (.iadd, 1) := by decide +kernel
theorem J_MPlaceRows_darkIn_d136 : decode J_MPlaceRows_darkIn.2.1 136 = .ok (.iaload, 1) := by decide +kernel
theorem J_MPlaceRows_darkIn_d137 : decode J_MPlaceRows_darkIn.2.1 137 = .ok (.istore 13, 2) := by decide +kernel
theorem J_MPlaceRows_darkIn_d139 : decode J_MPlaceRows_darkIn.2.1 139 = .ok (.sipush 513, 3) := by decide +kernel
theorem J_MPlaceRows_darkIn_d142 : decode J_MPlaceRows_darkIn.2.1 142 = .ok (.iload_n 3, 1) := by decide +kernel
theorem J_MPlaceRows_darkIn_d143 : decode J_MPlaceRows_darkIn.2.1 143 = .ok (.iload 4, 2) := by decide +kernel
theorem J_MPlaceRows_darkIn_d145 : decode J_MPlaceRows_darkIn.2.1 145 = .ok (.iload 11, 2) := by decide +kernel
theorem J_MPlaceRows_darkIn_d147 : decode J_MPlaceRows_darkIn.2.1 147 = .ok (.imul, 1) := by decide +kernel
theorem J_MPlaceRows_darkIn_d148 : decode J_MPlaceRows_darkIn.2.1 148 = .ok (.iadd, 1) := by decide +kernel
theorem J_MPlaceRows_darkIn_d149 : decode J_MPlaceRows_darkIn.2.1 149 = .ok (.imul, 1) := by decide +kernel
theorem J_MPlaceRows_darkIn_d150 : decode J_MPlaceRows_darkIn.2.1 150 = .ok (.iload_n 2, 1) := by decide +kernel
theorem J_MPlaceRows_darkIn_d151 : decode J_MPlaceRows_darkIn.2.1 151 = .ok (.iadd, 1) := by decide +kernel
theorem J_MPlaceRows_darkIn_d152 : decode J_MPlaceRows_darkIn.2.1 152 = .ok (.iload 4, 2) := by decide +kernel
theorem J_MPlaceRows_darkIn_d154 : decode J_MPlaceRows_darkIn.2.1 154 = .ok (.iload 10, 2) := by decide +kernel
theorem J_MPlaceRows_darkIn_d156 : decode J_MPlaceRows_darkIn.2.1 156 = .ok (.imul, 1) := by decide +kernel
theorem J_MPlaceRows_darkIn_d157 : decode J_MPlaceRows_darkIn.2.1 157 = .ok (.iadd, 1) := by decide +kernel
theorem J_MPlaceRows_darkIn_d158 : decode J_MPlaceRows_darkIn.2.1 158 = .ok (.istore 14, 2) := by decide +kernel
theorem J_MPlaceRows_darkIn_d160 : decode J_MPlaceRows_darkIn.2.1 160 = .ok (.iload 14, 2) := by decide +kernel
theorem J_MPlaceRows_darkIn_d162 : decode J_MPlaceRows_darkIn.2.1 162 = .ok (.sipush 513, 3) := by decide +kernel
theorem J_MPlaceRows_darkIn_d165 : decode J_MPlaceRows_darkIn.2.1 165 = .ok (.iload 4, 2) := by decide +kernel
theorem J_MPlaceRows_darkIn_d167 : decode J_MPlaceRows_darkIn.2.1 167 = .ok (.imul, 1) := by decide +kernel
theorem J_MPlaceRows_darkIn_d168 : decode J_MPlaceRows_darkIn.2.1 168 = .ok (.iload 13, 2) := by decide +kernel
theorem J_MPlaceRows_darkIn_d170 : decode J_MPlaceRows_darkIn.2.1 170 = .ok (.imul, 1) := by decide +kernel
theorem J_MPlaceRows_darkIn_d171 : decode J_MPlaceRows_darkIn.2.1 171 = .ok (.iadd, 1) := by decide +kernel
theorem J_MPlaceRows_darkIn_d172 : decode J_MPlaceRows_darkIn.2.1 172 = .ok (.istore 15, 2) := by decide +kernel
theorem J_MPlaceRows_darkIn_d174 : decode J_MPlaceRows_darkIn.2.1 174 = .ok (.aload_n 0, 1) := by decide +kernel
theorem J_MPlaceRows_darkIn_d175 : decode J_MPlaceRows_darkIn.2.1 175 = .ok (.getfield 22, 3) := by decide +kernel
theorem J_MPlaceRows_darkIn_d178 : decode J_MPlaceRows_darkIn.2.1 178 = .ok (.iload 15, 2) := by decide +kernel
theorem J_MPlaceRows_darkIn_d180 : decode J_MPlaceRows_darkIn.2.1 180 = .ok (.iload 4, 2) := by decide +kernel
theorem J_MPlaceRows_darkIn_d182 : decode J_MPlaceRows_darkIn.2.1 182 = .ok (.iload 12, 2) := by decide +kernel
theorem J_MPlaceRows_darkIn_d184 : decode J_MPlaceRows_darkIn.2.1 184 = .ok (.imul, 1) := by decide +kernel
theorem J_MPlaceRows_darkIn_d185 : decode J_MPlaceRows_darkIn.2.1 185 = .ok (.iadd, 1) := by decide +kernel
theorem J_MPlaceRows_darkIn_d186 : decode J_MPlaceRows_darkIn.2.1 186 = .ok (.iaload, 1) := by decide +kernel
theorem J_MPlaceRows_darkIn_d187 : decode J_MPlaceRows_darkIn.2.1 187 = .ok (.aload_n 0, 1) := by decide +kernel
theorem J_MPlaceRows_darkIn_d188 : decode J_MPlaceRows_darkIn.2.1 188 = .ok (.getfield 22, 3) := by decide +kernel
theorem J_MPlaceRows_darkIn_d191 : decode J_MPlaceRows_darkIn.2.1 191 = .ok (.iload 15, 2) := by decide +kernel
theorem J_MPlaceRows_darkIn_d193 : decode J_MPlaceRows_darkIn.2.1 193 = .ok (.iaload, 1) := by decide +kernel
theorem J_MPlaceRows_darkIn_d194 : decode J_MPlaceRows_darkIn.2.1 194 = .ok (.isub, 1) := by decide +kernel
theorem J_MPlaceRows_darkIn_d195 : decode J_MPlaceRows_darkIn.2.1 195 = .ok (.aload_n 0, 1) := by decide +kernel
theorem J_MPlaceRows_darkIn_d196 : decode J_MPlaceRows_darkIn.2.1 196 = .ok (.getfield 22, 3) := by decide +kernel
theorem J_MPlaceRows_darkIn_d199 : decode J_MPlaceRows_darkIn.2.1 199 = .ok (.iload 14, 2) := by decide +kernel
theorem J_MPlaceRows_darkIn_d201 : decode J_MPlaceRows_darkIn.2.1 201 = .ok (.iload 4, 2) := by decide +kernel
theorem J_MPlaceRows_darkIn_d203 : decode J_MPlaceRows_darkIn.2.1 203 = .ok (.iload 12, 2) := by decide +kernel
theorem J_MPlaceRows_darkIn_d205 : decode J_MPlaceRows_darkIn.2.1 205 = .ok (.imul, 1) := by decide +kernel
theorem J_MPlaceRows_darkIn_d206 : decode J_MPlaceRows_darkIn.2.1 206 = .ok (.iadd, 1) := by decide +kernel
theorem J_MPlaceRows_darkIn_d207 : decode J_MPlaceRows_darkIn.2.1 207 = .ok (.iaload, 1) := by decide +kernel
theorem J_MPlaceRows_darkIn_d208 : decode J_MPlaceRows_darkIn.2.1 208 = .ok (.isub, 1) := by decide +kernel
theorem J_MPlaceRows_darkIn_d209 : decode J_MPlaceRows_darkIn.2.1 209 = .ok (.aload_n 0, 1) := by decide +kernel
theorem J_MPlaceRows_darkIn_d210 : decode J_MPlaceRows_darkIn.2.1 210 = .ok (.getfield 22, 3) := by decide +kernel
theorem J_MPlaceRows_darkIn_d213 : decode J_MPlaceRows_darkIn.2.1 213 = .ok (.iload 14, 2) := by decide +kernel
theorem J_MPlaceRows_darkIn_d215 : decode J_MPlaceRows_darkIn.2.1 215 = .ok (.iaload, 1) := by decide +kernel
theorem J_MPlaceRows_darkIn_d216 : decode J_MPlaceRows_darkIn.2.1 216 = .ok (.iadd, 1) := by decide +kernel
theorem J_MPlaceRows_darkIn_d217 : decode J_MPlaceRows_darkIn.2.1 217 = .ok (.ireturn, 1) := by decide +kernel
theorem f_MPlaceRows_darkIn_ok {L : Nat} {xs : Nat → Int32} {dep : Nat} {w : Bool} {p0 : Int32} {p1 : Int32} {p2 : Int32} {p3 : Int32} {p4 : Int32} {p5 : Int32} {M : im_M} {Q : Int32 → Prop} (hM : lw_S w M) (h : ed (f_MPlaceRows_darkIn p0 p1 p2 p3 p4 p5 M) Q) : ia (tb_G L xs) (dep + 1) J_MPlaceRows_darkIn (rpI M Q) (0, lv_args 0 [.ref 130, .int p0, .int p1, .int p2, .int p3, .int p4, .int p5], [], M) := by
  have hS : im_St (tb_G L xs) (dep + 1) J_MPlaceRows_darkIn (ia (tb_G L xs) (dep + 1) J_MPlaceRows_darkIn (rpI M Q)) := ia_St
  unfold f_MPlaceRows_darkIn at h
  have l0 : im_lk (lv_args 0 [.ref 130, .int p0, .int p1, .int p2, .int p3, .int p4, .int p5]) 0 = some (.ref 130) := rfl
  have l1 : im_lk (lv_args 0 [.ref 130, .int p0, .int p1, .int p2, .int p3, .int p4, .int p5]) 1 = some (.int p0) := rfl
  have l2 : im_lk (lv_args 0 [.ref 130, .int p0, .int p1, .int p2, .int p3, .int p4, .int p5]) 2 = some (.int p1) := rfl
  have l3 : im_lk (lv_args 0 [.ref 130, .int p0, .int p1, .int p2, .int p3, .int p4, .int p5]) 3 = some (.int p2) := rfl
  have l4 : im_lk (lv_args 0 [.ref 130, .int p0, .int p1, .int p2, .int p3, .int p4, .int p5]) 4 = some (.int p3) := rfl
  have l5 : im_lk (lv_args 0 [.ref 130, .int p0, .int p1, .int p2, .int p3, .int p4, .int p5]) 5 = some (.int p4) := rfl
  have l6 : im_lk (lv_args 0 [.ref 130, .int p0, .int p1, .int p2, .int p3, .int p4, .int p5]) 6 = some (.int p5) := rfl
  refine iq_aload_n hS 1 J_MPlaceRows_darkIn_d0 l0 rfl ?_
  refine iq_getR hS 4 J_MPlaceRows_darkIn_d1 lf_14_26 (Or.inr ⟨_, rfl⟩) (ka_130 hM) (ra_130_5 hM) rfl ?_
  refine iq_iconst hS 5 J_MPlaceRows_darkIn_d4 (v := 4) (by decide +kernel) rfl ?_
  refine iq_iload_n hS 6 J_MPlaceRows_darkIn_d5 l1 rfl ?_
  refine iq_imul hS 7 J_MPlaceRows_darkIn_d6 rfl ?_
  obtain ⟨g7, h⟩ := ed_gd h
  refine iq_iaload hS 8 J_MPlaceRows_darkIn_d7 ⟨(ka_133 hM).1, (ka_133 hM).2, g7.1, ix_lt (kl_133 hM) g7.2⟩ rfl ?_
  refine iq_istore hS 10 J_MPlaceRows_darkIn_d8 (by decide) rfl ?_
  refine iq_aload_n hS 11 J_MPlaceRows_darkIn_d10 (lk_1r l0 (by decide)) rfl ?_
  refine iq_getR hS 14 J_MPlaceRows_darkIn_d11 lf_14_26 (Or.inr ⟨_, rfl⟩) (ka_130 hM) (ra_130_5 hM) rfl ?_
  refine iq_iconst hS 15 J_MPlaceRows_darkIn_d14 (v := 4) (by decide +kernel) rfl ?_
  refine iq_iload_n hS 16 J_MPlaceRows_darkIn_d15 (lk_1i l1 (by decide)) rfl ?_
  refine iq_imul hS 17 J_MPlaceRows_darkIn_d16 rfl ?_
  refine iq_iconst hS 18 J_MPlaceRows_darkIn_d17 (v := 1) (by decide +kernel) rfl ?_
  refine iq_iadd hS 19 J_MPlaceRows_darkIn_d18 rfl ?_
  obtain ⟨g19, h⟩ := ed_gd h
  refine iq_iaload hS 20 J_MPlaceRows_darkIn_d19 ⟨(ka_133 hM).1, (ka_133 hM).2, g19.1, ix_lt (kl_133 hM) g19.2⟩ rfl ?_
  refine iq_istore hS 22 J_MPlaceRows_darkIn_d20 (by decide) rfl ?_
  refine iq_iload hS 24 J_MPlaceRows_darkIn_d22 (lk_1i lk_1s (by decide)) rfl ?_
  refine iq_aload_n hS 25 J_MPlaceRows_darkIn_d24 (lk_1r (lk_1r l0 (by decide)) (by decide)) rfl ?_
  refine iq_getR hS 28 J_MPlaceRows_darkIn_d25 lf_14_26 (Or.inr ⟨_, rfl⟩) (ka_130 hM) (ra_130_5 hM) rfl ?_
  refine iq_iconst hS 29 J_MPlaceRows_darkIn_d28 (v := 4) (by decide +kernel) rfl ?_
  refine iq_iload_n hS 30 J_MPlaceRows_darkIn_d29 (lk_1i (lk_1i l1 (by decide)) (by decide)) rfl ?_
  refine iq_imul hS 31 J_MPlaceRows_darkIn_d30 rfl ?_
  refine iq_iconst hS 32 J_MPlaceRows_darkIn_d31 (v := 2) (by decide +kernel) rfl ?_
  refine iq_iadd hS 33 J_MPlaceRows_darkIn_d32 rfl ?_
  obtain ⟨g33, h⟩ := ed_gd h
  refine iq_iaload hS 34 J_MPlaceRows_darkIn_d33 ⟨(ka_133 hM).1, (ka_133 hM).2, g33.1, ix_lt (kl_133 hM) g33.2⟩ rfl ?_
  refine iq_iadd hS 35 J_MPlaceRows_darkIn_d34 rfl ?_
  refine iq_iconst hS 36 J_MPlaceRows_darkIn_d35 (v := 1) (by decide +kernel) rfl ?_
  refine iq_isub hS 37 J_MPlaceRows_darkIn_d36 rfl ?_
  refine iq_istore hS 39 J_MPlaceRows_darkIn_d37 (by decide) rfl ?_
  refine iq_iload hS 41 J_MPlaceRows_darkIn_d39 (lk_1i (lk_1i (lk_1i l5 (by decide)) (by decide)) (by decide)) rfl ?_
  refine iq_iload hS 43 J_MPlaceRows_darkIn_d41 (lk_1i (lk_1i lk_1s (by decide)) (by decide)) rfl ?_
  refine iq_iload hS 45 J_MPlaceRows_darkIn_d43 (lk_1i lk_1s (by decide)) rfl ?_
  refine iq_iload hS 47 J_MPlaceRows_darkIn_d45 (lk_1i (lk_1i (lk_1i l6 (by decide)) (by decide)) (by decide)) rfl ?_
  obtain ⟨Q1, hQ1, h⟩ := bd1_ed h
  refine iq_cpI hS 50 J_MPlaceRows_darkIn_d47 rfl (pr_stat (vs := [_, _, _, _]) lc_14_75 lT_466 rfl rfl (by decide) rfl (Nat.le_of_ble_eq_true rfl) (Nat.le_of_ble_eq_true rfl)) (f_MPlaceRows_blockX_ok (dep := dep + 0) hM h) rfl ?_
  intro x1 h
  replace h := hQ1 _ h
  refine iq_iload hS 52 J_MPlaceRows_darkIn_d50 (lk_1i (lk_1i (lk_1i l5 (by decide)) (by decide)) (by decide)) rfl ?_
  refine iq_iload hS 54 J_MPlaceRows_darkIn_d52 lk_1s rfl ?_
  refine iq_iload hS 56 J_MPlaceRows_darkIn_d54 (lk_1i lk_1s (by decide)) rfl ?_
  refine iq_iload hS 58 J_MPlaceRows_darkIn_d56 (lk_1i (lk_1i (lk_1i l6 (by decide)) (by decide)) (by decide)) rfl ?_
  obtain ⟨Q2, hQ2, h⟩ := bd1_ed h
  refine iq_cpI hS 61 J_MPlaceRows_darkIn_d58 rfl (pr_stat (vs := [_, _, _, _]) lc_14_75 lT_466 rfl rfl (by decide) rfl (Nat.le_of_ble_eq_true rfl) (Nat.le_of_ble_eq_true rfl)) (f_MPlaceRows_blockX_ok (dep := dep + 0) hM h) rfl ?_
  intro x2 h
  replace h := hQ2 _ h
  obtain ⟨Q3, hQ3, h⟩ := bd1_ed h
  refine iq_cpI hS 64 J_MPlaceRows_darkIn_d61 rfl (pr_stat (vs := [_, _]) lc_14_88 lT_467 rfl rfl (by decide) rfl (Nat.le_of_ble_eq_true rfl) (Nat.le_of_ble_eq_true rfl)) (f_MPlaceRows_least_ok (dep := dep + 0) hM h) rfl ?_
  intro x3 h
  replace h := hQ3 _ h
  refine iq_istore hS 66 J_MPlaceRows_darkIn_d64 (by decide) rfl ?_
  refine iq_iload hS 68 J_MPlaceRows_darkIn_d66 (lk_1i (lk_1i (lk_1i (lk_1i l5 (by decide)) (by decide)) (by decide)) (by decide)) rfl ?_
  refine iq_iload hS 70 J_MPlaceRows_darkIn_d68 (lk_1i (lk_1i (lk_1i lk_1s (by decide)) (by decide)) (by decide)) rfl ?_
  refine iq_iload hS 72 J_MPlaceRows_darkIn_d70 (lk_1i (lk_1i lk_1s (by decide)) (by decide)) rfl ?_
  refine iq_iload hS 74 J_MPlaceRows_darkIn_d72 (lk_1i (lk_1i (lk_1i (lk_1i l6 (by decide)) (by decide)) (by decide)) (by decide)) rfl ?_
  obtain ⟨Q4, hQ4, h⟩ := bd1_ed h
  refine iq_cpI hS 77 J_MPlaceRows_darkIn_d74 rfl (pr_stat (vs := [_, _, _, _]) lc_14_78 lT_468 rfl rfl (by decide) rfl (Nat.le_of_ble_eq_true rfl) (Nat.le_of_ble_eq_true rfl)) (f_MPlaceRows_blockY_ok (dep := dep + 0) hM h) rfl ?_
  intro x4 h
  replace h := hQ4 _ h
  refine iq_iload hS 79 J_MPlaceRows_darkIn_d77 (lk_1i (lk_1i (lk_1i (lk_1i l5 (by decide)) (by decide)) (by decide)) (by decide)) rfl ?_
  refine iq_iload hS 81 J_MPlaceRows_darkIn_d79 (lk_1i lk_1s (by decide)) rfl ?_
  refine iq_iload hS 83 J_MPlaceRows_darkIn_d81 (lk_1i (lk_1i lk_1s (by decide)) (by decide)) rfl ?_
  refine iq_iload hS 85 J_MPlaceRows_darkIn_d83 (lk_1i (lk_1i (lk_1i (lk_1i l6 (by decide)) (by decide)) (by decide)) (by decide)) rfl ?_
  obtain ⟨Q5, hQ5, h⟩ := bd1_ed h
  refine iq_cpI hS 88 J_MPlaceRows_darkIn_d85 rfl (pr_stat (vs := [_, _, _, _]) lc_14_78 lT_468 rfl rfl (by decide) rfl (Nat.le_of_ble_eq_true rfl) (Nat.le_of_ble_eq_true rfl)) (f_MPlaceRows_blockY_ok (dep := dep + 0) hM h) rfl ?_
  intro x5 h
  replace h := hQ5 _ h
  obtain ⟨Q6, hQ6, h⟩ := bd1_ed h
  refine iq_cpI hS 91 J_MPlaceRows_darkIn_d88 rfl (pr_stat (vs := [_, _]) lc_14_88 lT_467 rfl rfl (by decide) rfl (Nat.le_of_ble_eq_true rfl) (Nat.le_of_ble_eq_true rfl)) (f_MPlaceRows_least_ok (dep := dep + 0) hM h) rfl ?_
  intro x6 h
  replace h := hQ6 _ h
  refine iq_istore hS 93 J_MPlaceRows_darkIn_d91 (by decide) rfl ?_
  refine iq_iload hS 95 J_MPlaceRows_darkIn_d93 (lk_1i (lk_1i (lk_1i (lk_1i (lk_1i l6 (by decide)) (by decide)) (by decide)) (by decide)) (by decide)) rfl ?_
  refine iq_iconst hS 96 J_MPlaceRows_darkIn_d95 (v := 2) (by decide +kernel) rfl ?_
  refine iq_irem hS 97 J_MPlaceRows_darkIn_d96 (by decide) rfl ?_
  obtain ⟨Q7, hQ7, h⟩ := bd1_ed h
  have J7 : ∀ (y8 : Int32) (L' : List (Nat × Value)), im_lk L' 0 = some (.ref 130) → im_lk L' 1 = some (.int p0) → im_lk L' 2 = some (.int p1) → im_lk L' 3 = some (.int p2) → im_lk L' 4 = some (.int p3) → im_lk L' 6 = some (.int p5) → im_lk L' 10 = some (.int x3) → im_lk L' 11 = some (.int x6) → Q7 y8 → ia (tb_G L xs) (dep + 1) J_MPlaceRows_darkIn (rpI M Q) (114, L', [.int y8], M) := by
    intro y8 L' l9 l10 l11 l12 l13 l14 l15 l16 h
    replace h := hQ7 _ h
    refine iq_istore hS 116 J_MPlaceRows_darkIn_d114 (by decide) rfl ?_
    refine iq_iload hS 118 J_MPlaceRows_darkIn_d116 (lk_1i l14 (by decide)) rfl ?_
    refine iq_iconst hS 119 J_MPlaceRows_darkIn_d118 (v := 2) (by decide +kernel) rfl ?_
    refine iq_irem hS 120 J_MPlaceRows_darkIn_d119 (by decide) rfl ?_
    obtain ⟨Q17, hQ17, h⟩ := bd1_ed h
    have J17 : ∀ (y18 : Int32) (L' : List (Nat × Value)), im_lk L' 0 = some (.ref 130) → im_lk L' 2 = some (.int p1) → im_lk L' 3 = some (.int p2) → im_lk L' 4 = some (.int p3) → im_lk L' 10 = some (.int x3) → im_lk L' 11 = some (.int x6) → im_lk L' 12 = some (.int y8) → Q17 y18 → ia (tb_G L xs) (dep + 1) J_MPlaceRows_darkIn (rpI M Q) (137, L', [.int y18], M) := by
      intro y18 L' l19 l20 l21 l22 l23 l24 l25 h
      replace h := hQ17 _ h
      refine iq_istore hS 139 J_MPlaceRows_darkIn_d137 (by decide) rfl ?_
      refine iq_sipush hS 142 J_MPlaceRows_darkIn_d139 (v := 513) (by decide +kernel) rfl ?_
      refine iq_iload_n hS 143 J_MPlaceRows_darkIn_d142 (lk_1i l21 (by decide)) rfl ?_
      refine iq_iload hS 145 J_MPlaceRows_darkIn_d143 (lk_1i l22 (by decide)) rfl ?_
      refine iq_iload hS 147 J_MPlaceRows_darkIn_d145 (lk_1i l24 (by decide)) rfl ?_
      refine iq_imul hS 148 J_MPlaceRows_darkIn_d147 rfl ?_
      refine iq_iadd hS 149 J_MPlaceRows_darkIn_d148 rfl ?_
      refine iq_imul hS 150 J_MPlaceRows_darkIn_d149 rfl ?_
      refine iq_iload_n hS 151 J_MPlaceRows_darkIn_d150 (lk_1i l20 (by decide)) rfl ?_
      refine iq_iadd hS 152 J_MPlaceRows_darkIn_d151 rfl ?_
      refine iq_iload hS 154 J_MPlaceRows_darkIn_d152 (lk_1i l22 (by decide)) rfl ?_
      refine iq_iload hS 156 J_MPlaceRows_darkIn_d154 (lk_1i l23 (by decide)) rfl ?_
      refine iq_imul hS 157 J_MPlaceRows_darkIn_d156 rfl ?_
      refine iq_iadd hS 158 J_MPlaceRows_darkIn_d157 rfl ?_
      refine iq_istore hS 160 J_MPlaceRows_darkIn_d158 (by decide) rfl ?_
      refine iq_iload hS 162 J_MPlaceRows_darkIn_d160 lk_1s rfl ?_
      refine iq_sipush hS 165 J_MPlaceRows_darkIn_d162 (v := 513) (by decide +kernel) rfl ?_
      refine iq_iload hS 167 J_MPlaceRows_darkIn_d165 (lk_1i (lk_1i l22 (by decide)) (by decide)) rfl ?_
      refine iq_imul hS 168 J_MPlaceRows_darkIn_d167 rfl ?_
      refine iq_iload hS 170 J_MPlaceRows_darkIn_d168 (lk_1i lk_1s (by decide)) rfl ?_
      refine iq_imul hS 171 J_MPlaceRows_darkIn_d170 rfl ?_
      refine iq_iadd hS 172 J_MPlaceRows_darkIn_d171 rfl ?_
      refine iq_istore hS 174 J_MPlaceRows_darkIn_d172 (by decide) rfl ?_
      refine iq_aload_n hS 175 J_MPlaceRows_darkIn_d174 (lk_1r (lk_1r (lk_1r l19 (by decide)) (by decide)) (by decide)) rfl ?_
      refine iq_getR hS 178 J_MPlaceRows_darkIn_d175 lf_14_22 (Or.inr ⟨_, rfl⟩) (ka_130 hM) (ra_130_4 hM) rfl ?_
      refine iq_iload hS 180 J_MPlaceRows_darkIn_d178 lk_1s rfl ?_
      refine iq_iload hS 182 J_MPlaceRows_darkIn_d180 (lk_1i (lk_1i (lk_1i l22 (by decide)) (by decide)) (by decide)) rfl ?_
      refine iq_iload hS 184 J_MPlaceRows_darkIn_d182 (lk_1i (lk_1i (lk_1i l25 (by decide)) (by decide)) (by decide)) rfl ?_
      refine iq_imul hS 185 J_MPlaceRows_darkIn_d184 rfl ?_
      refine iq_iadd hS 186 J_MPlaceRows_darkIn_d185 rfl ?_
      obtain ⟨g186, h⟩ := ed_gd h
      refine iq_iaload hS 187 J_MPlaceRows_darkIn_d186 ⟨(ka_132 hM).1, (ka_132 hM).2, g186.1, ix_lt (kl_132 hM) g186.2⟩ rfl ?_
      refine iq_aload_n hS 188 J_MPlaceRows_darkIn_d187 (lk_1r (lk_1r (lk_1r l19 (by decide)) (by decide)) (by decide)) rfl ?_
      refine iq_getR hS 191 J_MPlaceRows_darkIn_d188 lf_14_22 (Or.inr ⟨_, rfl⟩) (ka_130 hM) (ra_130_4 hM) rfl ?_
      refine iq_iload hS 193 J_MPlaceRows_darkIn_d191 lk_1s rfl ?_
      obtain ⟨g193, h⟩ := ed_gd h
      refine iq_iaload hS 194 J_MPlaceRows_darkIn_d193 ⟨(ka_132 hM).1, (ka_132 hM).2, g193.1, ix_lt (kl_132 hM) g193.2⟩ rfl ?_
      refine iq_isub hS 195 J_MPlaceRows_darkIn_d194 rfl ?_
      refine iq_aload_n hS 196 J_MPlaceRows_darkIn_d195 (lk_1r (lk_1r (lk_1r l19 (by decide)) (by decide)) (by decide)) rfl ?_
      refine iq_getR hS 199 J_MPlaceRows_darkIn_d196 lf_14_22 (Or.inr ⟨_, rfl⟩) (ka_130 hM) (ra_130_4 hM) rfl ?_
      refine iq_iload hS 201 J_MPlaceRows_darkIn_d199 (lk_1i lk_1s (by decide)) rfl ?_
      refine iq_iload hS 203 J_MPlaceRows_darkIn_d201 (lk_1i (lk_1i (lk_1i l22 (by decide)) (by decide)) (by decide)) rfl ?_
      refine iq_iload hS 205 J_MPlaceRows_darkIn_d203 (lk_1i (lk_1i (lk_1i l25 (by decide)) (by decide)) (by decide)) rfl ?_
      refine iq_imul hS 206 J_MPlaceRows_darkIn_d205 rfl ?_
      refine iq_iadd hS 207 J_MPlaceRows_darkIn_d206 rfl ?_
      obtain ⟨g207, h⟩ := ed_gd h
      refine iq_iaload hS 208 J_MPlaceRows_darkIn_d207 ⟨(ka_132 hM).1, (ka_132 hM).2, g207.1, ix_lt (kl_132 hM) g207.2⟩ rfl ?_
      refine iq_isub hS 209 J_MPlaceRows_darkIn_d208 rfl ?_
      refine iq_aload_n hS 210 J_MPlaceRows_darkIn_d209 (lk_1r (lk_1r (lk_1r l19 (by decide)) (by decide)) (by decide)) rfl ?_
      refine iq_getR hS 213 J_MPlaceRows_darkIn_d210 lf_14_22 (Or.inr ⟨_, rfl⟩) (ka_130 hM) (ra_130_4 hM) rfl ?_
      refine iq_iload hS 215 J_MPlaceRows_darkIn_d213 (lk_1i lk_1s (by decide)) rfl ?_
      obtain ⟨g215, h⟩ := ed_gd h
      refine iq_iaload hS 216 J_MPlaceRows_darkIn_d215 ⟨(ka_132 hM).1, (ka_132 hM).2, g215.1, ix_lt (kl_132 hM) g215.2⟩ rfl ?_
      refine iq_iadd hS 217 J_MPlaceRows_darkIn_d216 rfl ?_
      exact iq_iret J_MPlaceRows_darkIn_d217 rfl rfl ⟨_, rfl, rfl, ed_some h⟩
    refine iq_if_ne hS 123 J_MPlaceRows_darkIn_d120 (t := 127) rfl (fun q120 => ?_) rfl (fun q120 => ?_)
    · replace h := ed_pos q120 h
      refine iq_aload_n hS 128 J_MPlaceRows_darkIn_d127 (lk_1r l9 (by decide)) rfl ?_
      refine iq_getR hS 131 J_MPlaceRows_darkIn_d128 lf_14_26 (Or.inr ⟨_, rfl⟩) (ka_130 hM) (ra_130_5 hM) rfl ?_
      refine iq_iconst hS 132 J_MPlaceRows_darkIn_d131 (v := 4) (by decide +kernel) rfl ?_
      refine iq_iload_n hS 133 J_MPlaceRows_darkIn_d132 (lk_1i l10 (by decide)) rfl ?_
      refine iq_imul hS 134 J_MPlaceRows_darkIn_d133 rfl ?_
      refine iq_iconst hS 135 J_MPlaceRows_darkIn_d134 (v := 2) (by decide +kernel) rfl ?_
      refine iq_iadd hS 136 J_MPlaceRows_darkIn_d135 rfl ?_
      obtain ⟨g136, h⟩ := ed_gd h
      refine iq_iaload hS 137 J_MPlaceRows_darkIn_d136 ⟨(ka_133 hM).1, (ka_133 hM).2, g136.1, ix_lt (kl_133 hM) g136.2⟩ rfl ?_
      exact J17 _ _ (lk_1r l9 (by decide)) (lk_1i l11 (by decide)) (lk_1i l12 (by decide)) (lk_1i l13 (by decide)) (lk_1i l15 (by decide)) (lk_1i l16 (by decide)) lk_1s (ed_some h)
    · replace h := ed_neg q120 h
      refine iq_iconst hS 124 J_MPlaceRows_darkIn_d123 (v := 1) (by decide +kernel) rfl ?_
      refine iq_goto hS J_MPlaceRows_darkIn_d124 (t := 137) rfl ?_
      exact J17 _ _ (lk_1r l9 (by decide)) (lk_1i l11 (by decide)) (lk_1i l12 (by decide)) (lk_1i l13 (by decide)) (lk_1i l15 (by decide)) (lk_1i l16 (by decide)) lk_1s (ed_some h)
  refine iq_if_ne hS 100 J_MPlaceRows_darkIn_d97 (t := 113) rfl (fun q97 => ?_) rfl (fun q97 => ?_)
  · replace h := ed_pos q97 h
    refine iq_iconst hS 114 J_MPlaceRows_darkIn_d113 (v := 1) (by decide +kernel) rfl ?_
    exact J7 _ _ (lk_1r (lk_1r (lk_1r (lk_1r (lk_1r l0 (by decide)) (by decide)) (by decide)) (by decide)) (by decide)) (lk_1i (lk_1i (lk_1i (lk_1i (lk_1i l1 (by decide)) (by decide)) (by decide)) (by decide)) (by decide)) (lk_1i (lk_1i (lk_1i (lk_1i (lk_1i l2 (by decide)) (by decide)) (by decide)) (by decide)) (by decide)) (lk_1i (lk_1i (lk_1i (lk_1i (lk_1i l3 (by decide)) (by decide)) (by decide)) (by decide)) (by decide)) (lk_1i (lk_1i (lk_1i (lk_1i (lk_1i l4 (by decide)) (by decide)) (by decide)) (by decide)) (by decide)) (lk_1i (lk_1i (lk_1i (lk_1i (lk_1i l6 (by decide)) (by decide)) (by decide)) (by decide)) (by decide)) (lk_1i lk_1s (by decide)) lk_1s (ed_some h)
  · replace h := ed_neg q97 h
    refine iq_aload_n hS 101 J_MPlaceRows_darkIn_d100 (lk_1r (lk_1r (lk_1r (lk_1r (lk_1r l0 (by decide)) (by decide)) (by decide)) (by decide)) (by decide)) rfl ?_
    refine iq_getR hS 104 J_MPlaceRows_darkIn_d101 lf_14_26 (Or.inr ⟨_, rfl⟩) (ka_130 hM) (ra_130_5 hM) rfl ?_
    refine iq_iconst hS 105 J_MPlaceRows_darkIn_d104 (v := 4) (by decide +kernel) rfl ?_
    refine iq_iload_n hS 106 J_MPlaceRows_darkIn_d105 (lk_1i (lk_1i (lk_1i (lk_1i (lk_1i l1 (by decide)) (by decide)) (by decide)) (by decide)) (by decide)) rfl ?_
    refine iq_imul hS 107 J_MPlaceRows_darkIn_d106 rfl ?_
    refine iq_iconst hS 108 J_MPlaceRows_darkIn_d107 (v := 2) (by decide +kernel) rfl ?_
    refine iq_iadd hS 109 J_MPlaceRows_darkIn_d108 rfl ?_
    obtain ⟨g109, h⟩ := ed_gd h
    refine iq_iaload hS 110 J_MPlaceRows_darkIn_d109 ⟨(ka_133 hM).1, (ka_133 hM).2, g109.1, ix_lt (kl_133 hM) g109.2⟩ rfl ?_
    refine iq_goto hS J_MPlaceRows_darkIn_d110 (t := 114) rfl ?_
    exact J7 _ _ (lk_1r (lk_1r (lk_1r (lk_1r (lk_1r l0 (by decide)) (by decide)) (by decide)) (by decide)) (by decide)) (lk_1i (lk_1i (lk_1i (lk_1i (lk_1i l1 (by decide)) (by decide)) (by decide)) (by decide)) (by decide)) (lk_1i (lk_1i (lk_1i (lk_1i (lk_1i l2 (by decide)) (by decide)) (by decide)) (by decide)) (by decide)) (lk_1i (lk_1i (lk_1i (lk_1i (lk_1i l3 (by decide)) (by decide)) (by decide)) (by decide)) (by decide)) (lk_1i (lk_1i (lk_1i (lk_1i (lk_1i l4 (by decide)) (by decide)) (by decide)) (by decide)) (by decide)) (lk_1i (lk_1i (lk_1i (lk_1i (lk_1i l6 (by decide)) (by decide)) (by decide)) (by decide)) (by decide)) (lk_1i lk_1s (by decide)) lk_1s (ed_some h)
noncomputable def f_MPlaceRows_wrong_L13 (v3 : Int32) (v4 : Int32) (v5 : Int32) (v6 : Int32) (v7 : Int32) (v8 : Int32) (M11 : im_M) (x9 : Int32) (x10 : Int32) : Option ((Int32 × Int32) ⊕ (Int32)) := if (im_i M11 130 6) ≤ x10 then some (.inr x9) else if v7 < x9 then some (.inr x9) else bd1 (f_MPlaceRows_darkIn x10 v3 v4 v5 v8 v6 M11) fun (x12 : Int32) => gd (inb (((4 : Int32) * x10) + 3) 2100) <| bd1 (if ¬ (im_i M11 133 (Int32.toNatClampNeg (((4 : Int32) * x10) + 3))) = 1 then some x12 else gd (inb (((4 : Int32) * x10) + 2) 2100) <| some (((v5 * v5) * (im_i M11 133 (Int32.toNatClampNeg (((4 : Int32) * x10) + 2)))) - x12)) fun (y14 : Int32) => some (.inl ((x9 + y14), (x10 + 1)))
noncomputable def f_MPlaceRows_wrong (p0 : Int32) (p1 : Int32) (p2 : Int32) (p3 : Int32) (p4 : Int32) (p5 : Int32) (M : im_M) : Option (Int32) := bd1 (f_MPlaceRows_side p3 M) fun (x1 : Int32) => bd1 (lp (uc2 (f_MPlaceRows_wrong_L13 p0 p1 p2 p4 p5 x1 M)) (0, 0)) fun (y23 : Int32) => some y23
theorem J_MPlaceRows_wrong_d0 : decode J_MPlaceRows_wrong.2.1 0 = .ok (.iload 4, 2) := by decide +kernel
theorem J_MPlaceRows_wrong_d2 : decode J_MPlaceRows_wrong.2.1 2 = .ok (.invokestatic 59, 3) := by decide +kernel
theorem J_MPlaceRows_wrong_d5 : decode J_MPlaceRows_wrong.2.1 5 = .ok (.istore 7, 2) := by decide +kernel
theorem J_MPlaceRows_wrong_d7 : decode J_MPlaceRows_wrong.2.1 7 = .ok (.iconst 0, 1) := by decide +kernel
theorem J_MPlaceRows_wrong_d8 : decode J_MPlaceRows_wrong.2.1 8 = .ok (.istore 8, 2) := by decide +kernel
theorem J_MPlaceRows_wrong_d10 : decode J_MPlaceRows_wrong.2.1 10 = .ok (.iconst 0, 1) := by decide +kernel
theorem J_MPlaceRows_wrong_d11 : decode J_MPlaceRows_wrong.2.1 11 = .ok (.istore 9, 2) := by decide +kernel
theorem J_MPlaceRows_wrong_d13 : decode J_MPlaceRows_wrong.2.1 13 = .ok (.iload 9, 2) := by decide +kernel
theorem J_MPlaceRows_wrong_d15 : decode J_MPlaceRows_wrong.2.1 15 = .ok (.aload_n 0, 1) := by decide +kernel
theorem J_MPlaceRows_wrong_d16 : decode J_MPlaceRows_wrong.2.1 16 = .ok (.getfield 85, 3) := by decide +kernel
theorem J_MPlaceRows_wrong_d19 : decode J_MPlaceRows_wrong.2.1 19 = .ok (.if_icmp .ge 74, 3) := by decide +kernel
theorem J_MPlaceRows_wrong_d22 : decode J_MPlaceRows_wrong.2.1 22 = .ok (.iload 8, 2) := by decide +kernel
theorem J_MPlaceRows_wrong_d24 : decode J_MPlaceRows_wrong.2.1 24 = .ok (.iload 6, 2) := by decide +kernel
theorem J_MPlaceRows_wrong_d26 : decode J_MPlaceRows_wrong.2.1 26 = .ok (.if_icmp .gt 67, 3) := by decide +kernel
theorem J_MPlaceRows_wrong_d29 : decode J_MPlaceRows_wrong.2.1 29 = .ok (.aload_n 0, 1) := by decide +kernel
theorem J_MPlaceRows_wrong_d30 : decode J_MPlaceRows_wrong.2.1 30 = .ok (.iload 9, 2) := by decide +kernel
theorem J_MPlaceRows_wrong_d32 : decode J_MPlaceRows_wrong.2.1 32 = .ok (.iload_n 1, 1) := by decide +kernel
theorem J_MPlaceRows_wrong_d33 : decode J_MPlaceRows_wrong.2.1 33 = .ok (.iload_n 2, 1) := by decide +kernel
theorem J_MPlaceRows_wrong_d34 : decode J_MPlaceRows_wrong.2.1 34 = .ok (.iload_n 3, 1) := by decide +kernel
theorem J_MPlaceRows_wrong_d35 : decode J_MPlaceRows_wrong.2.1 35 = .ok (.iload 7, 2) := by decide +kernel
theorem J_MPlaceRows_wrong_d37 : decode J_MPlaceRows_wrong.2.1 37 = .ok (.iload 5, 2) := by decide +kernel
theorem J_MPlaceRows_wrong_d39 : decode J_MPlaceRows_wrong.2.1 39 = .ok (.invokevirtual 91, 3) := by decide +kernel
theorem J_MPlaceRows_wrong_d42 : decode J_MPlaceRows_wrong.2.1 42 = .ok (.istore 10, 2) := by decide +kernel
theorem J_MPlaceRows_wrong_d44 : decode J_MPlaceRows_wrong.2.1 44 = .ok (.iload 8, 2) := by decide +kernel
theorem J_MPlaceRows_wrong_d46 : decode J_MPlaceRows_wrong.2.1 46 = .ok (.aload_n 0, 1) := by decide +kernel
theorem J_MPlaceRows_wrong_d47 : decode J_MPlaceRows_wrong.2.1 47 = .ok (.getfield 26, 3) := by decide +kernel
theorem J_MPlaceRows_wrong_d50 : decode J_MPlaceRows_wrong.2.1 50 = .ok (.iconst 4, 1) := by decide +kernel
theorem J_MPlaceRows_wrong_d51 : decode J_MPlaceRows_wrong.2.1 51 = .ok (.iload 9, 2) := by decide +kernel
theorem J_MPlaceRows_wrong_d53 : decode J_MPlaceRows_wrong.2.1 53 = .ok (.imul, 1) := by decide +kernel
theorem J_MPlaceRows_wrong_d54 : decode J_MPlaceRows_wrong.2.1 54 = .ok (.iconst 3, 1) := by decide +kernel
theorem J_MPlaceRows_wrong_d55 : decode J_MPlaceRows_wrong.2.1 55 = .ok (.iadd, 1) := by decide +kernel
theorem J_MPlaceRows_wrong_d56 : decode J_MPlaceRows_wrong.2.1 56 = .ok (.iaload, 1) := by decide +kernel
theorem J_MPlaceRows_wrong_d57 : decode J_MPlaceRows_wrong.2.1 57 = .ok (.iconst 1, 1) := by decide +kernel
theorem J_MPlaceRows_wrong_d58 : decode J_MPlaceRows_wrong.2.1 58 = .ok (.if_icmp .ne 24, 3) := by decide +kernel
theorem J_MPlaceRows_wrong_d61 : decode J_MPlaceRows_wrong.2.1 61 = .ok (.iload_n 3, 1) := by decide +kernel
theorem J_MPlaceRows_wrong_d62 : decode J_MPlaceRows_wrong.2.1 62 = .ok (.iload_n 3, 1) := by decide +kernel
theorem J_MPlaceRows_wrong_d63 : decode J_MPlaceRows_wrong.2.1 63 = .ok (.imul, 1) := by decide +kernel
theorem J_MPlaceRows_wrong_d64 : decode J_MPlaceRows_wrong.2.1 64 = .ok (.aload_n 0, 1) := by decide +kernel
theorem J_MPlaceRows_wrong_d65 : decode J_MPlaceRows_wrong.2.1 65 = .ok (.getfield 26, 3) := by decide +kernel
theorem J_MPlaceRows_wrong_d68 : decode J_MPlaceRows_wrong.2.1 68 = .ok (.iconst 4, 1) := by decide +kernel
theorem J_MPlaceRows_wrong_d69 : decode J_MPlaceRows_wrong.2.1 69 = .ok (.iload 9, 2) := by decide +kernel
theorem J_MPlaceRows_wrong_d71 : decode J_MPlaceRows_wrong.2.1 71 = .ok (.imul, 1) := by decide +kernel
theorem J_MPlaceRows_wrong_d72 : decode J_MPlaceRows_wrong.2.1 72 = .ok (.iconst 2, 1) := by decide +kernel
theorem J_MPlaceRows_wrong_d73 : decode J_MPlaceRows_wrong.2.1 73 = .ok (.iadd, 1) := by decide +kernel
theorem J_MPlaceRows_wrong_d74 : decode J_MPlaceRows_wrong.2.1 74 = .ok (.iaload, 1) := by decide +kernel
theorem J_MPlaceRows_wrong_d75 : decode J_MPlaceRows_wrong.2.1 75 = .ok (.imul, 1) := by decide +kernel
theorem J_MPlaceRows_wrong_d76 : decode J_MPlaceRows_wrong.2.1 76 = .ok (.iload 10, 2) := by decide +kernel
theorem J_MPlaceRows_wrong_d78 : decode J_MPlaceRows_wrong.2.1 78 = .ok (.isub, 1) := by decide +kernel
theorem J_MPlaceRows_wrong_d79 : decode J_MPlaceRows_wrong.2.1 79 = .ok (.goto 5, 3) := by decide +kernel
theorem J_MPlaceRows_wrong_d82 : decode J_MPlaceRows_wrong.2.1 82 = .ok (.iload 10, 2) := by decide +kernel
theorem J_MPlaceRows_wrong_d84 : decode J_MPlaceRows_wrong.2.1 84 = .ok (.iadd, 1) := by decide +kernel
theorem J_MPlaceRows_wrong_d85 : decode J_MPlaceRows_wrong.2.1 85 = .ok (.istore 8, 2) := by decide +kernel
theorem J_MPlaceRows_wrong_d87 : decode J_MPlaceRows_wrong.2.1 87 = .ok (.iinc 9 1, 3) := by decide +kernel
theorem J_MPlaceRows_wrong_d90 : decode J_MPlaceRows_wrong.2.1 90 = .ok (.goto (-77), 3) := by decide +kernel
theorem J_MPlaceRows_wrong_d93 : decode J_MPlaceRows_wrong.2.1 93 = .ok (.iload 8, 2) := by decide +kernel
theorem J_MPlaceRows_wrong_d95 : decode J_MPlaceRows_wrong.2.1 95 = .ok (.ireturn, 1) := by decide +kernel
theorem f_MPlaceRows_wrong_ok {L : Nat} {xs : Nat → Int32} {dep : Nat} {w : Bool} {p0 : Int32} {p1 : Int32} {p2 : Int32} {p3 : Int32} {p4 : Int32} {p5 : Int32} {M : im_M} {Q : Int32 → Prop} (hM : lw_S w M) (h : ed (f_MPlaceRows_wrong p0 p1 p2 p3 p4 p5 M) Q) : ia (tb_G L xs) (dep + 2) J_MPlaceRows_wrong (rpI M Q) (0, lv_args 0 [.ref 130, .int p0, .int p1, .int p2, .int p3, .int p4, .int p5], [], M) := by
  have hS : im_St (tb_G L xs) (dep + 2) J_MPlaceRows_wrong (ia (tb_G L xs) (dep + 2) J_MPlaceRows_wrong (rpI M Q)) := ia_St
  unfold f_MPlaceRows_wrong at h
  have l0 : im_lk (lv_args 0 [.ref 130, .int p0, .int p1, .int p2, .int p3, .int p4, .int p5]) 0 = some (.ref 130) := rfl
  have l1 : im_lk (lv_args 0 [.ref 130, .int p0, .int p1, .int p2, .int p3, .int p4, .int p5]) 1 = some (.int p0) := rfl
  have l2 : im_lk (lv_args 0 [.ref 130, .int p0, .int p1, .int p2, .int p3, .int p4, .int p5]) 2 = some (.int p1) := rfl
  have l3 : im_lk (lv_args 0 [.ref 130, .int p0, .int p1, .int p2, .int p3, .int p4, .int p5]) 3 = some (.int p2) := rfl
  have l4 : im_lk (lv_args 0 [.ref 130, .int p0, .int p1, .int p2, .int p3, .int p4, .int p5]) 4 = some (.int p3) := rfl
  have l5 : im_lk (lv_args 0 [.ref 130, .int p0, .int p1, .int p2, .int p3, .int p4, .int p5]) 5 = some (.int p4) := rfl
  have l6 : im_lk (lv_args 0 [.ref 130, .int p0, .int p1, .int p2, .int p3, .int p4, .int p5]) 6 = some (.int p5) := rfl
  refine iq_iload hS 2 J_MPlaceRows_wrong_d0 l4 rfl ?_
  obtain ⟨Q1, hQ1, h⟩ := bd1_ed h
  refine iq_cpI hS 5 J_MPlaceRows_wrong_d2 rfl (pr_stat (vs := [_]) lc_14_59 lT_458 rfl rfl (by decide) rfl (Nat.le_of_ble_eq_true rfl) (Nat.le_of_ble_eq_true rfl)) (f_MPlaceRows_side_ok (dep := dep + 1) hM h) rfl ?_
  intro x1 h
  replace h := hQ1 _ h
  refine iq_istore hS 7 J_MPlaceRows_wrong_d5 (by decide) rfl ?_
  refine iq_iconst hS 8 J_MPlaceRows_wrong_d7 (v := 0) (by decide +kernel) rfl ?_
  refine iq_istore hS 10 J_MPlaceRows_wrong_d8 (by decide) rfl ?_
  refine iq_iconst hS 11 J_MPlaceRows_wrong_d10 (v := 0) (by decide +kernel) rfl ?_
  refine iq_istore hS 13 J_MPlaceRows_wrong_d11 (by decide) rfl ?_
  obtain ⟨Q2, hQ2, h⟩ := bd1_ed h
  have K2 : ∀ (y3 : Int32) (L' : List (Nat × Value)), im_lk L' 8 = some (.int y3) → Q2 y3 → ia (tb_G L xs) (dep + 2) J_MPlaceRows_wrong (rpI M Q) (93, L', [], M) := by
    intro y3 L' l4 h
    replace h := hQ2 _ h
    refine iq_iload hS 95 J_MPlaceRows_wrong_d93 l4 rfl ?_
    exact iq_iret J_MPlaceRows_wrong_d95 rfl rfl ⟨_, rfl, rfl, ed_some h⟩
  obtain ⟨r2, hr2, hq2⟩ := h
  obtain ⟨n2, hn2⟩ := lp_n hr2
  have I2 : ∀ (n : Nat) (x5 : Int32) (x6 : Int32) (L' : List (Nat × Value)), im_lk L' 0 = some (.ref 130) → im_lk L' 1 = some (.int p0) → im_lk L' 2 = some (.int p1) → im_lk L' 3 = some (.int p2) → im_lk L' 5 = some (.int p4) → im_lk L' 6 = some (.int p5) → im_lk L' 7 = some (.int x1) → im_lk L' 8 = some (.int x5) → im_lk L' 9 = some (.int x6) → lpn (uc2 (f_MPlaceRows_wrong_L13 p0 p1 p2 p4 p5 x1 M)) n (x5, x6) = some r2 → ia (tb_G L xs) (dep + 2) J_MPlaceRows_wrong (rpI M Q) (13, L', [], M) := by
    intro n
    induction n with
    | zero => intro x5 x6 L' l7 l8 l9 l10 l11 l12 l13 l14 l15 hn; exact (lpn_0 hn).elim
    | succ n ih =>
      intro x5 x6 L' l7 l8 l9 l10 l11 l12 l13 l14 l15 hn
      have h := lpn_ed2 hn
      unfold f_MPlaceRows_wrong_L13 at h
      refine iq_iload hS 15 J_MPlaceRows_wrong_d13 l15 rfl ?_
      refine iq_aload_n hS 16 J_MPlaceRows_wrong_d15 l7 rfl ?_
      refine iq_getI hS 19 J_MPlaceRows_wrong_d16 lf_14_85 (Or.inl rfl) (ka_130 hM) rfl ?_
      refine iq_icmp_ge hS 22 J_MPlaceRows_wrong_d19 (t := 93) rfl (fun q19 => ?_) rfl (fun q19 => ?_)
      · replace h := ed_pos q19 h
        exact K2 _ _ l14 (lq_r h hq2)
      · replace h := ed_neg q19 h
        refine iq_iload hS 24 J_MPlaceRows_wrong_d22 l14 rfl ?_
        refine iq_iload hS 26 J_MPlaceRows_wrong_d24 l12 rfl ?_
        refine iq_icmp_gt hS 29 J_MPlaceRows_wrong_d26 (t := 93) rfl (fun q26 => ?_) rfl (fun q26 => ?_)
        · replace h := ed_pos q26 h
          exact K2 _ _ l14 (lq_r h hq2)
        · replace h := ed_neg q26 h
          refine iq_aload_n hS 30 J_MPlaceRows_wrong_d29 l7 rfl ?_
          refine iq_iload hS 32 J_MPlaceRows_wrong_d30 l15 rfl ?_
          refine iq_iload_n hS 33 J_MPlaceRows_wrong_d32 l8 rfl ?_
          refine iq_iload_n hS 34 J_MPlaceRows_wrong_d33 l9 rfl ?_
          refine iq_iload_n hS 35 J_MPlaceRows_wrong_d34 l10 rfl ?_
          refine iq_iload hS 37 J_MPlaceRows_wrong_d35 l13 rfl ?_
          refine iq_iload hS 39 J_MPlaceRows_wrong_d37 l11 rfl ?_
          obtain ⟨Q16, hQ16, h⟩ := bd1_ed h
          refine iq_cpI hS 42 J_MPlaceRows_wrong_d39 rfl (pr_inst (vs := [_, _, _, _, _, _]) lc_14_91 lT_465 rfl rfl (by decide) (by decide) rfl (Nat.le_of_ble_eq_true rfl) (Nat.le_of_ble_eq_true rfl) (fun _ => Or.inl (pr_b (ka_130 hM) (by decide) rfl))) (f_MPlaceRows_darkIn_ok (dep := dep + 0) hM h) rfl ?_
          intro x16 h
          replace h := hQ16 _ h
          refine iq_istore hS 44 J_MPlaceRows_wrong_d42 (by decide) rfl ?_
          refine iq_iload hS 46 J_MPlaceRows_wrong_d44 (lk_1i l14 (by decide)) rfl ?_
          refine iq_aload_n hS 47 J_MPlaceRows_wrong_d46 (lk_1r l7 (by decide)) rfl ?_
          refine iq_getR hS 50 J_MPlaceRows_wrong_d47 lf_14_26 (Or.inr ⟨_, rfl⟩) (ka_130 hM) (ra_130_5 hM) rfl ?_
          refine iq_iconst hS 51 J_MPlaceRows_wrong_d50 (v := 4) (by decide +kernel) rfl ?_
          refine iq_iload hS 53 J_MPlaceRows_wrong_d51 (lk_1i l15 (by decide)) rfl ?_
          refine iq_imul hS 54 J_MPlaceRows_wrong_d53 rfl ?_
          refine iq_iconst hS 55 J_MPlaceRows_wrong_d54 (v := 3) (by decide +kernel) rfl ?_
          refine iq_iadd hS 56 J_MPlaceRows_wrong_d55 rfl ?_
          obtain ⟨g56, h⟩ := ed_gd h
          refine iq_iaload hS 57 J_MPlaceRows_wrong_d56 ⟨(ka_133 hM).1, (ka_133 hM).2, g56.1, ix_lt (kl_133 hM) g56.2⟩ rfl ?_
          refine iq_iconst hS 58 J_MPlaceRows_wrong_d57 (v := 1) (by decide +kernel) rfl ?_
          obtain ⟨Q17, hQ17, h⟩ := bd1_ed h
          have J17 : ∀ (y18 : Int32) (L' : List (Nat × Value)), im_lk L' 0 = some (.ref 130) → im_lk L' 1 = some (.int p0) → im_lk L' 2 = some (.int p1) → im_lk L' 3 = some (.int p2) → im_lk L' 5 = some (.int p4) → im_lk L' 6 = some (.int p5) → im_lk L' 7 = some (.int x1) → im_lk L' 9 = some (.int x6) → Q17 y18 → ia (tb_G L xs) (dep + 2) J_MPlaceRows_wrong (rpI M Q) (84, L', [.int y18, .int x5], M) := by
            intro y18 L' l19 l20 l21 l22 l23 l24 l25 l26 h
            replace h := hQ17 _ h
            refine iq_iadd hS 85 J_MPlaceRows_wrong_d84 rfl ?_
            refine iq_istore hS 87 J_MPlaceRows_wrong_d85 (by decide) rfl ?_
            refine iq_iincv hS 90 J_MPlaceRows_wrong_d87 (c := 1) (by decide +kernel) (lk_1i l26 (by decide)) (by decide) rfl ?_
            refine iq_goto hS J_MPlaceRows_wrong_d90 (t := 13) rfl ?_
            exact ih _ _ _ (lk_1r (lk_1r l19 (by decide)) (by decide)) (lk_1i (lk_1i l20 (by decide)) (by decide)) (lk_1i (lk_1i l21 (by decide)) (by decide)) (lk_1i (lk_1i l22 (by decide)) (by decide)) (lk_1i (lk_1i l23 (by decide)) (by decide)) (lk_1i (lk_1i l24 (by decide)) (by decide)) (lk_1i (lk_1i l25 (by decide)) (by decide)) (lk_1i lk_1s (by decide)) lk_1s (lq_l h)
          refine iq_icmp_ne hS 61 J_MPlaceRows_wrong_d58 (t := 82) rfl (fun q58 => ?_) rfl (fun q58 => ?_)
          · replace h := ed_pos q58 h
            refine iq_iload hS 84 J_MPlaceRows_wrong_d82 lk_1s rfl ?_
            exact J17 _ _ (lk_1r l7 (by decide)) (lk_1i l8 (by decide)) (lk_1i l9 (by decide)) (lk_1i l10 (by decide)) (lk_1i l11 (by decide)) (lk_1i l12 (by decide)) (lk_1i l13 (by decide)) (lk_1i l15 (by decide)) (ed_some h)
          · replace h := ed_neg q58 h
            refine iq_iload_n hS 62 J_MPlaceRows_wrong_d61 (lk_1i l10 (by decide)) rfl ?_
            refine iq_iload_n hS 63 J_MPlaceRows_wrong_d62 (lk_1i l10 (by decide)) rfl ?_
            refine iq_imul hS 64 J_MPlaceRows_wrong_d63 rfl ?_
            refine iq_aload_n hS 65 J_MPlaceRows_wrong_d64 (lk_1r l7 (by decide)) rfl ?_
            refine iq_getR hS 68 J_MPlaceRows_wrong_d65 lf_14_26 (Or.inr ⟨_, rfl⟩) (ka_130 hM) (ra_130_5 hM) rfl ?_
            refine iq_iconst hS 69 J_MPlaceRows_wrong_d68 (v := 4) (by decide +kernel) rfl ?_
            refine iq_iload hS 71 J_MPlaceRows_wrong_d69 (lk_1i l15 (by decide)) rfl ?_
            refine iq_imul hS 72 J_MPlaceRows_wrong_d71 rfl ?_
            refine iq_iconst hS 73 J_MPlaceRows_wrong_d72 (v := 2) (by decide +kernel) rfl ?_
            refine iq_iadd hS 74 J_MPlaceRows_wrong_d73 rfl ?_
            obtain ⟨g74, h⟩ := ed_gd h
            refine iq_iaload hS 75 J_MPlaceRows_wrong_d74 ⟨(ka_133 hM).1, (ka_133 hM).2, g74.1, ix_lt (kl_133 hM) g74.2⟩ rfl ?_
            refine iq_imul hS 76 J_MPlaceRows_wrong_d75 rfl ?_
            refine iq_iload hS 78 J_MPlaceRows_wrong_d76 lk_1s rfl ?_
            refine iq_isub hS 79 J_MPlaceRows_wrong_d78 rfl ?_
            refine iq_goto hS J_MPlaceRows_wrong_d79 (t := 84) rfl ?_
            exact J17 _ _ (lk_1r l7 (by decide)) (lk_1i l8 (by decide)) (lk_1i l9 (by decide)) (lk_1i l10 (by decide)) (lk_1i l11 (by decide)) (lk_1i l12 (by decide)) (lk_1i l13 (by decide)) (lk_1i l15 (by decide)) (ed_some h)
  exact I2 n2 _ _ _ (lk_1r (lk_1r (lk_1r l0 (by decide)) (by decide)) (by decide)) (lk_1i (lk_1i (lk_1i l1 (by decide)) (by decide)) (by decide)) (lk_1i (lk_1i (lk_1i l2 (by decide)) (by decide)) (by decide)) (lk_1i (lk_1i (lk_1i l3 (by decide)) (by decide)) (by decide)) (lk_1i (lk_1i (lk_1i l5 (by decide)) (by decide)) (by decide)) (lk_1i (lk_1i (lk_1i l6 (by decide)) (by decide)) (by decide)) (lk_1i (lk_1i lk_1s (by decide)) (by decide)) (lk_1i lk_1s (by decide)) lk_1s hn2
noncomputable def f_MPlaceRows_enter (p0 : Int32) (p1 : Int32) (p2 : Int32) (p3 : Int32) (p4 : Int32) (p5 : Int32) (M : im_M) : Option (im_M) := gd (inb ((6 : Int32) * (im_i M 130 8)) 1800) <| gd (inb (((6 : Int32) * (im_i (im_setI M 134 (Int32.toNatClampNeg ((6 : Int32) * (im_i M 130 8))) p0) 130 8)) + 1) 1800) <| gd (inb (((6 : Int32) * (im_i (im_setI (im_setI M 134 (Int32.toNatClampNeg ((6 : Int32) * (im_i M 130 8))) p0) 134 (Int32.toNatClampNeg (((6 : Int32) * (im_i (im_setI M 134 (Int32.toNatClampNeg ((6 : Int32) * (im_i M 130 8))) p0) 130 8)) + 1)) p1) 130 8)) + 2) 1800) <| gd (inb (((6 : Int32) * (im_i (im_setI (im_setI (im_setI M 134 (Int32.toNatClampNeg ((6 : Int32) * (im_i M 130 8))) p0) 134 (Int32.toNatClampNeg (((6 : Int32) * (im_i (im_setI M 134 (Int32.toNatClampNeg ((6 : Int32) * (im_i M 130 8))) p0) 130 8)) + 1)) p1) 134 (Int32.toNatClampNeg (((6 : Int32) * (im_i (im_setI (im_setI M 134 (Int32.toNatClampNeg ((6 : Int32) * (im_i M 130 8))) p0) 134 (Int32.toNatClampNeg (((6 : Int32) * (im_i (im_setI M 134 (Int32.toNatClampNeg ((6 : Int32) * (im_i M 130 8))) p0) 130 8)) + 1)) p1) 130 8)) + 2)) p2) 130 8)) + 3) 1800) <| gd (inb (((6 : Int32) * (im_i (im_setI (im_setI (im_setI (im_setI M 134 (Int32.toNatClampNeg ((6 : Int32) * (im_i M 130 8))) p0) 134 (Int32.toNatClampNeg (((6 : Int32) * (im_i (im_setI M 134 (Int32.toNatClampNeg ((6 : Int32) * (im_i M 130 8))) p0) 130 8)) + 1)) p1) 134 (Int32.toNatClampNeg (((6 : Int32) * (im_i (im_setI (im_setI M 134 (Int32.toNatClampNeg ((6 : Int32) * (im_i M 130 8))) p0) 134 (Int32.toNatClampNeg (((6 : Int32) * (im_i (im_setI M 134 (Int32.toNatClampNeg ((6 : Int32) * (im_i M 130 8))) p0) 130 8)) + 1)) p1) 130 8)) + 2)) p2) 134 (Int32.toNatClampNeg (((6 : Int32) * (im_i (im_setI (im_setI (im_setI M 134 (Int32.toNatClampNeg ((6 : Int32) * (im_i M 130 8))) p0) 134 (Int32.toNatClampNeg (((6 : Int32) * (im_i (im_setI M 134 (Int32.toNatClampNeg ((6 : Int32) * (im_i M 130 8))) p0) 130 8)) + 1)) p1) 134 (Int32.toNatClampNeg (((6 : Int32) * (im_i (im_setI (im_setI M 134 (Int32.toNatClampNeg ((6 : Int32) * (im_i M 130 8))) p0) 134 (Int32.toNatClampNeg (((6 : Int32) * (im_i (im_setI M 134 (Int32.toNatClampNeg ((6 : Int32) * (im_i M 130 8))) p0) 130 8)) + 1)) p1) 130 8)) + 2)) p2) 130 8)) + 3)) p3) 130 8)) + 4) 1800) <| gd (inb (((6 : Int32) * (im_i (im_setI (im_setI (im_setI (im_setI (im_setI M 134 (Int32.toNatClampNeg ((6 : Int32) * (im_i M 130 8))) p0) 134 (Int32.toNatClampNeg (((6 : Int32) * (im_i (im_setI M 134 (Int32.toNatClampNeg ((6 : Int32) * (im_i M 130 8))) p0) 130 8)) + 1)) p1) 134 (Int32.toNatClampNeg (((6 : Int32) * (im_i (im_setI (im_setI M 134 (Int32.toNatClampNeg ((6 : Int32) * (im_i M 130 8))) p0) 134 (Int32.toNatClampNeg (((6 : Int32) * (im_i (im_setI M 134 (Int32.toNatClampNeg ((6 : Int32) * (im_i M 130 8))) p0) 130 8)) + 1)) p1) 130 8)) + 2)) p2) 134 (Int32.toNatClampNeg (((6 : Int32) * (im_i (im_setI (im_setI (im_setI M 134 (Int32.toNatClampNeg ((6 : Int32) * (im_i M 130 8))) p0) 134 (Int32.toNatClampNeg (((6 : Int32) * (im_i (im_setI M 134 (Int32.toNatClampNeg ((6 : Int32) * (im_i M 130 8))) p0) 130 8)) + 1)) p1) 134 (Int32.toNatClampNeg (((6 : Int32) * (im_i (im_setI (im_setI M 134 (Int32.toNatClampNeg ((6 : Int32) * (im_i M 130 8))) p0) 134 (Int32.toNatClampNeg (((6 : Int32) * (im_i (im_setI M 134 (Int32.toNatClampNeg ((6 : Int32) * (im_i M 130 8))) p0) 130 8)) + 1)) p1) 130 8)) + 2)) p2) 130 8)) + 3)) p3) 134 (Int32.toNatClampNeg (((6 : Int32) * (im_i (im_setI (im_setI (im_setI (im_setI M 134 (Int32.toNatClampNeg ((6 : Int32) * (im_i M 130 8))) p0) 134 (Int32.toNatClampNeg (((6 : Int32) * (im_i (im_setI M 134 (Int32.toNatClampNeg ((6 : Int32) * (im_i M 130 8))) p0) 130 8)) + 1)) p1) 134 (Int32.toNatClampNeg (((6 : Int32) * (im_i (im_setI (im_setI M 134 (Int32.toNatClampNeg ((6 : Int32) * (im_i M 130 8))) p0) 134 (Int32.toNatClampNeg (((6 : Int32) * (im_i (im_setI M 134 (Int32.toNatClampNeg ((6 : Int32) * (im_i M 130 8))) p0) 130 8)) + 1)) p1) 130 8)) + 2)) p2) 134 (Int32.toNatClampNeg (((6 : Int32) * (im_i (im_setI (im_setI (im_setI M 134 (Int32.toNatClampNeg ((6 : Int32) * (im_i M 130 8))) p0) 134 (Int32.toNatClampNeg (((6 : Int32) * (im_i (im_setI M 134 (Int32.toNatClampNeg ((6 : Int32) * (im_i M 130 8))) p0) 130 8)) + 1)) p1) 134 (Int32.toNatClampNeg (((6 : Int32) * (im_i (im_setI (im_setI M 134 (Int32.toNatClampNeg ((6 : Int32) * (im_i M 130 8))) p0) 134 (Int32.toNatClampNeg (((6 : Int32) * (im_i (im_setI M 134 (Int32.toNatClampNeg ((6 : Int32) * (im_i M 130 8))) p0) 130 8)) + 1)) p1) 130 8)) + 2)) p2) 130 8)) + 3)) p3) 130 8)) + 4)) p4) 130 8)) + 5) 1800) <| some (im_setI (im_setI (im_setI (im_setI (im_setI (im_setI (im_setI M 134 (Int32.toNatClampNeg ((6 : Int32) * (im_i M 130 8))) p0) 134 (Int32.toNatClampNeg (((6 : Int32) * (im_i (im_setI M 134 (Int32.toNatClampNeg ((6 : Int32) * (im_i M 130 8))) p0) 130 8)) + 1)) p1) 134 (Int32.toNatClampNeg (((6 : Int32) * (im_i (im_setI (im_setI M 134 (Int32.toNatClampNeg ((6 : Int32) * (im_i M 130 8))) p0) 134 (Int32.toNatClampNeg (((6 : Int32) * (im_i (im_setI M 134 (Int32.toNatClampNeg ((6 : Int32) * (im_i M 130 8))) p0) 130 8)) + 1)) p1) 130 8)) + 2)) p2) 134 (Int32.toNatClampNeg (((6 : Int32) * (im_i (im_setI (im_setI (im_setI M 134 (Int32.toNatClampNeg ((6 : Int32) * (im_i M 130 8))) p0) 134 (Int32.toNatClampNeg (((6 : Int32) * (im_i (im_setI M 134 (Int32.toNatClampNeg ((6 : Int32) * (im_i M 130 8))) p0) 130 8)) + 1)) p1) 134 (Int32.toNatClampNeg (((6 : Int32) * (im_i (im_setI (im_setI M 134 (Int32.toNatClampNeg ((6 : Int32) * (im_i M 130 8))) p0) 134 (Int32.toNatClampNeg (((6 : Int32) * (im_i (im_setI M 134 (Int32.toNatClampNeg ((6 : Int32) * (im_i M 130 8))) p0) 130 8)) + 1)) p1) 130 8)) + 2)) p2) 130 8)) + 3)) p3) 134 (Int32.toNatClampNeg (((6 : Int32) * (im_i (im_setI (im_setI (im_setI (im_setI M 134 (Int32.toNatClampNeg ((6 : Int32) * (im_i M 130 8))) p0) 134 (Int32.toNatClampNeg (((6 : Int32) * (im_i (im_setI M 134 (Int32.toNatClampNeg ((6 : Int32) * (im_i M 130 8))) p0) 130 8)) + 1)) p1) 134 (Int32.toNatClampNeg (((6 : Int32) * (im_i (im_setI (im_setI M 134 (Int32.toNatClampNeg ((6 : Int32) * (im_i M 130 8))) p0) 134 (Int32.toNatClampNeg (((6 : Int32) * (im_i (im_setI M 134 (Int32.toNatClampNeg ((6 : Int32) * (im_i M 130 8))) p0) 130 8)) + 1)) p1) 130 8)) + 2)) p2) 134 (Int32.toNatClampNeg (((6 : Int32) * (im_i (im_setI (im_setI (im_setI M 134 (Int32.toNatClampNeg ((6 : Int32) * (im_i M 130 8))) p0) 134 (Int32.toNatClampNeg (((6 : Int32) * (im_i (im_setI M 134 (Int32.toNatClampNeg ((6 : Int32) * (im_i M 130 8))) p0) 130 8)) + 1)) p1) 134 (Int32.toNatClampNeg (((6 : Int32) * (im_i (im_setI (im_setI M 134 (Int32.toNatClampNeg ((6 : Int32) * (im_i M 130 8))) p0) 134 (Int32.toNatClampNeg (((6 : Int32) * (im_i (im_setI M 134 (Int32.toNatClampNeg ((6 : Int32) * (im_i M 130 8))) p0) 130 8)) + 1)) p1) 130 8)) + 2)) p2) 130 8)) + 3)) p3) 130 8)) + 4)) p4) 134 (Int32.toNatClampNeg (((6 : Int32) * (im_i (im_setI (im_setI (im_setI (im_setI (im_setI M 134 (Int32.toNatClampNeg ((6 : Int32) * (im_i M 130 8))) p0) 134 (Int32.toNatClampNeg (((6 : Int32) * (im_i (im_setI M 134 (Int32.toNatClampNeg ((6 : Int32) * (im_i M 130 8))) p0) 130 8)) + 1)) p1) 134 (Int32.toNatClampNeg (((6 : Int32) * (im_i (im_setI (im_setI M 134 (Int32.toNatClampNeg ((6 : Int32) * (im_i M 130 8))) p0) 134 (Int32.toNatClampNeg (((6 : Int32) * (im_i (im_setI M 134 (Int32.toNatClampNeg ((6 : Int32) * (im_i M 130 8))) p0) 130 8)) + 1)) p1) 130 8)) + 2)) p2) 134 (Int32.toNatClampNeg (((6 : Int32) * (im_i (im_setI (im_setI (im_setI M 134 (Int32.toNatClampNeg ((6 : Int32) * (im_i M 130 8))) p0) 134 (Int32.toNatClampNeg (((6 : Int32) * (im_i (im_setI M 134 (Int32.toNatClampNeg ((6 : Int32) * (im_i M 130 8))) p0) 130 8)) + 1)) p1) 134 (Int32.toNatClampNeg (((6 : Int32) * (im_i (im_setI (im_setI M 134 (Int32.toNatClampNeg ((6 : Int32) * (im_i M 130 8))) p0) 134 (Int32.toNatClampNeg (((6 : Int32) * (im_i (im_setI M 134 (Int32.toNatClampNeg ((6 : Int32) * (im_i M 130 8))) p0) 130 8)) + 1)) p1) 130 8)) + 2)) p2) 130 8)) + 3)) p3) 134 (Int32.toNatClampNeg (((6 : Int32) * (im_i (im_setI (im_setI (im_setI (im_setI M 134 (Int32.toNatClampNeg ((6 : Int32) * (im_i M 130 8))) p0) 134 (Int32.toNatClampNeg (((6 : Int32) * (im_i (im_setI M 134 (Int32.toNatClampNeg ((6 : Int32) * (im_i M 130 8))) p0) 130 8)) + 1)) p1) 134 (Int32.toNatClampNeg (((6 : Int32) * (im_i (im_setI (im_setI M 134 (Int32.toNatClampNeg ((6 : Int32) * (im_i M 130 8))) p0) 134 (Int32.toNatClampNeg (((6 : Int32) * (im_i (im_setI M 134 (Int32.toNatClampNeg ((6 : Int32) * (im_i M 130 8))) p0) 130 8)) + 1)) p1) 130 8)) + 2)) p2) 134 (Int32.toNatClampNeg (((6 : Int32) * (im_i (im_setI (im_setI (im_setI M 134 (Int32.toNatClampNeg ((6 : Int32) * (im_i M 130 8))) p0) 134 (Int32.toNatClampNeg (((6 : Int32) * (im_i (im_setI M 134 (Int32.toNatClampNeg ((6 : Int32) * (im_i M 130 8))) p0) 130 8)) + 1)) p1) 134 (Int32.toNatClampNeg (((6 : Int32) * (im_i (im_setI (im_setI M 134 (Int32.toNatClampNeg ((6 : Int32) * (im_i M 130 8))) p0) 134 (Int32.toNatClampNeg (((6 : Int32) * (im_i (im_setI M 134 (Int32.toNatClampNeg ((6 : Int32) * (im_i M 130 8))) p0) 130 8)) + 1)) p1) 130 8)) + 2)) p2) 130 8)) + 3)) p3) 130 8)) + 4)) p4) 130 8)) + 5)) p5) 130 8 ((im_i (im_setI (im_setI (im_setI (im_setI (im_setI (im_setI M 134 (Int32.toNatClampNeg ((6 : Int32) * (im_i M 130 8))) p0) 134 (Int32.toNatClampNeg (((6 : Int32) * (im_i (im_setI M 134 (Int32.toNatClampNeg ((6 : Int32) * (im_i M 130 8))) p0) 130 8)) + 1)) p1) 134 (Int32.toNatClampNeg (((6 : Int32) * (im_i (im_setI (im_setI M 134 (Int32.toNatClampNeg ((6 : Int32) * (im_i M 130 8))) p0) 134 (Int32.toNatClampNeg (((6 : Int32) * (im_i (im_setI M 134 (Int32.toNatClampNeg ((6 : Int32) * (im_i M 130 8))) p0) 130 8)) + 1)) p1) 130 8)) + 2)) p2) 134 (Int32.toNatClampNeg (((6 : Int32) * (im_i (im_setI (im_setI (im_setI M 134 (Int32.toNatClampNeg ((6 : Int32) * (im_i M 130 8))) p0) 134 (Int32.toNatClampNeg (((6 : Int32) * (im_i (im_setI M 134 (Int32.toNatClampNeg ((6 : Int32) * (im_i M 130 8))) p0) 130 8)) + 1)) p1) 134 (Int32.toNatClampNeg (((6 : Int32) * (im_i (im_setI (im_setI M 134 (Int32.toNatClampNeg ((6 : Int32) * (im_i M 130 8))) p0) 134 (Int32.toNatClampNeg (((6 : Int32) * (im_i (im_setI M 134 (Int32.toNatClampNeg ((6 : Int32) * (im_i M 130 8))) p0) 130 8)) + 1)) p1) 130 8)) + 2)) p2) 130 8)) + 3)) p3) 134 (Int32.toNatClampNeg (((6 : Int32) * (im_i (im_setI (im_setI (im_setI (im_setI M 134 (Int32.toNatClampNeg ((6 : Int32) * (im_i M 130 8))) p0) 134 (Int32.toNatClampNeg (((6 : Int32) * (im_i (im_setI M 134 (Int32.toNatClampNeg ((6 : Int32) * (im_i M 130 8))) p0) 130 8)) + 1)) p1) 134 (Int32.toNatClampNeg (((6 : Int32) * (im_i (im_setI (im_setI M 134 (Int32.toNatClampNeg ((6 : Int32) * (im_i M 130 8))) p0) 134 (Int32.toNatClampNeg (((6 : Int32) * (im_i (im_setI M 134 (Int32.toNatClampNeg ((6 : Int32) * (im_i M 130 8))) p0) 130 8)) + 1)) p1) 130 8)) + 2)) p2) 134 (Int32.toNatClampNeg (((6 : Int32) * (im_i (im_setI (im_setI (im_setI M 134 (Int32.toNatClampNeg ((6 : Int32) * (im_i M 130 8))) p0) 134 (Int32.toNatClampNeg (((6 : Int32) * (im_i (im_setI M 134 (Int32.toNatClampNeg ((6 : Int32) * (im_i M 130 8))) p0) 130 8)) + 1)) p1) 134 (Int32.toNatClampNeg (((6 : Int32) * (im_i (im_setI (im_setI M 134 (Int32.toNatClampNeg ((6 : Int32) * (im_i M 130 8))) p0) 134 (Int32.toNatClampNeg (((6 : Int32) * (im_i (im_setI M 134 (Int32.toNatClampNeg ((6 : Int32) * (im_i M 130 8))) p0) 130 8)) + 1)) p1) 130 8)) + 2)) p2) 130 8)) + 3)) p3) 130 8)) + 4)) p4) 134 (Int32.toNatClampNeg (((6 : Int32) * (im_i (im_setI (im_setI (im_setI (im_setI (im_setI M 134 (Int32.toNatClampNeg ((6 : Int32) * (im_i M 130 8))) p0) 134 (Int32.toNatClampNeg (((6 : Int32) * (im_i (im_setI M 134 (Int32.toNatClampNeg ((6 : Int32) * (im_i M 130 8))) p0) 130 8)) + 1)) p1) 134 (Int32.toNatClampNeg (((6 : Int32) * (im_i (im_setI (im_setI M 134 (Int32.toNatClampNeg ((6 : Int32) * (im_i M 130 8))) p0) 134 (Int32.toNatClampNeg (((6 : Int32) * (im_i (im_setI M 134 (Int32.toNatClampNeg ((6 : Int32) * (im_i M 130 8))) p0) 130 8)) + 1)) p1) 130 8)) + 2)) p2) 134 (Int32.toNatClampNeg (((6 : Int32) * (im_i (im_setI (im_setI (im_setI M 134 (Int32.toNatClampNeg ((6 : Int32) * (im_i M 130 8))) p0) 134 (Int32.toNatClampNeg (((6 : Int32) * (im_i (im_setI M 134 (Int32.toNatClampNeg ((6 : Int32) * (im_i M 130 8))) p0) 130 8)) + 1)) p1) 134 (Int32.toNatClampNeg (((6 : Int32) * (im_i (im_setI (im_setI M 134 (Int32.toNatClampNeg ((6 : Int32) * (im_i M 130 8))) p0) 134 (Int32.toNatClampNeg (((6 : Int32) * (im_i (im_setI M 134 (Int32.toNatClampNeg ((6 : Int32) * (im_i M 130 8))) p0) 130 8)) + 1)) p1) 130 8)) + 2)) p2) 130 8)) + 3)) p3) 134 (Int32.toNatClampNeg (((6 : Int32) * (im_i (im_setI (im_setI (im_setI (im_setI M 134 (Int32.toNatClampNeg ((6 : Int32) * (im_i M 130 8))) p0) 134 (Int32.toNatClampNeg (((6 : Int32) * (im_i (im_setI M 134 (Int32.toNatClampNeg ((6 : Int32) * (im_i M 130 8))) p0) 130 8)) + 1)) p1) 134 (Int32.toNatClampNeg (((6 : Int32) * (im_i (im_setI (im_setI M 134 (Int32.toNatClampNeg ((6 : Int32) * (im_i M 130 8))) p0) 134 (Int32.toNatClampNeg (((6 : Int32) * (im_i (im_setI M 134 (Int32.toNatClampNeg ((6 : Int32) * (im_i M 130 8))) p0) 130 8)) + 1)) p1) 130 8)) + 2)) p2) 134 (Int32.toNatClampNeg (((6 : Int32) * (im_i (im_setI (im_setI (im_setI M 134 (Int32.toNatClampNeg ((6 : Int32) * (im_i M 130 8))) p0) 134 (Int32.toNatClampNeg (((6 : Int32) * (im_i (im_setI M 134 (Int32.toNatClampNeg ((6 : Int32) * (im_i M 130 8))) p0) 130 8)) + 1)) p1) 134 (Int32.toNatClampNeg (((6 : Int32) * (im_i (im_setI (im_setI M 134 (Int32.toNatClampNeg ((6 : Int32) * (im_i M 130 8))) p0) 134 (Int32.toNatClampNeg (((6 : Int32) * (im_i (im_setI M 134 (Int32.toNatClampNeg ((6 : Int32) * (im_i M 130 8))) p0) 130 8)) + 1)) p1) 130 8)) + 2)) p2) 130 8)) + 3)) p3) 130 8)) + 4)) p4) 130 8)) + 5)) p5) 130 8) + 1))
theorem J_MPlaceRows_enter_d0 : decode J_MPlaceRows_enter.2.1 0 = .ok (.aload_n 0, 1) := by decide +kernel
theorem J_MPlaceRows_enter_d1 : decode J_MPlaceRows_enter.2.1 1 = .ok (.getfield 29, 3) := by decide +kernel
theorem J_MPlaceRows_enter_d4 : decode J_MPlaceRows_enter.2.1 4 = .ok (.bipush 6, 2) := by decide +kernel
theorem J_MPlaceRows_enter_d6 : decode J_MPlaceRows_enter.2.1 6 = .ok (.aload_n 0, 1) := by decide +kernel
theorem J_MPlaceRows_enter_d7 : decode J_MPlaceRows_enter.2.1 7 = .ok (.getfield 38, 3) := by decide +kernel
theorem J_MPlaceRows_enter_d10 : decode J_MPlaceRows_enter.2.1 10 = .ok (.imul, 1) := by decide +kernel
theorem J_MPlaceRows_enter_d11 : decode J_MPlaceRows_enter.2.1 11 = .ok (.iload_n 1, 1) := by decide +kernel
theorem J_MPlaceRows_enter_d12 : decode J_MPlaceRows_enter.2.1 12 = .ok (.iastore, 1) := by decide +kernel
theorem J_MPlaceRows_enter_d13 : decode J_MPlaceRows_enter.2.1 13 = .ok (.aload_n 0, 1) := by decide +kernel
theorem J_MPlaceRows_enter_d14 : decode J_MPlaceRows_enter.2.1 14 = .ok (.getfield 29, 3) := by decide +kernel
theorem J_MPlaceRows_enter_d17 : decode J_MPlaceRows_enter.2.1 17 = .ok (.bipush 6, 2) := by decide +kernel
theorem J_MPlaceRows_enter_d19 : decode J_MPlaceRows_enter.2.1 19 = .ok (.aload_n 0, 1) := by decide +kernel
theorem J_MPlaceRows_enter_d20 : decode J_MPlaceRows_enter.2.1 20 = .ok (.getfield 38, 3) := by decide +kernel
theorem J_MPlaceRows_enter_d23 : decode J_MPlaceRows_enter.2.1 23 = .ok (.imul, 1) := by decide +kernel
theorem J_MPlaceRows_enter_d24 : decode J_MPlaceRows_enter.2.1 24 = .ok (.iconst 1, 1) := by decide +kernel
theorem J_MPlaceRows_enter_d25 : decode J_MPlaceRows_enter.2.1 25 = .ok (.iadd, 1) := by decide +kernel
theorem J_MPlaceRows_enter_d26 : decode J_MPlaceRows_enter.2.1 26 = .ok (.iload_n 2, 1) := by decide +kernel
theorem J_MPlaceRows_enter_d27 : decode J_MPlaceRows_enter.2.1 27 = .ok (.iastore, 1) := by decide +kernel
theorem J_MPlaceRows_enter_d28 : decode J_MPlaceRows_enter.2.1 28 = .ok (.aload_n 0, 1) := by decide +kernel
theorem J_MPlaceRows_enter_d29 : decode J_MPlaceRows_enter.2.1 29 = .ok (.getfield 29, 3) := by decide +kernel
theorem J_MPlaceRows_enter_d32 : decode J_MPlaceRows_enter.2.1 32 = .ok (.bipush 6, 2) := by decide +kernel
theorem J_MPlaceRows_enter_d34 : decode J_MPlaceRows_enter.2.1 34 = .ok (.aload_n 0, 1) := by decide +kernel
theorem J_MPlaceRows_enter_d35 : decode J_MPlaceRows_enter.2.1 35 = .ok (.getfield 38, 3) := by decide +kernel
theorem J_MPlaceRows_enter_d38 : decode J_MPlaceRows_enter.2.1 38 = .ok (.imul, 1) := by decide +kernel
theorem J_MPlaceRows_enter_d39 : decode J_MPlaceRows_enter.2.1 39 = .ok (.iconst 2, 1) := by decide +kernel
theorem J_MPlaceRows_enter_d40 : decode J_MPlaceRows_enter.2.1 40 = .ok (.iadd, 1) := by decide +kernel
theorem J_MPlaceRows_enter_d41 : decode J_MPlaceRows_enter.2.1 41 = .ok (.iload_n 3, 1) := by decide +kernel
theorem J_MPlaceRows_enter_d42 : decode J_MPlaceRows_enter.2.1 42 = .ok (.iastore, 1) := by decide +kernel
theorem J_MPlaceRows_enter_d43 : decode J_MPlaceRows_enter.2.1 43 = .ok (.aload_n 0, 1) := by decide +kernel
theorem J_MPlaceRows_enter_d44 : decode J_MPlaceRows_enter.2.1 44 = .ok (.getfield 29, 3) := by decide +kernel
theorem J_MPlaceRows_enter_d47 : decode J_MPlaceRows_enter.2.1 47 = .ok (.bipush 6, 2) := by decide +kernel
theorem J_MPlaceRows_enter_d49 : decode J_MPlaceRows_enter.2.1 49 = .ok (.aload_n 0, 1) := by decide +kernel
theorem J_MPlaceRows_enter_d50 : decode J_MPlaceRows_enter.2.1 50 = .ok (.getfield 38, 3) := by decide +kernel
theorem J_MPlaceRows_enter_d53 : decode J_MPlaceRows_enter.2.1 53 = .ok (.imul, 1) := by decide +kernel
theorem J_MPlaceRows_enter_d54 : decode J_MPlaceRows_enter.2.1 54 = .ok (.iconst 3, 1) := by decide +kernel
theorem J_MPlaceRows_enter_d55 : decode J_MPlaceRows_enter.2.1 55 = .ok (.iadd, 1) := by decide +kernel
theorem J_MPlaceRows_enter_d56 : decode J_MPlaceRows_enter.2.1 56 = .ok (.iload 4, 2) := by decide +kernel
theorem J_MPlaceRows_enter_d58 : decode J_MPlaceRows_enter.2.1 58 = .ok (.iastore, 1) := by decide +kernel
theorem J_MPlaceRows_enter_d59 : decode J_MPlaceRows_enter.2.1 59 = .ok (.aload_n 0, 1) := by decide +kernel
theorem J_MPlaceRows_enter_d60 : decode J_MPlaceRows_enter.2.1 60 = .ok (.getfield 29, 3) := by decide +kernel
theorem J_MPlaceRows_enter_d63 : decode J_MPlaceRows_enter.2.1 63 = .ok (.bipush 6, 2) := by decide +kernel
theorem J_MPlaceRows_enter_d65 : decode J_MPlaceRows_enter.2.1 65 = .ok (.aload_n 0, 1) := by decide +kernel
theorem J_MPlaceRows_enter_d66 : decode J_MPlaceRows_enter.2.1 66 = .ok (.getfield 38, 3) := by decide +kernel
theorem J_MPlaceRows_enter_d69 : decode J_MPlaceRows_enter.2.1 69 = .ok (.imul, 1) := by decide +kernel
theorem J_MPlaceRows_enter_d70 : decode J_MPlaceRows_enter.2.1 70 = .ok (.iconst 4, 1) := by decide +kernel
theorem J_MPlaceRows_enter_d71 : decode J_MPlaceRows_enter.2.1 71 = .ok (.iadd, 1) := by decide +kernel
theorem J_MPlaceRows_enter_d72 : decode J_MPlaceRows_enter.2.1 72 = .ok (.iload 5, 2) := by decide +kernel
theorem J_MPlaceRows_enter_d74 : decode J_MPlaceRows_enter.2.1 74 = .ok (.iastore, 1) := by decide +kernel
theorem J_MPlaceRows_enter_d75 : decode J_MPlaceRows_enter.2.1 75 = .ok (.aload_n 0, 1) := by decide +kernel
theorem J_MPlaceRows_enter_d76 : decode J_MPlaceRows_enter.2.1 76 = .ok (.getfield 29, 3) := by decide +kernel
theorem J_MPlaceRows_enter_d79 : decode J_MPlaceRows_enter.2.1 79 = .ok (.bipush 6, 2) := by decide +kernel
theorem J_MPlaceRows_enter_d81 : decode J_MPlaceRows_enter.2.1 81 = .ok (.aload_n 0, 1) := by decide +kernel
theorem J_MPlaceRows_enter_d82 : decode J_MPlaceRows_enter.2.1 82 = .ok (.getfield 38, 3) := by decide +kernel
theorem J_MPlaceRows_enter_d85 : decode J_MPlaceRows_enter.2.1 85 = .ok (.imul, 1) := by decide +kernel
theorem J_MPlaceRows_enter_d86 : decode J_MPlaceRows_enter.2.1 86 = .ok (.iconst 5, 1) := by decide +kernel
theorem J_MPlaceRows_enter_d87 : decode J_MPlaceRows_enter.2.1 87 = .ok (.iadd, 1) := by decide +kernel
theorem J_MPlaceRows_enter_d88 : decode J_MPlaceRows_enter.2.1 88 = .ok (.iload 6, 2) := by decide +kernel
theorem J_MPlaceRows_enter_d90 : decode J_MPlaceRows_enter.2.1 90 = .ok (.iastore, 1) := by decide +kernel
theorem J_MPlaceRows_enter_d91 : decode J_MPlaceRows_enter.2.1 91 = .ok (.aload_n 0, 1) := by decide +kernel
theorem J_MPlaceRows_enter_d92 : decode J_MPlaceRows_enter.2.1 92 = .ok (.dup, 1) := by decide +kernel
theorem J_MPlaceRows_enter_d93 : decode J_MPlaceRows_enter.2.1 93 = .ok (.getfield 38, 3) := by decide +kernel
theorem J_MPlaceRows_enter_d96 : decode J_MPlaceRows_enter.2.1 96 = .ok (.iconst 1, 1) := by decide +kernel
theorem J_MPlaceRows_enter_d97 : decode J_MPlaceRows_enter.2.1 97 = .ok (.iadd, 1) := by decide +kernel
theorem J_MPlaceRows_enter_d98 : decode J_MPlaceRows_enter.2.1 98 = .ok (.putfield 38, 3) := by decide +kernel
theorem J_MPlaceRows_enter_d101 : decode J_MPlaceRows_enter.2.1 101 = .ok (.return_, 1) := by decide +kernel
theorem f_MPlaceRows_enter_ok {L : Nat} {xs : Nat → Int32} {dep : Nat} {w : Bool} {p0 : Int32} {p1 : Int32} {p2 : Int32} {p3 : Int32} {p4 : Int32} {p5 : Int32} {M : im_M} {Q : im_M → Prop} (hM : lw_S w M) (h : ed (f_MPlaceRows_enter p0 p1 p2 p3 p4 p5 M) Q) : ia (tb_G L xs) dep J_MPlaceRows_enter (rwV w Q) (0, lv_args 0 [.ref 130, .int p0, .int p1, .int p2, .int p3, .int p4, .int p5], [], M) := by
  have hS : im_St (tb_G L xs) dep J_MPlaceRows_enter (ia (tb_G L xs) dep J_MPlaceRows_enter (rwV w Q)) := ia_St
  unfold f_MPlaceRows_enter at h
  have l0 : im_lk (lv_args 0 [.ref 130, .int p0, .int p1, .int p2, .int p3, .int p4, .int p5]) 0 = some (.ref 130) := rfl
  have l1 : im_lk (lv_args 0 [.ref 130, .int p0, .int p1, .int p2, .int p3, .int p4, .int p5]) 1 = some (.int p0) := rfl
  have l2 : im_lk (lv_args 0 [.ref 130, .int p0, .int p1, .int p2, .int p3, .int p4, .int p5]) 2 = some (.int p1) := rfl
  have l3 : im_lk (lv_args 0 [.ref 130, .int p0, .int p1, .int p2, .int p3, .int p4, .int p5]) 3 = some (.int p2) := rfl
  have l4 : im_lk (lv_args 0 [.ref 130, .int p0, .int p1, .int p2, .int p3, .int p4, .int p5]) 4 = some (.int p3) := rfl
  have l5 : im_lk (lv_args 0 [.ref 130, .int p0, .int p1, .int p2, .int p3, .int p4, .int p5]) 5 = some (.int p4) := rfl
  have l6 : im_lk (lv_args 0 [.ref 130, .int p0, .int p1, .int p2, .int p3, .int p4, .int p5]) 6 = some (.int p5) := rfl
  refine iq_aload_n hS 1 J_MPlaceRows_enter_d0 l0 rfl ?_
  refine iq_getR hS 4 J_MPlaceRows_enter_d1 lf_14_29 (Or.inr ⟨_, rfl⟩) (ka_130 hM) (ra_130_7 hM) rfl ?_
  refine iq_bipush hS 6 J_MPlaceRows_enter_d4 (v := 6) (by decide +kernel) rfl ?_
  refine iq_aload_n hS 7 J_MPlaceRows_enter_d6 l0 rfl ?_
  refine iq_getI hS 10 J_MPlaceRows_enter_d7 lf_14_38 (Or.inl rfl) (ka_130 hM) rfl ?_
  refine iq_imul hS 11 J_MPlaceRows_enter_d10 rfl ?_
  refine iq_iload_n hS 12 J_MPlaceRows_enter_d11 l1 rfl ?_
  obtain ⟨g12, h⟩ := ed_gd h
  refine iq_iastore hS 13 J_MPlaceRows_enter_d12 ⟨(ka_134 hM).1, (ka_134 hM).2, g12.1, ix_lt (kl_134 hM) g12.2⟩ rfl ?_
  refine iq_aload_n hS 14 J_MPlaceRows_enter_d13 l0 rfl ?_
  refine iq_getR hS 17 J_MPlaceRows_enter_d14 lf_14_29 (Or.inr ⟨_, rfl⟩) (ka_130 hM) (ra_130_7 hM) rfl ?_
  refine iq_bipush hS 19 J_MPlaceRows_enter_d17 (v := 6) (by decide +kernel) rfl ?_
  refine iq_aload_n hS 20 J_MPlaceRows_enter_d19 l0 rfl ?_
  refine iq_getI hS 23 J_MPlaceRows_enter_d20 lf_14_38 (Or.inl rfl) (ka_130 hM) rfl ?_
  refine iq_imul hS 24 J_MPlaceRows_enter_d23 rfl ?_
  refine iq_iconst hS 25 J_MPlaceRows_enter_d24 (v := 1) (by decide +kernel) rfl ?_
  refine iq_iadd hS 26 J_MPlaceRows_enter_d25 rfl ?_
  refine iq_iload_n hS 27 J_MPlaceRows_enter_d26 l2 rfl ?_
  obtain ⟨g27, h⟩ := ed_gd h
  refine iq_iastore hS 28 J_MPlaceRows_enter_d27 ⟨(ka_134 hM).1, (ka_134 hM).2, g27.1, ix_lt (kl_134 hM) g27.2⟩ rfl ?_
  refine iq_aload_n hS 29 J_MPlaceRows_enter_d28 l0 rfl ?_
  refine iq_getR hS 32 J_MPlaceRows_enter_d29 lf_14_29 (Or.inr ⟨_, rfl⟩) (ka_130 hM) (ra_130_7 hM) rfl ?_
  refine iq_bipush hS 34 J_MPlaceRows_enter_d32 (v := 6) (by decide +kernel) rfl ?_
  refine iq_aload_n hS 35 J_MPlaceRows_enter_d34 l0 rfl ?_
  refine iq_getI hS 38 J_MPlaceRows_enter_d35 lf_14_38 (Or.inl rfl) (ka_130 hM) rfl ?_
  refine iq_imul hS 39 J_MPlaceRows_enter_d38 rfl ?_
  refine iq_iconst hS 40 J_MPlaceRows_enter_d39 (v := 2) (by decide +kernel) rfl ?_
  refine iq_iadd hS 41 J_MPlaceRows_enter_d40 rfl ?_
  refine iq_iload_n hS 42 J_MPlaceRows_enter_d41 l3 rfl ?_
  obtain ⟨g42, h⟩ := ed_gd h
  refine iq_iastore hS 43 J_MPlaceRows_enter_d42 ⟨(ka_134 hM).1, (ka_134 hM).2, g42.1, ix_lt (kl_134 hM) g42.2⟩ rfl ?_
  refine iq_aload_n hS 44 J_MPlaceRows_enter_d43 l0 rfl ?_
  refine iq_getR hS 47 J_MPlaceRows_enter_d44 lf_14_29 (Or.inr ⟨_, rfl⟩) (ka_130 hM) (ra_130_7 hM) rfl ?_
  refine iq_bipush hS 49 J_MPlaceRows_enter_d47 (v := 6) (by decide +kernel) rfl ?_
  refine iq_aload_n hS 50 J_MPlaceRows_enter_d49 l0 rfl ?_
  refine iq_getI hS 53 J_MPlaceRows_enter_d50 lf_14_38 (Or.inl rfl) (ka_130 hM) rfl ?_
  refine iq_imul hS 54 J_MPlaceRows_enter_d53 rfl ?_
  refine iq_iconst hS 55 J_MPlaceRows_enter_d54 (v := 3) (by decide +kernel) rfl ?_
  refine iq_iadd hS 56 J_MPlaceRows_enter_d55 rfl ?_
  refine iq_iload hS 58 J_MPlaceRows_enter_d56 l4 rfl ?_
  obtain ⟨g58, h⟩ := ed_gd h
  refine iq_iastore hS 59 J_MPlaceRows_enter_d58 ⟨(ka_134 hM).1, (ka_134 hM).2, g58.1, ix_lt (kl_134 hM) g58.2⟩ rfl ?_
  refine iq_aload_n hS 60 J_MPlaceRows_enter_d59 l0 rfl ?_
  refine iq_getR hS 63 J_MPlaceRows_enter_d60 lf_14_29 (Or.inr ⟨_, rfl⟩) (ka_130 hM) (ra_130_7 hM) rfl ?_
  refine iq_bipush hS 65 J_MPlaceRows_enter_d63 (v := 6) (by decide +kernel) rfl ?_
  refine iq_aload_n hS 66 J_MPlaceRows_enter_d65 l0 rfl ?_
  refine iq_getI hS 69 J_MPlaceRows_enter_d66 lf_14_38 (Or.inl rfl) (ka_130 hM) rfl ?_
  refine iq_imul hS 70 J_MPlaceRows_enter_d69 rfl ?_
  refine iq_iconst hS 71 J_MPlaceRows_enter_d70 (v := 4) (by decide +kernel) rfl ?_
  refine iq_iadd hS 72 J_MPlaceRows_enter_d71 rfl ?_
  refine iq_iload hS 74 J_MPlaceRows_enter_d72 l5 rfl ?_
  obtain ⟨g74, h⟩ := ed_gd h
  refine iq_iastore hS 75 J_MPlaceRows_enter_d74 ⟨(ka_134 hM).1, (ka_134 hM).2, g74.1, ix_lt (kl_134 hM) g74.2⟩ rfl ?_
  refine iq_aload_n hS 76 J_MPlaceRows_enter_d75 l0 rfl ?_
  refine iq_getR hS 79 J_MPlaceRows_enter_d76 lf_14_29 (Or.inr ⟨_, rfl⟩) (ka_130 hM) (ra_130_7 hM) rfl ?_
  refine iq_bipush hS 81 J_MPlaceRows_enter_d79 (v := 6) (by decide +kernel) rfl ?_
  refine iq_aload_n hS 82 J_MPlaceRows_enter_d81 l0 rfl ?_
  refine iq_getI hS 85 J_MPlaceRows_enter_d82 lf_14_38 (Or.inl rfl) (ka_130 hM) rfl ?_
  refine iq_imul hS 86 J_MPlaceRows_enter_d85 rfl ?_
  refine iq_iconst hS 87 J_MPlaceRows_enter_d86 (v := 5) (by decide +kernel) rfl ?_
  refine iq_iadd hS 88 J_MPlaceRows_enter_d87 rfl ?_
  refine iq_iload hS 90 J_MPlaceRows_enter_d88 l6 rfl ?_
  obtain ⟨g90, h⟩ := ed_gd h
  refine iq_iastore hS 91 J_MPlaceRows_enter_d90 ⟨(ka_134 hM).1, (ka_134 hM).2, g90.1, ix_lt (kl_134 hM) g90.2⟩ rfl ?_
  refine iq_aload_n hS 92 J_MPlaceRows_enter_d91 l0 rfl ?_
  refine iq_dup hS 93 J_MPlaceRows_enter_d92 rfl rfl ?_
  refine iq_getI hS 96 J_MPlaceRows_enter_d93 lf_14_38 (Or.inl rfl) (ka_130 hM) rfl ?_
  refine iq_iconst hS 97 J_MPlaceRows_enter_d96 (v := 1) (by decide +kernel) rfl ?_
  refine iq_iadd hS 98 J_MPlaceRows_enter_d97 rfl ?_
  refine iq_putI hS 101 J_MPlaceRows_enter_d98 lf_14_38 (Or.inl rfl) rfl (ka_130 hM) rfl ?_
  exact iq_ret J_MPlaceRows_enter_d101 rfl ⟨rfl, hM, ed_some h⟩
noncomputable def f_MPlaceRows_look_L42 (v20 : Int32) (v21 : Int32) (v22 : Int32) (v23 : Int32) (v24 : Int32) (v25 : Int32) (x26 : Int32) (M27 : im_M) : Option ((Int32 × im_M) ⊕ ((im_M) ⊕ (Int32 × im_M))) := if 4 ≤ x26 then some (.inr (.inl M27)) else bd1 (f_MPlaceRows_wrong v25 v24 v20 v21 x26 v22 M27) fun (x28 : Int32) => jn1 (fun (M31 : im_M) => some (.inl ((x26 + 1), M31))) fun k29 => if v22 < x28 then k29 M27 else if ¬ (im_i M27 130 8) = 300 then bd1 (f_MPlaceRows_enter v25 v24 v20 v21 x26 x28 M27) fun (M30 : im_M) => k29 M30 else some (.inr (.inr (0, M27)))
noncomputable def f_MPlaceRows_look_L26 (v11 : Int32) (v12 : Int32) (v13 : Int32) (v14 : Int32) (v15 : Int32) (x16 : Int32) (M17 : im_M) : Option ((Int32 × im_M) ⊕ ((im_M) ⊕ (Int32 × im_M))) := bd1 (f_MPlaceRows_isPlace x16 v15 v14 M17) fun (x18 : Int32) => if x18 = 0 then some (.inr (.inl M17)) else bs1 (lp (uc2 (f_MPlaceRows_look_L42 v11 v12 v13 v14 v15 x16)) (0, M17)) (fun (M40 : im_M) => some (.inl ((x16 + 1), M40))) (fun t => some (.inr (.inr t)))
noncomputable def f_MPlaceRows_look_L11 (v3 : Int32) (v4 : Int32) (v5 : Int32) (v6 : Int32) (x7 : Int32) (M8 : im_M) : Option ((Int32 × im_M) ⊕ ((im_M) ⊕ (Int32 × im_M))) := bd1 (f_MPlaceRows_isPlace 0 x7 v6 M8) fun (x9 : Int32) => if x9 = 0 then some (.inr (.inl M8)) else bs1 (lp (uc2 (f_MPlaceRows_look_L26 v3 v4 v5 v6 x7)) (0, M8)) (fun (M41 : im_M) => some (.inl ((x7 + 1), M41))) (fun t => some (.inr (.inr t)))
noncomputable def f_MPlaceRows_look (p0 : Int32) (p1 : Int32) (p2 : Int32) (M : im_M) : Option (Int32 × im_M) := bd1 (f_MPlaceRows_side p1 M) fun (x1 : Int32) => bs1 (lp (uc2 (f_MPlaceRows_look_L11 p0 p1 p2 (p0 * x1))) (0, M)) (fun (M42 : im_M) => some (1, M42)) (fun t => some t)
theorem J_MPlaceRows_look_d0 : decode J_MPlaceRows_look.2.1 0 = .ok (.iload_n 1, 1) := by decide +kernel
theorem J_MPlaceRows_look_d1 : decode J_MPlaceRows_look.2.1 1 = .ok (.iload_n 2, 1) := by decide +kernel
theorem J_MPlaceRows_look_d2 : decode J_MPlaceRows_look.2.1 2 = .ok (.invokestatic 59, 3) := by decide +kernel
theorem J_MPlaceRows_look_d5 : decode J_MPlaceRows_look.2.1 5 = .ok (.imul, 1) := by decide +kernel
theorem J_MPlaceRows_look_d6 : decode J_MPlaceRows_look.2.1 6 = .ok (.istore 4, 2) := by decide +kernel
theorem J_MPlaceRows_look_d8 : decode J_MPlaceRows_look.2.1 8 = .ok (.iconst 0, 1) := by decide +kernel
theorem J_MPlaceRows_look_d9 : decode J_MPlaceRows_look.2.1 9 = .ok (.istore 5, 2) := by decide +kernel
theorem J_MPlaceRows_look_d11 : decode J_MPlaceRows_look.2.1 11 = .ok (.aload_n 0, 1) := by decide +kernel
theorem J_MPlaceRows_look_d12 : decode J_MPlaceRows_look.2.1 12 = .ok (.iconst 0, 1) := by decide +kernel
theorem J_MPlaceRows_look_d13 : decode J_MPlaceRows_look.2.1 13 = .ok (.iload 5, 2) := by decide +kernel
theorem J_MPlaceRows_look_d15 : decode J_MPlaceRows_look.2.1 15 = .ok (.iload 4, 2) := by decide +kernel
theorem J_MPlaceRows_look_d17 : decode J_MPlaceRows_look.2.1 17 = .ok (.invokevirtual 67, 3) := by decide +kernel
theorem J_MPlaceRows_look_d20 : decode J_MPlaceRows_look.2.1 20 = .ok (.ifCond .eq 93, 3) := by decide +kernel
theorem J_MPlaceRows_look_d23 : decode J_MPlaceRows_look.2.1 23 = .ok (.iconst 0, 1) := by decide +kernel
theorem J_MPlaceRows_look_d24 : decode J_MPlaceRows_look.2.1 24 = .ok (.istore 6, 2) := by decide +kernel
theorem J_MPlaceRows_look_d26 : decode J_MPlaceRows_look.2.1 26 = .ok (.aload_n 0, 1) := by decide +kernel
theorem J_MPlaceRows_look_d27 : decode J_MPlaceRows_look.2.1 27 = .ok (.iload 6, 2) := by decide +kernel
theorem J_MPlaceRows_look_d29 : decode J_MPlaceRows_look.2.1 29 = .ok (.iload 5, 2) := by decide +kernel
theorem J_MPlaceRows_look_d31 : decode J_MPlaceRows_look.2.1 31 = .ok (.iload 4, 2) := by decide +kernel
theorem J_MPlaceRows_look_d33 : decode J_MPlaceRows_look.2.1 33 = .ok (.invokevirtual 67, 3) := by decide +kernel
theorem J_MPlaceRows_look_d36 : decode J_MPlaceRows_look.2.1 36 = .ok (.ifCond .eq 71, 3) := by decide +kernel
theorem J_MPlaceRows_look_d39 : decode J_MPlaceRows_look.2.1 39 = .ok (.iconst 0, 1) := by decide +kernel
theorem J_MPlaceRows_look_d40 : decode J_MPlaceRows_look.2.1 40 = .ok (.istore 7, 2) := by decide +kernel
theorem J_MPlaceRows_look_d42 : decode J_MPlaceRows_look.2.1 42 = .ok (.iload 7, 2) := by decide +kernel
theorem J_MPlaceRows_look_d44 : decode J_MPlaceRows_look.2.1 44 = .ok (.iconst 4, 1) := by decide +kernel
theorem J_MPlaceRows_look_d45 : decode J_MPlaceRows_look.2.1 45 = .ok (.if_icmp .ge 56, 3) := by decide +kernel
theorem J_MPlaceRows_look_d48 : decode J_MPlaceRows_look.2.1 48 = .ok (.aload_n 0, 1) := by decide +kernel
theorem J_MPlaceRows_look_d49 : decode J_MPlaceRows_look.2.1 49 = .ok (.iload 6, 2) := by decide +kernel
theorem J_MPlaceRows_look_d51 : decode J_MPlaceRows_look.2.1 51 = .ok (.iload 5, 2) := by decide +kernel
theorem J_MPlaceRows_look_d53 : decode J_MPlaceRows_look.2.1 53 = .ok (.iload_n 1, 1) := by decide +kernel
theorem J_MPlaceRows_look_d54 : decode J_MPlaceRows_look.2.1 54 = .ok (.iload_n 2, 1) := by decide +kernel
theorem J_MPlaceRows_look_d55 : decode J_MPlaceRows_look.2.1 55 = .ok (.iload 7, 2) := by decide +kernel
theorem J_MPlaceRows_look_d57 : decode J_MPlaceRows_look.2.1 57 = .ok (.iload_n 3, 1) := by decide +kernel
theorem J_MPlaceRows_look_d58 : decode J_MPlaceRows_look.2.1 58 = .ok (.invokevirtual 95, 3) := by decide +kernel
theorem J_MPlaceRows_look_d61 : decode J_MPlaceRows_look.2.1 61 = .ok (.istore 8, 2) := by decide +kernel
theorem J_MPlaceRows_look_d63 : decode J_MPlaceRows_look.2.1 63 = .ok (.iload 8, 2) := by decide +kernel
theorem J_MPlaceRows_look_d65 : decode J_MPlaceRows_look.2.1 65 = .ok (.iload_n 3, 1) := by decide +kernel
theorem J_MPlaceRows_look_d66 : decode J_MPlaceRows_look.2.1 66 = .ok (.if_icmp .gt 29, 3) := by decide +kernel
theorem J_MPlaceRows_look_d69 : decode J_MPlaceRows_look.2.1 69 = .ok (.aload_n 0, 1) := by decide +kernel
theorem J_MPlaceRows_look_d70 : decode J_MPlaceRows_look.2.1 70 = .ok (.getfield 38, 3) := by decide +kernel
theorem J_MPlaceRows_look_d73 : decode J_MPlaceRows_look.2.1 73 = .ok (.sipush 300, 3) := by decide +kernel
theorem J_MPlaceRows_look_d76 : decode J_MPlaceRows_look.2.1 76 = .ok (.if_icmp .ne 5, 3) := by decide +kernel
theorem J_MPlaceRows_look_d79 : decode J_MPlaceRows_look.2.1 79 = .ok (.iconst 0, 1) := by decide +kernel
theorem J_MPlaceRows_look_d80 : decode J_MPlaceRows_look.2.1 80 = .ok (.ireturn, 1) := by decide +kernel
theorem J_MPlaceRows_look_d81 : decode J_MPlaceRows_look.2.1 81 = .ok (.aload_n 0, 1) := by decide +kernel
theorem J_MPlaceRows_look_d82 : decode J_MPlaceRows_look.2.1 82 = .ok (.iload 6, 2) := by decide +kernel
theorem J_MPlaceRows_look_d84 : decode J_MPlaceRows_look.2.1 84 = .ok (.iload 5, 2) := by decide +kernel
theorem J_MPlaceRows_look_d86 : decode J_MPlaceRows_look.2.1 86 = .ok (.iload_n 1, 1) := by decide +kernel
theorem J_MPlaceRows_look_d87 : decode J_MPlaceRows_look.2.1 87 = .ok (.iload_n 2, 1) := by decide +kernel
theorem J_MPlaceRows_look_d88 : decode J_MPlaceRows_look.2.1 88 = .ok (.iload 7, 2) := by decide +kernel
theorem J_MPlaceRows_look_d90 : decode J_MPlaceRows_look.2.1 90 = .ok (.iload 8, 2) := by decide +kernel
theorem J_MPlaceRows_look_d92 : decode J_MPlaceRows_look.2.1 92 = .ok (.invokevirtual 98, 3) := by decide +kernel
theorem J_MPlaceRows_look_d95 : decode J_MPlaceRows_look.2.1 95 = .ok (.iinc 7 1, 3) := by decide +kernel
theorem J_MPlaceRows_look_d98 : decode J_MPlaceRows_look.2.1 98 = .ok (.goto (-56), 3) := by decide +kernel
theorem J_MPlaceRows_look_d101 : decode J_MPlaceRows_look.2.1 101 = .ok (.iinc 6 1, 3) := by decide +kernel
theorem J_MPlaceRows_look_d104 : decode J_MPlaceRows_look.2.1 104 = .ok (.goto (-78), 3) := by decide +kernel
theorem J_MPlaceRows_look_d107 : decode J_MPlaceRows_look.2.1 107 = .ok (.iinc 5 1, 3) := by decide +kernel
theorem J_MPlaceRows_look_d110 : decode J_MPlaceRows_look.2.1 110 = .ok (.goto (-99), 3) := by decide +kernel
theorem J_MPlaceRows_look_d113 : decode J_MPlaceRows_look.2.1 113 = .ok (.iconst 1, 1) := by decide +kernel
theorem J_MPlaceRows_look_d114 : decode J_MPlaceRows_look.2.1 114 = .ok (.ireturn, 1) := by decide +kernel
theorem f_MPlaceRows_look_ok {L : Nat} {xs : Nat → Int32} {dep : Nat} {w : Bool} {p0 : Int32} {p1 : Int32} {p2 : Int32} {M : im_M} {Q : Int32 × im_M → Prop} (hM : lw_S w M) (h : ed (f_MPlaceRows_look p0 p1 p2 M) Q) : ia (tb_G L xs) (dep + 3) J_MPlaceRows_look (rwI w Q) (0, lv_args 0 [.ref 130, .int p0, .int p1, .int p2], [], M) := by
  have hS : im_St (tb_G L xs) (dep + 3) J_MPlaceRows_look (ia (tb_G L xs) (dep + 3) J_MPlaceRows_look (rwI w Q)) := ia_St
  unfold f_MPlaceRows_look at h
  have l0 : im_lk (lv_args 0 [.ref 130, .int p0, .int p1, .int p2]) 0 = some (.ref 130) := rfl
  have l1 : im_lk (lv_args 0 [.ref 130, .int p0, .int p1, .int p2]) 1 = some (.int p0) := rfl
  have l2 : im_lk (lv_args 0 [.ref 130, .int p0, .int p1, .int p2]) 2 = some (.int p1) := rfl
  have l3 : im_lk (lv_args 0 [.ref 130, .int p0, .int p1, .int p2]) 3 = some (.int p2) := rfl
  refine iq_iload_n hS 1 J_MPlaceRows_look_d0 l1 rfl ?_
  refine iq_iload_n hS 2 J_MPlaceRows_look_d1 l2 rfl ?_
  obtain ⟨Q1, hQ1, h⟩ := bd1_ed h
  refine iq_cpI hS 5 J_MPlaceRows_look_d2 rfl (pr_stat (vs := [_]) lc_14_59 lT_458 rfl rfl (by decide) rfl (Nat.le_of_ble_eq_true rfl) (Nat.le_of_ble_eq_true rfl)) (f_MPlaceRows_side_ok (dep := dep + 2) hM h) rfl ?_
  intro x1 h
  replace h := hQ1 _ h
  refine iq_imul hS 6 J_MPlaceRows_look_d5 rfl ?_
  refine iq_istore hS 8 J_MPlaceRows_look_d6 (by decide) rfl ?_
  refine iq_iconst hS 9 J_MPlaceRows_look_d8 (v := 0) (by decide +kernel) rfl ?_
  refine iq_istore hS 11 J_MPlaceRows_look_d9 (by decide) rfl ?_
  obtain ⟨Q2, hQ2, hR2, h⟩ := bs1_ed h
  have K2 : ∀ (M3 : im_M) (L' : List (Nat × Value)), lw_S w M3 → Q2 (.inl M3) → ia (tb_G L xs) (dep + 3) J_MPlaceRows_look (rwI w Q) (113, L', [], M3) := by
    intro M3 L' hM3  h
    replace h := hQ2 _ h
    refine iq_iconst hS 114 J_MPlaceRows_look_d113 (v := 1) (by decide +kernel) rfl ?_
    exact iq_iret J_MPlaceRows_look_d114 rfl rfl ⟨_, rfl, hM3, ed_some h⟩
  obtain ⟨r2, hr2, hq2⟩ := h
  obtain ⟨n2, hn2⟩ := lp_n hr2
  have I2 : ∀ (n : Nat) (x4 : Int32) (M5 : im_M) (L' : List (Nat × Value)), lw_S w M5 → im_lk L' 0 = some (.ref 130) → im_lk L' 1 = some (.int p0) → im_lk L' 2 = some (.int p1) → im_lk L' 3 = some (.int p2) → im_lk L' 4 = some (.int (p0 * x1)) → im_lk L' 5 = some (.int x4) → lpn (uc2 (f_MPlaceRows_look_L11 p0 p1 p2 (p0 * x1))) n (x4, M5) = some r2 → ia (tb_G L xs) (dep + 3) J_MPlaceRows_look (rwI w Q) (11, L', [], M5) := by
    intro n
    induction n with
    | zero => intro x4 M5 L' hM5 l6 l7 l8 l9 l10 l11 hn; exact (lpn_0 hn).elim
    | succ n ih =>
      intro x4 M5 L' hM5 l6 l7 l8 l9 l10 l11 hn
      have h := lpn_ed2 hn
      unfold f_MPlaceRows_look_L11 at h
      refine iq_aload_n hS 12 J_MPlaceRows_look_d11 l6 rfl ?_
      refine iq_iconst hS 13 J_MPlaceRows_look_d12 (v := 0) (by decide +kernel) rfl ?_
      refine iq_iload hS 15 J_MPlaceRows_look_d13 l11 rfl ?_
      refine iq_iload hS 17 J_MPlaceRows_look_d15 l10 rfl ?_
      obtain ⟨Q12, hQ12, h⟩ := bd1_ed h
      refine iq_cpI hS 20 J_MPlaceRows_look_d17 rfl (pr_inst (vs := [_, _, _]) lc_14_67 lT_463 rfl rfl (by decide) (by decide) rfl (Nat.le_of_ble_eq_true rfl) (Nat.le_of_ble_eq_true rfl) (fun _ => Or.inl (pr_b (ka_130 hM5) (by decide) rfl))) (f_MPlaceRows_isPlace_ok (dep := dep + 2) hM5 h) rfl ?_
      intro x12 h
      replace h := hQ12 _ h
      refine iq_if_eq hS 23 J_MPlaceRows_look_d20 (t := 113) rfl (fun q20 => ?_) rfl (fun q20 => ?_)
      · replace h := ed_pos q20 h
        exact K2 _ _ hM5  (lq_r h hq2)
      · replace h := ed_neg q20 h
        refine iq_iconst hS 24 J_MPlaceRows_look_d23 (v := 0) (by decide +kernel) rfl ?_
        refine iq_istore hS 26 J_MPlaceRows_look_d24 (by decide) rfl ?_
        obtain ⟨Q13, hQ13, hR13, h⟩ := bs1_ed h
        have K13 : ∀ (M14 : im_M) (L' : List (Nat × Value)), lw_S w M14 → im_lk L' 0 = some (.ref 130) → im_lk L' 1 = some (.int p0) → im_lk L' 2 = some (.int p1) → im_lk L' 3 = some (.int p2) → im_lk L' 4 = some (.int (p0 * x1)) → im_lk L' 5 = some (.int x4) → Q13 (.inl M14) → ia (tb_G L xs) (dep + 3) J_MPlaceRows_look (rwI w Q) (107, L', [], M14) := by
          intro M14 L' hM14 l15 l16 l17 l18 l19 l20 h
          replace h := hQ13 _ h
          refine iq_iincv hS 110 J_MPlaceRows_look_d107 (c := 1) (by decide +kernel) l20 (by decide) rfl ?_
          refine iq_goto hS J_MPlaceRows_look_d110 (t := 11) rfl ?_
          exact ih _ _ _ hM14 (lk_1r l15 (by decide)) (lk_1i l16 (by decide)) (lk_1i l17 (by decide)) (lk_1i l18 (by decide)) (lk_1i l19 (by decide)) lk_1s (lq_l h)
        obtain ⟨r13, hr13, hq13⟩ := h
        obtain ⟨n13, hn13⟩ := lp_n hr13
        have I13 : ∀ (n : Nat) (x21 : Int32) (M22 : im_M) (L' : List (Nat × Value)), lw_S w M22 → im_lk L' 0 = some (.ref 130) → im_lk L' 1 = some (.int p0) → im_lk L' 2 = some (.int p1) → im_lk L' 3 = some (.int p2) → im_lk L' 4 = some (.int (p0 * x1)) → im_lk L' 5 = some (.int x4) → im_lk L' 6 = some (.int x21) → lpn (uc2 (f_MPlaceRows_look_L26 p0 p1 p2 (p0 * x1) x4)) n (x21, M22) = some r13 → ia (tb_G L xs) (dep + 3) J_MPlaceRows_look (rwI w Q) (26, L', [], M22) := by
          intro n
          induction n with
          | zero => intro x21 M22 L' hM22 l23 l24 l25 l26 l27 l28 l29 hn; exact (lpn_0 hn).elim
          | succ n ih =>
            intro x21 M22 L' hM22 l23 l24 l25 l26 l27 l28 l29 hn
            have h := lpn_ed2 hn
            unfold f_MPlaceRows_look_L26 at h
            refine iq_aload_n hS 27 J_MPlaceRows_look_d26 l23 rfl ?_
            refine iq_iload hS 29 J_MPlaceRows_look_d27 l29 rfl ?_
            refine iq_iload hS 31 J_MPlaceRows_look_d29 l28 rfl ?_
            refine iq_iload hS 33 J_MPlaceRows_look_d31 l27 rfl ?_
            obtain ⟨Q30, hQ30, h⟩ := bd1_ed h
            refine iq_cpI hS 36 J_MPlaceRows_look_d33 rfl (pr_inst (vs := [_, _, _]) lc_14_67 lT_463 rfl rfl (by decide) (by decide) rfl (Nat.le_of_ble_eq_true rfl) (Nat.le_of_ble_eq_true rfl) (fun _ => Or.inl (pr_b (ka_130 hM22) (by decide) rfl))) (f_MPlaceRows_isPlace_ok (dep := dep + 2) hM22 h) rfl ?_
            intro x30 h
            replace h := hQ30 _ h
            refine iq_if_eq hS 39 J_MPlaceRows_look_d36 (t := 107) rfl (fun q36 => ?_) rfl (fun q36 => ?_)
            · replace h := ed_pos q36 h
              exact K13 _ _ hM22 l23 l24 l25 l26 l27 l28 (lq_r h hq13)
            · replace h := ed_neg q36 h
              refine iq_iconst hS 40 J_MPlaceRows_look_d39 (v := 0) (by decide +kernel) rfl ?_
              refine iq_istore hS 42 J_MPlaceRows_look_d40 (by decide) rfl ?_
              obtain ⟨Q31, hQ31, hR31, h⟩ := bs1_ed h
              have K31 : ∀ (M32 : im_M) (L' : List (Nat × Value)), lw_S w M32 → im_lk L' 0 = some (.ref 130) → im_lk L' 1 = some (.int p0) → im_lk L' 2 = some (.int p1) → im_lk L' 3 = some (.int p2) → im_lk L' 4 = some (.int (p0 * x1)) → im_lk L' 5 = some (.int x4) → im_lk L' 6 = some (.int x21) → Q31 (.inl M32) → ia (tb_G L xs) (dep + 3) J_MPlaceRows_look (rwI w Q) (101, L', [], M32) := by
                intro M32 L' hM32 l33 l34 l35 l36 l37 l38 l39 h
                replace h := hQ31 _ h
                refine iq_iincv hS 104 J_MPlaceRows_look_d101 (c := 1) (by decide +kernel) l39 (by decide) rfl ?_
                refine iq_goto hS J_MPlaceRows_look_d104 (t := 26) rfl ?_
                exact ih _ _ _ hM32 (lk_1r l33 (by decide)) (lk_1i l34 (by decide)) (lk_1i l35 (by decide)) (lk_1i l36 (by decide)) (lk_1i l37 (by decide)) (lk_1i l38 (by decide)) lk_1s (lq_l h)
              obtain ⟨r31, hr31, hq31⟩ := h
              obtain ⟨n31, hn31⟩ := lp_n hr31
              have I31 : ∀ (n : Nat) (x40 : Int32) (M41 : im_M) (L' : List (Nat × Value)), lw_S w M41 → im_lk L' 0 = some (.ref 130) → im_lk L' 1 = some (.int p0) → im_lk L' 2 = some (.int p1) → im_lk L' 3 = some (.int p2) → im_lk L' 4 = some (.int (p0 * x1)) → im_lk L' 5 = some (.int x4) → im_lk L' 6 = some (.int x21) → im_lk L' 7 = some (.int x40) → lpn (uc2 (f_MPlaceRows_look_L42 p0 p1 p2 (p0 * x1) x4 x21)) n (x40, M41) = some r31 → ia (tb_G L xs) (dep + 3) J_MPlaceRows_look (rwI w Q) (42, L', [], M41) := by
                intro n
                induction n with
                | zero => intro x40 M41 L' hM41 l42 l43 l44 l45 l46 l47 l48 l49 hn; exact (lpn_0 hn).elim
                | succ n ih =>
                  intro x40 M41 L' hM41 l42 l43 l44 l45 l46 l47 l48 l49 hn
                  have h := lpn_ed2 hn
                  unfold f_MPlaceRows_look_L42 at h
                  refine iq_iload hS 44 J_MPlaceRows_look_d42 l49 rfl ?_
                  refine iq_iconst hS 45 J_MPlaceRows_look_d44 (v := 4) (by decide +kernel) rfl ?_
                  refine iq_icmp_ge hS 48 J_MPlaceRows_look_d45 (t := 101) rfl (fun q45 => ?_) rfl (fun q45 => ?_)
                  · replace h := ed_pos q45 h
                    exact K31 _ _ hM41 l42 l43 l44 l45 l46 l47 l48 (lq_r h hq31)
                  · replace h := ed_neg q45 h
                    refine iq_aload_n hS 49 J_MPlaceRows_look_d48 l42 rfl ?_
                    refine iq_iload hS 51 J_MPlaceRows_look_d49 l48 rfl ?_
                    refine iq_iload hS 53 J_MPlaceRows_look_d51 l47 rfl ?_
                    refine iq_iload_n hS 54 J_MPlaceRows_look_d53 l43 rfl ?_
                    refine iq_iload_n hS 55 J_MPlaceRows_look_d54 l44 rfl ?_
                    refine iq_iload hS 57 J_MPlaceRows_look_d55 l49 rfl ?_
                    refine iq_iload_n hS 58 J_MPlaceRows_look_d57 l45 rfl ?_
                    obtain ⟨Q50, hQ50, h⟩ := bd1_ed h
                    refine iq_cpI hS 61 J_MPlaceRows_look_d58 rfl (pr_inst (vs := [_, _, _, _, _, _]) lc_14_95 lT_464 rfl rfl (by decide) (by decide) rfl (Nat.le_of_ble_eq_true rfl) (Nat.le_of_ble_eq_true rfl) (fun _ => Or.inl (pr_b (ka_130 hM41) (by decide) rfl))) (f_MPlaceRows_wrong_ok (dep := dep + 0) hM41 h) rfl ?_
                    intro x50 h
                    replace h := hQ50 _ h
                    refine iq_istore hS 63 J_MPlaceRows_look_d61 (by decide) rfl ?_
                    refine iq_iload hS 65 J_MPlaceRows_look_d63 lk_1s rfl ?_
                    refine iq_iload_n hS 66 J_MPlaceRows_look_d65 (lk_1i l45 (by decide)) rfl ?_
                    obtain ⟨k51, Q51, hQ51, hk51, h⟩ := jn1_ed h
                    have J51 : ∀ (M53 : im_M) (L' : List (Nat × Value)), lw_S w M53 → im_lk L' 0 = some (.ref 130) → im_lk L' 1 = some (.int p0) → im_lk L' 2 = some (.int p1) → im_lk L' 3 = some (.int p2) → im_lk L' 4 = some (.int (p0 * x1)) → im_lk L' 5 = some (.int x4) → im_lk L' 6 = some (.int x21) → im_lk L' 7 = some (.int x40) → Q51 M53 → ia (tb_G L xs) (dep + 3) J_MPlaceRows_look (rwI w Q) (95, L', [], M53) := by
                      intro M53 L' hM53 l54 l55 l56 l57 l58 l59 l60 l61 h
                      replace h := hQ51 _ h
                      refine iq_iincv hS 98 J_MPlaceRows_look_d95 (c := 1) (by decide +kernel) l61 (by decide) rfl ?_
                      refine iq_goto hS J_MPlaceRows_look_d98 (t := 42) rfl ?_
                      exact ih _ _ _ hM53 (lk_1r l54 (by decide)) (lk_1i l55 (by decide)) (lk_1i l56 (by decide)) (lk_1i l57 (by decide)) (lk_1i l58 (by decide)) (lk_1i l59 (by decide)) (lk_1i l60 (by decide)) lk_1s (lq_l h)
                    refine iq_icmp_gt hS 69 J_MPlaceRows_look_d66 (t := 95) rfl (fun q66 => ?_) rfl (fun q66 => ?_)
                    · replace h := ed_pos q66 h
                      exact J51 _ _ hM41 (lk_1r l42 (by decide)) (lk_1i l43 (by decide)) (lk_1i l44 (by decide)) (lk_1i l45 (by decide)) (lk_1i l46 (by decide)) (lk_1i l47 (by decide)) (lk_1i l48 (by decide)) (lk_1i l49 (by decide)) (hk51 _ h)
                    · replace h := ed_neg q66 h
                      refine iq_aload_n hS 70 J_MPlaceRows_look_d69 (lk_1r l42 (by decide)) rfl ?_
                      refine iq_getI hS 73 J_MPlaceRows_look_d70 lf_14_38 (Or.inl rfl) (ka_130 hM41) rfl ?_
                      refine iq_sipush hS 76 J_MPlaceRows_look_d73 (v := 300) (by decide +kernel) rfl ?_
                      refine iq_icmp_ne hS 79 J_MPlaceRows_look_d76 (t := 81) rfl (fun q76 => ?_) rfl (fun q76 => ?_)
                      · replace h := ed_pos q76 h
                        refine iq_aload_n hS 82 J_MPlaceRows_look_d81 (lk_1r l42 (by decide)) rfl ?_
                        refine iq_iload hS 84 J_MPlaceRows_look_d82 (lk_1i l48 (by decide)) rfl ?_
                        refine iq_iload hS 86 J_MPlaceRows_look_d84 (lk_1i l47 (by decide)) rfl ?_
                        refine iq_iload_n hS 87 J_MPlaceRows_look_d86 (lk_1i l43 (by decide)) rfl ?_
                        refine iq_iload_n hS 88 J_MPlaceRows_look_d87 (lk_1i l44 (by decide)) rfl ?_
                        refine iq_iload hS 90 J_MPlaceRows_look_d88 (lk_1i l49 (by decide)) rfl ?_
                        refine iq_iload hS 92 J_MPlaceRows_look_d90 lk_1s rfl ?_
                        obtain ⟨Q52, hQ52, h⟩ := bd1_ed h
                        refine iq_cwV hS 95 J_MPlaceRows_look_d92 rfl (pr_inst (vs := [_, _, _, _, _, _]) lc_14_98 lT_469 rfl rfl (by decide) (by decide) rfl (Nat.le_of_ble_eq_true rfl) (Nat.le_of_ble_eq_true rfl) (fun _ => Or.inl (pr_b (ka_130 hM41) (by decide) rfl))) (f_MPlaceRows_enter_ok (dep := dep + 2) hM41 h) rfl ?_
                        intro M52 hM52 h
                        replace h := hQ52 _ h
                        exact J51 _ _ hM52 (lk_1r l42 (by decide)) (lk_1i l43 (by decide)) (lk_1i l44 (by decide)) (lk_1i l45 (by decide)) (lk_1i l46 (by decide)) (lk_1i l47 (by decide)) (lk_1i l48 (by decide)) (lk_1i l49 (by decide)) (hk51 _ h)
                      · replace h := ed_neg q76 h
                        refine iq_iconst hS 80 J_MPlaceRows_look_d79 (v := 0) (by decide +kernel) rfl ?_
                        exact iq_iret J_MPlaceRows_look_d80 rfl rfl ⟨_, rfl, hM41, ed_some (hR2 _ (lq_r (hR13 _ (lq_r (hR31 _ (lq_r h hq31)) hq13)) hq2))⟩
              exact I31 n31 _ _ _ hM22 (lk_1r l23 (by decide)) (lk_1i l24 (by decide)) (lk_1i l25 (by decide)) (lk_1i l26 (by decide)) (lk_1i l27 (by decide)) (lk_1i l28 (by decide)) (lk_1i l29 (by decide)) lk_1s hn31
        exact I13 n13 _ _ _ hM5 (lk_1r l6 (by decide)) (lk_1i l7 (by decide)) (lk_1i l8 (by decide)) (lk_1i l9 (by decide)) (lk_1i l10 (by decide)) (lk_1i l11 (by decide)) lk_1s hn13
  exact I2 n2 _ _ _ hM (lk_1r (lk_1r l0 (by decide)) (by decide)) (lk_1i (lk_1i l1 (by decide)) (by decide)) (lk_1i (lk_1i l2 (by decide)) (by decide)) (lk_1i (lk_1i l3 (by decide)) (by decide)) (lk_1i lk_1s (by decide)) lk_1s hn2
