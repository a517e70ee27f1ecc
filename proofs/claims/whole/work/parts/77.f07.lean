/-! METHODS AS FUNCTIONS -/
noncomputable def f_HBars_readSymbols_L29 (x3 : Int32) (M4 : im_M) : Option ((Int32 × im_M) ⊕ ((im_M) ⊕ (Int32 × im_M))) := if ((im_i M4 31 11) - 7) ≤ x3 then some (.inr (.inl M4)) else bd1 (f_HBars_patternAt x3 6 11 M4) fun (x5 : Int32) => bd1 (f_HBars_indexOf_3 x5 M4) fun (x6 : Int32) => if x6 = (-1) then some (.inr (.inr (0, M4))) else jn0 (fun (_ : Unit) => bd1 (f_HBars_addSymbol x6 M4) fun (M12 : im_M) => some (.inl ((x3 + 6), M12))) fun k7 => if ¬ x3 = 0 then k7 () else if 103 ≤ x6 then k7 () else some (.inr (.inr (0, M4)))
noncomputable def f_HBars_readSymbols (M : im_M) : Option (Int32 × im_M) := bd1 (f_HBars_patternAt ((im_i M 31 11) - 7) 7 13 M) fun (x1 : Int32) => if x1 = 2331112 then bs1 (lp (uc2 (f_HBars_readSymbols_L29)) (0, (im_setI M 31 9 0))) (fun (M13 : im_M) => gd (inb ((im_i M13 31 9) - 1) 140) <| bd1 (f_HBars_checkSymbol ((im_i M13 31 9) - 1) M13) fun (x14 : Int32) => if ¬ (im_i M13 36 (Int32.toNatClampNeg ((im_i M13 31 9) - 1))) = x14 then some (0, M13) else bd2 (f_HBars_tell ((im_i M13 31 9) - 1) M13) fun (x15 : Int32) (M15 : im_M) => if x15 = 0 then some (0, M15) else some (1, M15)) (fun t => some t) else some (0, M)
theorem J_HBars_readSymbols_d0 : decode J_HBars_readSymbols.2.1 0 = .ok (.aload_n 0, 1) := by decide +kernel
theorem J_HBars_readSymbols_d1 : decode J_HBars_readSymbols.2.1 1 = .ok (.aload_n 0, 1) := by decide +kernel
theorem J_HBars_readSymbols_d2 : decode J_HBars_readSymbols.2.1 2 = .ok (.getfield 115, 3) := by decide +kernel
theorem J_HBars_readSymbols_d5 : decode J_HBars_readSymbols.2.1 5 = .ok (.bipush 7, 2) := by decide +kernel
theorem J_HBars_readSymbols_d7 : decode J_HBars_readSymbols.2.1 7 = .ok (.isub, 1) := by decide +kernel
theorem J_HBars_readSymbols_d8 : decode J_HBars_readSymbols.2.1 8 = .ok (.bipush 7, 2) := by decide +kernel
theorem J_HBars_readSymbols_d10 : decode J_HBars_readSymbols.2.1 10 = .ok (.bipush 13, 2) := by decide +kernel
theorem J_HBars_readSymbols_d12 : decode J_HBars_readSymbols.2.1 12 = .ok (.invokevirtual 149, 3) := by decide +kernel
theorem J_HBars_readSymbols_d15 : decode J_HBars_readSymbols.2.1 15 = .ok (.ldc 97, 2) := by decide +kernel
theorem J_HBars_readSymbols_d17 : decode J_HBars_readSymbols.2.1 17 = .ok (.if_icmp .eq 5, 3) := by decide +kernel
theorem J_HBars_readSymbols_d20 : decode J_HBars_readSymbols.2.1 20 = .ok (.iconst 0, 1) := by decide +kernel
theorem J_HBars_readSymbols_d21 : decode J_HBars_readSymbols.2.1 21 = .ok (.ireturn, 1) := by decide +kernel
theorem J_HBars_readSymbols_d22 : decode J_HBars_readSymbols.2.1 22 = .ok (.aload_n 0, 1) := by decide +kernel
theorem J_HBars_readSymbols_d23 : decode J_HBars_readSymbols.2.1 23 = .ok (.iconst 0, 1) := by decide +kernel
theorem J_HBars_readSymbols_d24 : decode J_HBars_readSymbols.2.1 24 = .ok (.putfield 73, 3) := by decide +kernel
theorem J_HBars_readSymbols_d27 : decode J_HBars_readSymbols.2.1 27 = .ok (.iconst 0, 1) := by decide +kernel
theorem J_HBars_readSymbols_d28 : decode J_HBars_readSymbols.2.1 28 = .ok (.istore_n 2, 1) := by decide +kernel
theorem J_HBars_readSymbols_d29 : decode J_HBars_readSymbols.2.1 29 = .ok (.iload_n 2, 1) := by decide +kernel
theorem J_HBars_readSymbols_d30 : decode J_HBars_readSymbols.2.1 30 = .ok (.aload_n 0, 1) := by decide +kernel
theorem J_HBars_readSymbols_d31 : decode J_HBars_readSymbols.2.1 31 = .ok (.getfield 115, 3) := by decide +kernel
theorem J_HBars_readSymbols_d34 : decode J_HBars_readSymbols.2.1 34 = .ok (.bipush 7, 2) := by decide +kernel
theorem J_HBars_readSymbols_d36 : decode J_HBars_readSymbols.2.1 36 = .ok (.isub, 1) := by decide +kernel
theorem J_HBars_readSymbols_d37 : decode J_HBars_readSymbols.2.1 37 = .ok (.if_icmp .ge 47, 3) := by decide +kernel
theorem J_HBars_readSymbols_d40 : decode J_HBars_readSymbols.2.1 40 = .ok (.getstatic 89, 3) := by decide +kernel
theorem J_HBars_readSymbols_d43 : decode J_HBars_readSymbols.2.1 43 = .ok (.aload_n 0, 1) := by decide +kernel
theorem J_HBars_readSymbols_d44 : decode J_HBars_readSymbols.2.1 44 = .ok (.iload_n 2, 1) := by decide +kernel
theorem J_HBars_readSymbols_d45 : decode J_HBars_readSymbols.2.1 45 = .ok (.bipush 6, 2) := by decide +kernel
theorem J_HBars_readSymbols_d47 : decode J_HBars_readSymbols.2.1 47 = .ok (.bipush 11, 2) := by decide +kernel
theorem J_HBars_readSymbols_d49 : decode J_HBars_readSymbols.2.1 49 = .ok (.invokevirtual 149, 3) := by decide +kernel
theorem J_HBars_readSymbols_d52 : decode J_HBars_readSymbols.2.1 52 = .ok (.invokestatic 152, 3) := by decide +kernel
theorem J_HBars_readSymbols_d55 : decode J_HBars_readSymbols.2.1 55 = .ok (.istore_n 3, 1) := by decide +kernel
theorem J_HBars_readSymbols_d56 : decode J_HBars_readSymbols.2.1 56 = .ok (.iload_n 3, 1) := by decide +kernel
theorem J_HBars_readSymbols_d57 : decode J_HBars_readSymbols.2.1 57 = .ok (.iconst (-1), 1) := by decide +kernel
theorem J_HBars_readSymbols_d58 : decode J_HBars_readSymbols.2.1 58 = .ok (.if_icmp .eq 13, 3) := by decide +kernel
theorem J_HBars_readSymbols_d61 : decode J_HBars_readSymbols.2.1 61 = .ok (.iload_n 2, 1) := by decide +kernel
theorem J_HBars_readSymbols_d62 : decode J_HBars_readSymbols.2.1 62 = .ok (.ifCond .ne 11, 3) := by decide +kernel
theorem J_HBars_readSymbols_d65 : decode J_HBars_readSymbols.2.1 65 = .ok (.iload_n 3, 1) := by decide +kernel
theorem J_HBars_readSymbols_d66 : decode J_HBars_readSymbols.2.1 66 = .ok (.bipush 103, 2) := by decide +kernel
theorem J_HBars_readSymbols_d68 : decode J_HBars_readSymbols.2.1 68 = .ok (.if_icmp .ge 5, 3) := by decide +kernel
theorem J_HBars_readSymbols_d71 : decode J_HBars_readSymbols.2.1 71 = .ok (.iconst 0, 1) := by decide +kernel
theorem J_HBars_readSymbols_d72 : decode J_HBars_readSymbols.2.1 72 = .ok (.ireturn, 1) := by decide +kernel
theorem J_HBars_readSymbols_d73 : decode J_HBars_readSymbols.2.1 73 = .ok (.aload_n 0, 1) := by decide +kernel
theorem J_HBars_readSymbols_d74 : decode J_HBars_readSymbols.2.1 74 = .ok (.iload_n 3, 1) := by decide +kernel
theorem J_HBars_readSymbols_d75 : decode J_HBars_readSymbols.2.1 75 = .ok (.invokevirtual 79, 3) := by decide +kernel
theorem J_HBars_readSymbols_d78 : decode J_HBars_readSymbols.2.1 78 = .ok (.iinc 2 6, 3) := by decide +kernel
theorem J_HBars_readSymbols_d81 : decode J_HBars_readSymbols.2.1 81 = .ok (.goto (-52), 3) := by decide +kernel
theorem J_HBars_readSymbols_d84 : decode J_HBars_readSymbols.2.1 84 = .ok (.aload_n 0, 1) := by decide +kernel
theorem J_HBars_readSymbols_d85 : decode J_HBars_readSymbols.2.1 85 = .ok (.getfield 73, 3) := by decide +kernel
theorem J_HBars_readSymbols_d88 : decode J_HBars_readSymbols.2.1 88 = .ok (.iconst 1, 1) := by decide +kernel
theorem J_HBars_readSymbols_d89 : decode J_HBars_readSymbols.2.1 89 = .ok (.isub, 1) := by decide +kernel
theorem J_HBars_readSymbols_d90 : decode J_HBars_readSymbols.2.1 90 = .ok (.istore_n 2, 1) := by decide +kernel
theorem J_HBars_readSymbols_d91 : decode J_HBars_readSymbols.2.1 91 = .ok (.aload_n 0, 1) := by decide +kernel
theorem J_HBars_readSymbols_d92 : decode J_HBars_readSymbols.2.1 92 = .ok (.getfield 26, 3) := by decide +kernel
theorem J_HBars_readSymbols_d95 : decode J_HBars_readSymbols.2.1 95 = .ok (.iload_n 2, 1) := by decide +kernel
theorem J_HBars_readSymbols_d96 : decode J_HBars_readSymbols.2.1 96 = .ok (.iaload, 1) := by decide +kernel
theorem J_HBars_readSymbols_d97 : decode J_HBars_readSymbols.2.1 97 = .ok (.aload_n 0, 1) := by decide +kernel
theorem J_HBars_readSymbols_d98 : decode J_HBars_readSymbols.2.1 98 = .ok (.iload_n 2, 1) := by decide +kernel
theorem J_HBars_readSymbols_d99 : decode J_HBars_readSymbols.2.1 99 = .ok (.invokevirtual 83, 3) := by decide +kernel
theorem J_HBars_readSymbols_d102 : decode J_HBars_readSymbols.2.1 102 = .ok (.if_icmp .ne 16, 3) := by decide +kernel
theorem J_HBars_readSymbols_d105 : decode J_HBars_readSymbols.2.1 105 = .ok (.aload_n 0, 1) := by decide +kernel
theorem J_HBars_readSymbols_d106 : decode J_HBars_readSymbols.2.1 106 = .ok (.iload_n 2, 1) := by decide +kernel
theorem J_HBars_readSymbols_d107 : decode J_HBars_readSymbols.2.1 107 = .ok (.aload_n 1, 1) := by decide +kernel
theorem J_HBars_readSymbols_d108 : decode J_HBars_readSymbols.2.1 108 = .ok (.invokevirtual 156, 3) := by decide +kernel
theorem J_HBars_readSymbols_d111 : decode J_HBars_readSymbols.2.1 111 = .ok (.ifCond .eq 7, 3) := by decide +kernel
theorem J_HBars_readSymbols_d114 : decode J_HBars_readSymbols.2.1 114 = .ok (.iconst 1, 1) := by decide +kernel
theorem J_HBars_readSymbols_d115 : decode J_HBars_readSymbols.2.1 115 = .ok (.goto 4, 3) := by decide +kernel
theorem J_HBars_readSymbols_d118 : decode J_HBars_readSymbols.2.1 118 = .ok (.iconst 0, 1) := by decide +kernel
theorem J_HBars_readSymbols_d119 : decode J_HBars_readSymbols.2.1 119 = .ok (.ireturn, 1) := by decide +kernel
theorem f_HBars_readSymbols_ok {L : Nat} {xs : Nat → Int32} {dep : Nat} {w : Bool} {M : im_M} {Q : Int32 × im_M → Prop} (hM : lw_S w M) (h : ed (f_HBars_readSymbols M) Q) : ia (tb_G L xs) (dep + 3) J_HBars_readSymbols (rwI w Q) (0, lv_args 0 [.ref 31, .ref 68], [], M) := by
  have hS : im_St (tb_G L xs) (dep + 3) J_HBars_readSymbols (ia (tb_G L xs) (dep + 3) J_HBars_readSymbols (rwI w Q)) := ia_St
  unfold f_HBars_readSymbols at h
  have l0 : im_lk (lv_args 0 [.ref 31, .ref 68]) 0 = some (.ref 31) := rfl
  have l1 : im_lk (lv_args 0 [.ref 31, .ref 68]) 1 = some (.ref 68) := rfl
  refine iq_aload_n hS 1 J_HBars_readSymbols_d0 l0 rfl ?_
  refine iq_aload_n hS 2 J_HBars_readSymbols_d1 l0 rfl ?_
  refine iq_getI hS 5 J_HBars_readSymbols_d2 lf_0_115 (Or.inl rfl) (ka_31 hM) rfl ?_
  refine iq_bipush hS 7 J_HBars_readSymbols_d5 (v := 7) (by decide +kernel) rfl ?_
  refine iq_isub hS 8 J_HBars_readSymbols_d7 rfl ?_
  refine iq_bipush hS 10 J_HBars_readSymbols_d8 (v := 7) (by decide +kernel) rfl ?_
  refine iq_bipush hS 12 J_HBars_readSymbols_d10 (v := 13) (by decide +kernel) rfl ?_
  obtain ⟨Q1, hQ1, h⟩ := bd1_ed h
  refine iq_cpI hS 15 J_HBars_readSymbols_d12 rfl (pr_inst (vs := [_, _, _]) lc_0_149 lT_255 rfl rfl (by decide) (by decide) rfl (Nat.le_of_ble_eq_true rfl) (Nat.le_of_ble_eq_true rfl) (fun _ => Or.inl (pr_b (ka_31 hM) (by decide) rfl))) (f_HBars_patternAt_ok (dep := dep + 0) hM h) rfl ?_
  intro x1 h
  replace h := hQ1 _ h
  refine iq_ldc hS 17 J_HBars_readSymbols_d15 lk_0_97 rfl ?_
  refine iq_icmp_eq hS 20 J_HBars_readSymbols_d17 (t := 22) rfl (fun q17 => ?_) rfl (fun q17 => ?_)
  · replace h := ed_pos q17 h
    refine iq_aload_n hS 23 J_HBars_readSymbols_d22 l0 rfl ?_
    refine iq_iconst hS 24 J_HBars_readSymbols_d23 (v := 0) (by decide +kernel) rfl ?_
    refine iq_putI hS 27 J_HBars_readSymbols_d24 lf_0_73 (Or.inl rfl) rfl (ka_31 hM) rfl ?_
    refine iq_iconst hS 28 J_HBars_readSymbols_d27 (v := 0) (by decide +kernel) rfl ?_
    refine iq_istore_n hS 29 J_HBars_readSymbols_d28 (by decide) rfl ?_
    obtain ⟨Q2, hQ2, hR2, h⟩ := bs1_ed h
    have K2 : ∀ (M3 : im_M) (L' : List (Nat × Value)), lw_S w M3 → im_lk L' 0 = some (.ref 31) → im_lk L' 1 = some (.ref 68) → Q2 (.inl M3) → ia (tb_G L xs) (dep + 3) J_HBars_readSymbols (rwI w Q) (84, L', [], M3) := by
      intro M3 L' hM3 l4 l5 h
      replace h := hQ2 _ h
      refine iq_aload_n hS 85 J_HBars_readSymbols_d84 l4 rfl ?_
      refine iq_getI hS 88 J_HBars_readSymbols_d85 lf_0_73 (Or.inl rfl) (ka_31 hM3) rfl ?_
      refine iq_iconst hS 89 J_HBars_readSymbols_d88 (v := 1) (by decide +kernel) rfl ?_
      refine iq_isub hS 90 J_HBars_readSymbols_d89 rfl ?_
      refine iq_istore_n hS 91 J_HBars_readSymbols_d90 (by decide) rfl ?_
      refine iq_aload_n hS 92 J_HBars_readSymbols_d91 (lk_1r l4 (by decide)) rfl ?_
      refine iq_getR hS 95 J_HBars_readSymbols_d92 lf_0_26 (Or.inr ⟨_, rfl⟩) (ka_31 hM3) (ra_31_8 hM3) rfl ?_
      refine iq_iload_n hS 96 J_HBars_readSymbols_d95 lk_1s rfl ?_
      obtain ⟨g96, h⟩ := ed_gd h
      refine iq_iaload hS 97 J_HBars_readSymbols_d96 ⟨(ka_36 hM3).1, (ka_36 hM3).2, g96.1, ix_lt (kl_36 hM3) g96.2⟩ rfl ?_
      refine iq_aload_n hS 98 J_HBars_readSymbols_d97 (lk_1r l4 (by decide)) rfl ?_
      refine iq_iload_n hS 99 J_HBars_readSymbols_d98 lk_1s rfl ?_
      obtain ⟨Q6, hQ6, h⟩ := bd1_ed h
      refine iq_cpI hS 102 J_HBars_readSymbols_d99 rfl (pr_inst (vs := [_]) lc_0_83 lT_125 rfl rfl (by decide) (by decide) rfl (Nat.le_of_ble_eq_true rfl) (Nat.le_of_ble_eq_true rfl) (fun _ => Or.inl (pr_b (ka_31 hM3) (by decide) rfl))) (f_HBars_checkSymbol_ok (dep := dep + 2) hM3 h) rfl ?_
      intro x6 h
      replace h := hQ6 _ h
      refine iq_icmp_ne hS 105 J_HBars_readSymbols_d102 (t := 118) rfl (fun q102 => ?_) rfl (fun q102 => ?_)
      · replace h := ed_pos q102 h
        refine iq_iconst hS 119 J_HBars_readSymbols_d118 (v := 0) (by decide +kernel) rfl ?_
        exact iq_iret J_HBars_readSymbols_d119 rfl rfl ⟨_, rfl, hM3, ed_some h⟩
      · replace h := ed_neg q102 h
        refine iq_aload_n hS 106 J_HBars_readSymbols_d105 (lk_1r l4 (by decide)) rfl ?_
        refine iq_iload_n hS 107 J_HBars_readSymbols_d106 lk_1s rfl ?_
        refine iq_aload_n hS 108 J_HBars_readSymbols_d107 (lk_1r l5 (by decide)) rfl ?_
        obtain ⟨Q7, hQ7, h⟩ := bd2_ed h
        refine iq_cwI hS 111 J_HBars_readSymbols_d108 rfl (pr_inst (vs := [_, _]) lc_0_156 lT_258 rfl rfl (by decide) (by decide) rfl (Nat.le_of_ble_eq_true rfl) (Nat.le_of_ble_eq_true rfl) (fun _ => Or.inl (pr_b (ka_31 hM3) (by decide) rfl))) (f_HBars_tell_ok (dep := dep + 1) hM3 h) rfl ?_
        intro x7 M7 hM7 h
        replace h := hQ7 _ _ h
        refine iq_if_eq hS 114 J_HBars_readSymbols_d111 (t := 118) rfl (fun q111 => ?_) rfl (fun q111 => ?_)
        · replace h := ed_pos q111 h
          refine iq_iconst hS 119 J_HBars_readSymbols_d118 (v := 0) (by decide +kernel) rfl ?_
          exact iq_iret J_HBars_readSymbols_d119 rfl rfl ⟨_, rfl, hM7, ed_some h⟩
        · replace h := ed_neg q111 h
          refine iq_iconst hS 115 J_HBars_readSymbols_d114 (v := 1) (by decide +kernel) rfl ?_
          refine iq_goto hS J_HBars_readSymbols_d115 (t := 119) rfl ?_
          exact iq_iret J_HBars_readSymbols_d119 rfl rfl ⟨_, rfl, hM7, ed_some h⟩
    obtain ⟨r2, hr2, hq2⟩ := h
    obtain ⟨n2, hn2⟩ := lp_n hr2
    have I2 : ∀ (n : Nat) (x8 : Int32) (M9 : im_M) (L' : List (Nat × Value)), lw_S w M9 → im_lk L' 0 = some (.ref 31) → im_lk L' 1 = some (.ref 68) → im_lk L' 2 = some (.int x8) → lpn (uc2 (f_HBars_readSymbols_L29)) n (x8, M9) = some r2 → ia (tb_G L xs) (dep + 3) J_HBars_readSymbols (rwI w Q) (29, L', [], M9) := by
      intro n
      induction n with
      | zero => intro x8 M9 L' hM9 l10 l11 l12 hn; exact (lpn_0 hn).elim
      | succ n ih =>
        intro x8 M9 L' hM9 l10 l11 l12 hn
        have h := lpn_ed2 hn
        unfold f_HBars_readSymbols_L29 at h
        refine iq_iload_n hS 30 J_HBars_readSymbols_d29 l12 rfl ?_
        refine iq_aload_n hS 31 J_HBars_readSymbols_d30 l10 rfl ?_
        refine iq_getI hS 34 J_HBars_readSymbols_d31 lf_0_115 (Or.inl rfl) (ka_31 hM9) rfl ?_
        refine iq_bipush hS 36 J_HBars_readSymbols_d34 (v := 7) (by decide +kernel) rfl ?_
        refine iq_isub hS 37 J_HBars_readSymbols_d36 rfl ?_
        refine iq_icmp_ge hS 40 J_HBars_readSymbols_d37 (t := 84) rfl (fun q37 => ?_) rfl (fun q37 => ?_)
        · replace h := ed_pos q37 h
          exact K2 _ _ hM9 l10 l11 (lq_r h hq2)
        · replace h := ed_neg q37 h
          refine iq_getstatic hS 43 J_HBars_readSymbols_d40 gs_0_89 rfl ?_
          refine iq_aload_n hS 44 J_HBars_readSymbols_d43 l10 rfl ?_
          refine iq_iload_n hS 45 J_HBars_readSymbols_d44 l12 rfl ?_
          refine iq_bipush hS 47 J_HBars_readSymbols_d45 (v := 6) (by decide +kernel) rfl ?_
          refine iq_bipush hS 49 J_HBars_readSymbols_d47 (v := 11) (by decide +kernel) rfl ?_
          obtain ⟨Q13, hQ13, h⟩ := bd1_ed h
          refine iq_cpI hS 52 J_HBars_readSymbols_d49 rfl (pr_inst (vs := [_, _, _]) lc_0_149 lT_255 rfl rfl (by decide) (by decide) rfl (Nat.le_of_ble_eq_true rfl) (Nat.le_of_ble_eq_true rfl) (fun _ => Or.inl (pr_b (ka_31 hM9) (by decide) rfl))) (f_HBars_patternAt_ok (dep := dep + 0) hM9 h) rfl ?_
          intro x13 h
          replace h := hQ13 _ h
          obtain ⟨Q14, hQ14, h⟩ := bd1_ed h
          refine iq_cpI hS 55 J_HBars_readSymbols_d52 rfl (pr_stat (vs := [_, _]) lc_0_152 lT_256 rfl rfl (by decide) rfl (Nat.le_of_ble_eq_true rfl) (Nat.le_of_ble_eq_true rfl)) (f_HBars_indexOf_3_ok (dep := dep + 2) hM9 h) rfl ?_
          intro x14 h
          replace h := hQ14 _ h
          refine iq_istore_n hS 56 J_HBars_readSymbols_d55 (by decide) rfl ?_
          refine iq_iload_n hS 57 J_HBars_readSymbols_d56 lk_1s rfl ?_
          refine iq_iconst hS 58 J_HBars_readSymbols_d57 (v := (-1)) (by decide +kernel) rfl ?_
          refine iq_icmp_eq hS 61 J_HBars_readSymbols_d58 (t := 71) rfl (fun q58 => ?_) rfl (fun q58 => ?_)
          · replace h := ed_pos q58 h
            refine iq_iconst hS 72 J_HBars_readSymbols_d71 (v := 0) (by decide +kernel) rfl ?_
            exact iq_iret J_HBars_readSymbols_d72 rfl rfl ⟨_, rfl, hM9, ed_some (hR2 _ (lq_r h hq2))⟩
          · replace h := ed_neg q58 h
            refine iq_iload_n hS 62 J_HBars_readSymbols_d61 (lk_1i l12 (by decide)) rfl ?_
            obtain ⟨k15, Q15, hQ15, hk15, h⟩ := jn0_ed h
            have J15 : ∀  (L' : List (Nat × Value)), im_lk L' 0 = some (.ref 31) → im_lk L' 1 = some (.ref 68) → im_lk L' 2 = some (.int x8) → im_lk L' 3 = some (.int x14) → Q15 () → ia (tb_G L xs) (dep + 3) J_HBars_readSymbols (rwI w Q) (73, L', [], M9) := by
              intro  L' l16 l17 l18 l19 h
              replace h := hQ15  h
              refine iq_aload_n hS 74 J_HBars_readSymbols_d73 l16 rfl ?_
              refine iq_iload_n hS 75 J_HBars_readSymbols_d74 l19 rfl ?_
              obtain ⟨Q20, hQ20, h⟩ := bd1_ed h
              refine iq_cwV hS 78 J_HBars_readSymbols_d75 rfl (pr_inst (vs := [_]) lc_0_79 lT_124 rfl rfl (by decide) (by decide) rfl (Nat.le_of_ble_eq_true rfl) (Nat.le_of_ble_eq_true rfl) (fun _ => Or.inl (pr_b (ka_31 hM9) (by decide) rfl))) (f_HBars_addSymbol_ok (dep := dep + 2) hM9 h) rfl ?_
              intro M20 hM20 h
              replace h := hQ20 _ h
              refine iq_iincv hS 81 J_HBars_readSymbols_d78 (c := 6) (by decide +kernel) l18 (by decide) rfl ?_
              refine iq_goto hS J_HBars_readSymbols_d81 (t := 29) rfl ?_
              exact ih _ _ _ hM20 (lk_1r l16 (by decide)) (lk_1r l17 (by decide)) lk_1s (lq_l h)
            refine iq_if_ne hS 65 J_HBars_readSymbols_d62 (t := 73) rfl (fun q62 => ?_) rfl (fun q62 => ?_)
            · replace h := ed_pos q62 h
              exact J15  _ (lk_1r l10 (by decide)) (lk_1r l11 (by decide)) (lk_1i l12 (by decide)) lk_1s (hk15  h)
            · replace h := ed_neg q62 h
              refine iq_iload_n hS 66 J_HBars_readSymbols_d65 lk_1s rfl ?_
              refine iq_bipush hS 68 J_HBars_readSymbols_d66 (v := 103) (by decide +kernel) rfl ?_
              refine iq_icmp_ge hS 71 J_HBars_readSymbols_d68 (t := 73) rfl (fun q68 => ?_) rfl (fun q68 => ?_)
              · replace h := ed_pos q68 h
                exact J15  _ (lk_1r l10 (by decide)) (lk_1r l11 (by decide)) (lk_1i l12 (by decide)) lk_1s (hk15  h)
              · replace h := ed_neg q68 h
                refine iq_iconst hS 72 J_HBars_readSymbols_d71 (v := 0) (by decide +kernel) rfl ?_
                exact iq_iret J_HBars_readSymbols_d72 rfl rfl ⟨_, rfl, hM9, ed_some (hR2 _ (lq_r h hq2))⟩
    exact I2 n2 _ _ _ (lw_sI hM) (lk_1r l0 (by decide)) (lk_1r l1 (by decide)) lk_1s hn2
  · replace h := ed_neg q17 h
    refine iq_iconst hS 21 J_HBars_readSymbols_d20 (v := 0) (by decide +kernel) rfl ?_
    exact iq_iret J_HBars_readSymbols_d21 rfl rfl ⟨_, rfl, hM, ed_some h⟩
theorem f_HBars_readSymbols_fr {M : im_M} {r : Int32 × im_M} (h : f_HBars_readSymbols M = some r) : fr 295147905248072302592 [(31, 9), (31, 12)] M r.2 := by
  replace h : ed (f_HBars_readSymbols M) (fun x => x = r) := ⟨r, h, rfl⟩
  unfold f_HBars_readSymbols at h
  obtain ⟨Q1, hQ1, h⟩ := bd1_ed h
  obtain ⟨x1, e1, h⟩ := h
  replace h := hQ1 _ h
  by_cases q17 : x1 = 2331112
  · replace h := ed_pos q17 h
    obtain ⟨Q2, hQ2, hR2, h⟩ := bs1_ed h
    have K2 : ∀ (M3 : im_M), fr 295147905248072302592 [(31, 9), (31, 12)] M M3 → Q2 (.inl M3) → fr 295147905248072302592 [(31, 9), (31, 12)] M r.2 := by
      intro M3 hM3 h
      replace h := hQ2 _ h
      obtain ⟨g96, h⟩ := ed_gd h
      obtain ⟨Q4, hQ4, h⟩ := bd1_ed h
      obtain ⟨x4, e4, h⟩ := h
      replace h := hQ4 _ h
      by_cases q102 : ¬ (im_i M3 36 (Int32.toNatClampNeg ((im_i M3 31 9) - 1))) = x4
      · replace h := ed_pos q102 h
        exact fr_ret h hM3
      · replace h := ed_neg q102 h
        obtain ⟨Q5, hQ5, h⟩ := bd2_ed h
        obtain ⟨⟨x5, M5⟩, e5, h⟩ := h
        replace h := hQ5 _ _ h
        by_cases q111 : x5 = 0
        · replace h := ed_pos q111 h
          exact fr_ret h (fr_tr (fr_mono (by decide) (by decide +kernel) (f_HBars_tell_fr e5)) hM3)
        · replace h := ed_neg q111 h
          exact fr_ret h (fr_tr (fr_mono (by decide) (by decide +kernel) (f_HBars_tell_fr e5)) hM3)
    obtain ⟨r2, hr2, hq2⟩ := h
    obtain ⟨n2, hn2⟩ := lp_n hr2
    have I2 : ∀ (n : Nat) (x6 : Int32) (M7 : im_M), fr 295147905248072302592 [(31, 9), (31, 12)] M M7 → lpn (uc2 (f_HBars_readSymbols_L29)) n (x6, M7) = some r2 → fr 295147905248072302592 [(31, 9), (31, 12)] M r.2 := by
      intro n
      induction n with
      | zero => intro x6 M7 hM7 hn; exact (lpn_0 hn).elim
      | succ n ih =>
        intro x6 M7 hM7 hn
        have h := lpn_ed2 hn
        unfold f_HBars_readSymbols_L29 at h
        by_cases q37 : ((im_i M7 31 11) - 7) ≤ x6
        · replace h := ed_pos q37 h
          exact K2 _ hM7 (lq_r h hq2)
        · replace h := ed_neg q37 h
          obtain ⟨Q8, hQ8, h⟩ := bd1_ed h
          obtain ⟨x8, e8, h⟩ := h
          replace h := hQ8 _ h
          obtain ⟨Q9, hQ9, h⟩ := bd1_ed h
          obtain ⟨x9, e9, h⟩ := h
          replace h := hQ9 _ h
          by_cases q58 : x9 = (-1)
          · replace h := ed_pos q58 h
            exact fr_ret (hR2 _ (lq_r h hq2)) hM7
          · replace h := ed_neg q58 h
            obtain ⟨k10, Q10, hQ10, hk10, h⟩ := jn0_ed h
            have J10 : Q10 () → fr 295147905248072302592 [(31, 9), (31, 12)] M r.2 := by
              intro  h
              replace h := hQ10  h
              obtain ⟨Q15, hQ15, h⟩ := bd1_ed h
              obtain ⟨M15, e15, h⟩ := h
              replace h := hQ15 _ h
              exact ih _ _ (fr_tr (fr_mono (by decide) (by decide +kernel) (f_HBars_addSymbol_fr e15)) hM7) (lq_l h)
            by_cases q62 : ¬ x6 = 0
            · replace h := ed_pos q62 h
              exact J10  (hk10  h)
            · replace h := ed_neg q62 h
              by_cases q68 : 103 ≤ x9
              · replace h := ed_pos q68 h
                exact J10  (hk10  h)
              · replace h := ed_neg q68 h
                exact fr_ret (hR2 _ (lq_r h hq2)) hM7
    exact I2 n2 _ _ (fr_F (by decide) fr_refl) hn2
  · replace h := ed_neg q17 h
    exact fr_ret h fr_refl
noncomputable def f_HBars_understand_L31 (x5 : Int32) (M6 : im_M) : Option ((Int32 × im_M) ⊕ ((im_M) ⊕ (Int32 × im_M))) := if 2 ≤ x5 then some (.inr (.inl M6)) else gd (((if ¬ x5 = 1 then 0 else 1) : Int32) = 0 ∨ ((if ¬ x5 = 1 then 0 else 1) : Int32) = 1) <| gd (((if ¬ (im_i (im_setI M6 31 4 ((if ¬ x5 = 1 then 0 else 1) : Int32)) 31 11) = 59 then 0 else 1) : Int32) = 0 ∨ ((if ¬ (im_i (im_setI M6 31 4 ((if ¬ x5 = 1 then 0 else 1) : Int32)) 31 11) = 59 then 0 else 1) : Int32) = 1) <| jn1 (fun (M11 : im_M) => jn1 (fun (M17 : im_M) => some (.inl ((x5 + 1), M17))) fun k15 => if ¬ ((im_i M11 31 11) - (im_i M11 31 11) / 6 * 6) = 1 then k15 M11 else bd2 (f_HBars_readSymbols M11) fun (x16 : Int32) (M16 : im_M) => if x16 = 0 then k15 M16 else some (.inr (.inr ((im_i M16 31 12), M16)))) fun k9 => if (im_i (im_setI (im_setI M6 31 4 ((if ¬ x5 = 1 then 0 else 1) : Int32)) 31 3 ((if ¬ (im_i (im_setI M6 31 4 ((if ¬ x5 = 1 then 0 else 1) : Int32)) 31 11) = 59 then 0 else 1) : Int32)) 31 3) = 0 then k9 (im_setI (im_setI M6 31 4 ((if ¬ x5 = 1 then 0 else 1) : Int32)) 31 3 ((if ¬ (im_i (im_setI M6 31 4 ((if ¬ x5 = 1 then 0 else 1) : Int32)) 31 11) = 59 then 0 else 1) : Int32)) else bd2 (f_HBars_readFigures (im_setI (im_setI M6 31 4 ((if ¬ x5 = 1 then 0 else 1) : Int32)) 31 3 ((if ¬ (im_i (im_setI M6 31 4 ((if ¬ x5 = 1 then 0 else 1) : Int32)) 31 11) = 59 then 0 else 1) : Int32))) fun (x10 : Int32) (M10 : im_M) => if x10 = 0 then k9 M10 else some (.inr (.inr (13, M10)))
noncomputable def f_HBars_understand_L19 (M3 : im_M) : Option ((im_M) ⊕ ((im_M) ⊕ (Int32 × im_M))) := if (im_i M3 31 11) < 19 then some (.inr (.inl M3)) else bs1 (lp (uc2 (f_HBars_understand_L31)) (0, M3)) (fun (M21 : im_M) => some (.inl (im_setI M21 31 11 ((im_i M21 31 11) - 2)))) (fun t => some (.inr (.inr t)))
noncomputable def f_HBars_understand (p0 : Int32) (M : im_M) : Option (Int32 × im_M) := bs1 (lp (uc1 (f_HBars_understand_L19)) (im_setI M 31 11 ((if ¬ (p0 - p0 / 2 * 2) = 0 then p0 else (p0 - 1)) : Int32))) (fun (M22 : im_M) => some ((-1), M22)) (fun t => some t)
theorem J_HBars_understand_d0 : decode J_HBars_understand.2.1 0 = .ok (.iload_n 1, 1) := by decide +kernel
theorem J_HBars_understand_d1 : decode J_HBars_understand.2.1 1 = .ok (.iconst 2, 1) := by decide +kernel
theorem J_HBars_understand_d2 : decode J_HBars_understand.2.1 2 = .ok (.irem, 1) := by decide +kernel
theorem J_HBars_understand_d3 : decode J_HBars_understand.2.1 3 = .ok (.ifCond .ne 9, 3) := by decide +kernel
theorem J_HBars_understand_d6 : decode J_HBars_understand.2.1 6 = .ok (.iload_n 1, 1) := by decide +kernel
theorem J_HBars_understand_d7 : decode J_HBars_understand.2.1 7 = .ok (.iconst 1, 1) := by decide +kernel
theorem J_HBars_understand_d8 : decode J_HBars_understand.2.1 8 = .ok (.isub, 1) := by decide +kernel
theorem J_HBars_understand_d9 : decode J_HBars_understand.2.1 9 = .ok (.goto 4, 3) := by decide +kernel
theorem J_HBars_understand_d12 : decode J_HBars_understand.2.1 12 = .ok (.iload_n 1, 1) := by decide +kernel
theorem J_HBars_understand_d13 : decode J_HBars_understand.2.1 13 = .ok (.istore_n 3, 1) := by decide +kernel
theorem J_HBars_understand_d14 : decode J_HBars_understand.2.1 14 = .ok (.aload_n 0, 1) := by decide +kernel
theorem J_HBars_understand_d15 : decode J_HBars_understand.2.1 15 = .ok (.iload_n 3, 1) := by decide +kernel
theorem J_HBars_understand_d16 : decode J_HBars_understand.2.1 16 = .ok (.putfield 115, 3) := by decide +kernel
theorem J_HBars_understand_d19 : decode J_HBars_understand.2.1 19 = .ok (.aload_n 0, 1) := by decide +kernel
theorem J_HBars_understand_d20 : decode J_HBars_understand.2.1 20 = .ok (.getfield 115, 3) := by decide +kernel
theorem J_HBars_understand_d23 : decode J_HBars_understand.2.1 23 = .ok (.bipush 19, 2) := by decide +kernel
theorem J_HBars_understand_d25 : decode J_HBars_understand.2.1 25 = .ok (.if_icmp .lt 106, 3) := by decide +kernel
theorem J_HBars_understand_d28 : decode J_HBars_understand.2.1 28 = .ok (.iconst 0, 1) := by decide +kernel
theorem J_HBars_understand_d29 : decode J_HBars_understand.2.1 29 = .ok (.istore 4, 2) := by decide +kernel
theorem J_HBars_understand_d31 : decode J_HBars_understand.2.1 31 = .ok (.iload 4, 2) := by decide +kernel
theorem J_HBars_understand_d33 : decode J_HBars_understand.2.1 33 = .ok (.iconst 2, 1) := by decide +kernel
theorem J_HBars_understand_d34 : decode J_HBars_understand.2.1 34 = .ok (.if_icmp .ge 84, 3) := by decide +kernel
theorem J_HBars_understand_d37 : decode J_HBars_understand.2.1 37 = .ok (.aload_n 0, 1) := by decide +kernel
theorem J_HBars_understand_d38 : decode J_HBars_understand.2.1 38 = .ok (.iload 4, 2) := by decide +kernel
theorem J_HBars_understand_d40 : decode J_HBars_understand.2.1 40 = .ok (.iconst 1, 1) := by decide +kernel
theorem J_HBars_understand_d41 : decode J_HBars_understand.2.1 41 = .ok (.if_icmp .ne 7, 3) := by decide +kernel
theorem J_HBars_understand_d44 : decode J_HBars_understand.2.1 44 = .ok (.iconst 1, 1) := by decide +kernel
theorem J_HBars_understand_d45 : decode J_HBars_understand.2.1 45 = .ok (.goto 4, 3) := by decide +kernel
theorem J_HBars_understand_d48 : decode J_HBars_understand.2.1 48 = .ok (.iconst 0, 1) := by decide +kernel
theorem J_HBars_understand_d49 : decode J_HBars_understand.2.1 49 = .ok (.putfield 118, 3) := by decide +kernel
theorem J_HBars_understand_d52 : decode J_HBars_understand.2.1 52 = .ok (.aload_n 0, 1) := by decide +kernel
theorem J_HBars_understand_d53 : decode J_HBars_understand.2.1 53 = .ok (.aload_n 0, 1) := by decide +kernel
theorem J_HBars_understand_d54 : decode J_HBars_understand.2.1 54 = .ok (.getfield 115, 3) := by decide +kernel
theorem J_HBars_understand_d57 : decode J_HBars_understand.2.1 57 = .ok (.bipush 59, 2) := by decide +kernel
theorem J_HBars_understand_d59 : decode J_HBars_understand.2.1 59 = .ok (.if_icmp .ne 7, 3) := by decide +kernel
theorem J_HBars_understand_d62 : decode J_HBars_understand.2.1 62 = .ok (.iconst 1, 1) := by decide +kernel
theorem J_HBars_understand_d63 : decode J_HBars_understand.2.1 63 = .ok (.goto 4, 3) := by decide +kernel
theorem J_HBars_understand_d66 : decode J_HBars_understand.2.1 66 = .ok (.iconst 0, 1) := by decide +kernel
theorem J_HBars_understand_d67 : decode J_HBars_understand.2.1 67 = .ok (.putfield 122, 3) := by decide +kernel
theorem J_HBars_understand_d70 : decode J_HBars_understand.2.1 70 = .ok (.aload_n 0, 1) := by decide +kernel
theorem J_HBars_understand_d71 : decode J_HBars_understand.2.1 71 = .ok (.getfield 122, 3) := by decide +kernel
theorem J_HBars_understand_d74 : decode J_HBars_understand.2.1 74 = .ok (.ifCond .eq 14, 3) := by decide +kernel
theorem J_HBars_understand_d77 : decode J_HBars_understand.2.1 77 = .ok (.aload_n 0, 1) := by decide +kernel
theorem J_HBars_understand_d78 : decode J_HBars_understand.2.1 78 = .ok (.aload_n 2, 1) := by decide +kernel
theorem J_HBars_understand_d79 : decode J_HBars_understand.2.1 79 = .ok (.invokevirtual 125, 3) := by decide +kernel
theorem J_HBars_understand_d82 : decode J_HBars_understand.2.1 82 = .ok (.ifCond .eq 6, 3) := by decide +kernel
theorem J_HBars_understand_d85 : decode J_HBars_understand.2.1 85 = .ok (.bipush 13, 2) := by decide +kernel
theorem J_HBars_understand_d87 : decode J_HBars_understand.2.1 87 = .ok (.ireturn, 1) := by decide +kernel
theorem J_HBars_understand_d88 : decode J_HBars_understand.2.1 88 = .ok (.aload_n 0, 1) := by decide +kernel
theorem J_HBars_understand_d89 : decode J_HBars_understand.2.1 89 = .ok (.getfield 115, 3) := by decide +kernel
theorem J_HBars_understand_d92 : decode J_HBars_understand.2.1 92 = .ok (.bipush 6, 2) := by decide +kernel
theorem J_HBars_understand_d94 : decode J_HBars_understand.2.1 94 = .ok (.irem, 1) := by decide +kernel
theorem J_HBars_understand_d95 : decode J_HBars_understand.2.1 95 = .ok (.iconst 1, 1) := by decide +kernel
theorem J_HBars_understand_d96 : decode J_HBars_understand.2.1 96 = .ok (.if_icmp .ne 16, 3) := by decide +kernel
theorem J_HBars_understand_d99 : decode J_HBars_understand.2.1 99 = .ok (.aload_n 0, 1) := by decide +kernel
theorem J_HBars_understand_d100 : decode J_HBars_understand.2.1 100 = .ok (.aload_n 2, 1) := by decide +kernel
theorem J_HBars_understand_d101 : decode J_HBars_understand.2.1 101 = .ok (.invokevirtual 129, 3) := by decide +kernel
theorem J_HBars_understand_d104 : decode J_HBars_understand.2.1 104 = .ok (.ifCond .eq 8, 3) := by decide +kernel
theorem J_HBars_understand_d107 : decode J_HBars_understand.2.1 107 = .ok (.aload_n 0, 1) := by decide +kernel
theorem J_HBars_understand_d108 : decode J_HBars_understand.2.1 108 = .ok (.getfield 132, 3) := by decide +kernel
theorem J_HBars_understand_d111 : decode J_HBars_understand.2.1 111 = .ok (.ireturn, 1) := by decide +kernel
theorem J_HBars_understand_d112 : decode J_HBars_understand.2.1 112 = .ok (.iinc 4 1, 3) := by decide +kernel
theorem J_HBars_understand_d115 : decode J_HBars_understand.2.1 115 = .ok (.goto (-84), 3) := by decide +kernel
theorem J_HBars_understand_d118 : decode J_HBars_understand.2.1 118 = .ok (.aload_n 0, 1) := by decide +kernel
theorem J_HBars_understand_d119 : decode J_HBars_understand.2.1 119 = .ok (.dup, 1) := by decide +kernel
theorem J_HBars_understand_d120 : decode J_HBars_understand.2.1 120 = .ok (.getfield 115, 3) := by decide +kernel
theorem J_HBars_understand_d123 : decode J_HBars_understand.2.1 123 = .ok (.iconst 2, 1) := by decide +kernel
theorem J_HBars_understand_d124 : decode J_HBars_understand.2.1 124 = .ok (.isub, 1) := by decide +kernel
theorem J_HBars_understand_d125 : decode J_HBars_understand.2.1 125 = .ok (.putfield 115, 3) := by decide +kernel
theorem J_HBars_understand_d128 : decode J_HBars_understand.2.1 128 = .ok (.goto (-109), 3) := by decide +kernel
theorem J_HBars_understand_d131 : decode J_HBars_understand.2.1 131 = .ok (.iconst (-1), 1) := by decide +kernel
theorem J_HBars_understand_d132 : decode J_HBars_understand.2.1 132 = .ok (.ireturn, 1) := by decide +kernel
theorem f_HBars_understand_ok {L : Nat} {xs : Nat → Int32} {dep : Nat} {w : Bool} {p0 : Int32} {M : im_M} {Q : Int32 × im_M → Prop} (hM : lw_S w M) (h : ed (f_HBars_understand p0 M) Q) : ia (tb_G L xs) (dep + 4) J_HBars_understand (rwI w Q) (0, lv_args 0 [.ref 31, .int p0, .ref 68], [], M) := by
  have hS : im_St (tb_G L xs) (dep + 4) J_HBars_understand (ia (tb_G L xs) (dep + 4) J_HBars_understand (rwI w Q)) := ia_St
  unfold f_HBars_understand at h
  have l0 : im_lk (lv_args 0 [.ref 31, .int p0, .ref 68]) 0 = some (.ref 31) := rfl
  have l1 : im_lk (lv_args 0 [.ref 31, .int p0, .ref 68]) 1 = some (.int p0) := rfl
  have l2 : im_lk (lv_args 0 [.ref 31, .int p0, .ref 68]) 2 = some (.ref 68) := rfl
  refine iq_iload_n hS 1 J_HBars_understand_d0 l1 rfl ?_
  refine iq_iconst hS 2 J_HBars_understand_d1 (v := 2) (by decide +kernel) rfl ?_
  refine iq_irem hS 3 J_HBars_understand_d2 (by decide) rfl ?_
  have J1 : ∀ (z2 : Int32) (L' : List (Nat × Value)), z2 = ((if ¬ (p0 - p0 / 2 * 2) = 0 then p0 else (p0 - 1)) : Int32) → im_lk L' 0 = some (.ref 31) → im_lk L' 2 = some (.ref 68) → ia (tb_G L xs) (dep + 4) J_HBars_understand (rwI w Q) (13, L', [.int z2], M) := by
    intro z2 L' e3 l4 l5
    subst e3
    refine iq_istore_n hS 14 J_HBars_understand_d13 (by decide) rfl ?_
    refine iq_aload_n hS 15 J_HBars_understand_d14 (lk_1r l4 (by decide)) rfl ?_
    refine iq_iload_n hS 16 J_HBars_understand_d15 lk_1s rfl ?_
    refine iq_putI hS 19 J_HBars_understand_d16 lf_0_115 (Or.inl rfl) rfl (ka_31 hM) rfl ?_
    obtain ⟨Q6, hQ6, hR6, h⟩ := bs1_ed h
    have K6 : ∀ (M7 : im_M) (L' : List (Nat × Value)), lw_S w M7 → Q6 (.inl M7) → ia (tb_G L xs) (dep + 4) J_HBars_understand (rwI w Q) (131, L', [], M7) := by
      intro M7 L' hM7  h
      replace h := hQ6 _ h
      refine iq_iconst hS 132 J_HBars_understand_d131 (v := (-1)) (by decide +kernel) rfl ?_
      exact iq_iret J_HBars_understand_d132 rfl rfl ⟨_, rfl, hM7, ed_some h⟩
    obtain ⟨r6, hr6, hq6⟩ := h
    obtain ⟨n6, hn6⟩ := lp_n hr6
    have I6 : ∀ (n : Nat)  (M8 : im_M) (L' : List (Nat × Value)), lw_S w M8 → im_lk L' 0 = some (.ref 31) → im_lk L' 2 = some (.ref 68) → lpn (uc1 (f_HBars_understand_L19)) n M8 = some r6 → ia (tb_G L xs) (dep + 4) J_HBars_understand (rwI w Q) (19, L', [], M8) := by
      intro n
      induction n with
      | zero => intro  M8 L' hM8 l9 l10 hn; exact (lpn_0 hn).elim
      | succ n ih =>
        intro  M8 L' hM8 l9 l10 hn
        have h := lpn_ed1 hn
        unfold f_HBars_understand_L19 at h
        refine iq_aload_n hS 20 J_HBars_understand_d19 l9 rfl ?_
        refine iq_getI hS 23 J_HBars_understand_d20 lf_0_115 (Or.inl rfl) (ka_31 hM8) rfl ?_
        refine iq_bipush hS 25 J_HBars_understand_d23 (v := 19) (by decide +kernel) rfl ?_
        refine iq_icmp_lt hS 28 J_HBars_understand_d25 (t := 131) rfl (fun q25 => ?_) rfl (fun q25 => ?_)
        · replace h := ed_pos q25 h
          exact K6 _ _ hM8  (lq_r h hq6)
        · replace h := ed_neg q25 h
          refine iq_iconst hS 29 J_HBars_understand_d28 (v := 0) (by decide +kernel) rfl ?_
          refine iq_istore hS 31 J_HBars_understand_d29 (by decide) rfl ?_
          obtain ⟨Q11, hQ11, hR11, h⟩ := bs1_ed h
          have K11 : ∀ (M12 : im_M) (L' : List (Nat × Value)), lw_S w M12 → im_lk L' 0 = some (.ref 31) → im_lk L' 2 = some (.ref 68) → Q11 (.inl M12) → ia (tb_G L xs) (dep + 4) J_HBars_understand (rwI w Q) (118, L', [], M12) := by
            intro M12 L' hM12 l13 l14 h
            replace h := hQ11 _ h
            refine iq_aload_n hS 119 J_HBars_understand_d118 l13 rfl ?_
            refine iq_dup hS 120 J_HBars_understand_d119 rfl rfl ?_
            refine iq_getI hS 123 J_HBars_understand_d120 lf_0_115 (Or.inl rfl) (ka_31 hM12) rfl ?_
            refine iq_iconst hS 124 J_HBars_understand_d123 (v := 2) (by decide +kernel) rfl ?_
            refine iq_isub hS 125 J_HBars_understand_d124 rfl ?_
            refine iq_putI hS 128 J_HBars_understand_d125 lf_0_115 (Or.inl rfl) rfl (ka_31 hM12) rfl ?_
            refine iq_goto hS J_HBars_understand_d128 (t := 19) rfl ?_
            exact ih  _ _ (lw_sI hM12) l13 l14 (lq_l h)
          obtain ⟨r11, hr11, hq11⟩ := h
          obtain ⟨n11, hn11⟩ := lp_n hr11
          have I11 : ∀ (n : Nat) (x15 : Int32) (M16 : im_M) (L' : List (Nat × Value)), lw_S w M16 → im_lk L' 0 = some (.ref 31) → im_lk L' 2 = some (.ref 68) → im_lk L' 4 = some (.int x15) → lpn (uc2 (f_HBars_understand_L31)) n (x15, M16) = some r11 → ia (tb_G L xs) (dep + 4) J_HBars_understand (rwI w Q) (31, L', [], M16) := by
            intro n
            induction n with
            | zero => intro x15 M16 L' hM16 l17 l18 l19 hn; exact (lpn_0 hn).elim
            | succ n ih =>
              intro x15 M16 L' hM16 l17 l18 l19 hn
              have h := lpn_ed2 hn
              unfold f_HBars_understand_L31 at h
              refine iq_iload hS 33 J_HBars_understand_d31 l19 rfl ?_
              refine iq_iconst hS 34 J_HBars_understand_d33 (v := 2) (by decide +kernel) rfl ?_
              refine iq_icmp_ge hS 37 J_HBars_understand_d34 (t := 118) rfl (fun q34 => ?_) rfl (fun q34 => ?_)
              · replace h := ed_pos q34 h
                exact K11 _ _ hM16 l17 l18 (lq_r h hq11)
              · replace h := ed_neg q34 h
                refine iq_aload_n hS 38 J_HBars_understand_d37 l17 rfl ?_
                refine iq_iload hS 40 J_HBars_understand_d38 l19 rfl ?_
                refine iq_iconst hS 41 J_HBars_understand_d40 (v := 1) (by decide +kernel) rfl ?_
                have J20 : ∀ (z21 : Int32) (L' : List (Nat × Value)), z21 = ((if ¬ x15 = 1 then 0 else 1) : Int32) → im_lk L' 0 = some (.ref 31) → im_lk L' 2 = some (.ref 68) → im_lk L' 4 = some (.int x15) → ia (tb_G L xs) (dep + 4) J_HBars_understand (rwI w Q) (49, L', [.int z21, .ref 31], M16) := by
                  intro z21 L' e22 l23 l24 l25
                  subst e22
                  obtain ⟨g49, h⟩ := ed_gd h
                  refine iq_putZ hS 52 J_HBars_understand_d49 lf_0_118 (Or.inl rfl) rfl (ka_31 hM16) g49 rfl ?_
                  refine iq_aload_n hS 53 J_HBars_understand_d52 l23 rfl ?_
                  refine iq_aload_n hS 54 J_HBars_understand_d53 l23 rfl ?_
                  refine iq_getI hS 57 J_HBars_understand_d54 lf_0_115 (Or.inl rfl) (ka_31 (lw_sI hM16)) rfl ?_
                  refine iq_bipush hS 59 J_HBars_understand_d57 (v := 59) (by decide +kernel) rfl ?_
                  have J26 : ∀ (z27 : Int32) (L' : List (Nat × Value)), z27 = ((if ¬ (im_i (im_setI M16 31 4 ((if ¬ x15 = 1 then 0 else 1) : Int32)) 31 11) = 59 then 0 else 1) : Int32) → im_lk L' 0 = some (.ref 31) → im_lk L' 2 = some (.ref 68) → im_lk L' 4 = some (.int x15) → ia (tb_G L xs) (dep + 4) J_HBars_understand (rwI w Q) (67, L', [.int z27, .ref 31], (im_setI M16 31 4 ((if ¬ x15 = 1 then 0 else 1) : Int32))) := by
                    intro z27 L' e28 l29 l30 l31
                    subst e28
                    obtain ⟨g67, h⟩ := ed_gd h
                    refine iq_putZ hS 70 J_HBars_understand_d67 lf_0_122 (Or.inl rfl) rfl (ka_31 (lw_sI hM16)) g67 rfl ?_
                    refine iq_aload_n hS 71 J_HBars_understand_d70 l29 rfl ?_
                    refine iq_getI hS 74 J_HBars_understand_d71 lf_0_122 (Or.inr rfl) (ka_31 (lw_sI (lw_sI hM16))) rfl ?_
                    obtain ⟨k32, Q32, hQ32, hk32, h⟩ := jn1_ed h
                    have J32 : ∀ (M34 : im_M) (L' : List (Nat × Value)), lw_S w M34 → im_lk L' 0 = some (.ref 31) → im_lk L' 2 = some (.ref 68) → im_lk L' 4 = some (.int x15) → Q32 M34 → ia (tb_G L xs) (dep + 4) J_HBars_understand (rwI w Q) (88, L', [], M34) := by
                      intro M34 L' hM34 l35 l36 l37 h
                      replace h := hQ32 _ h
                      refine iq_aload_n hS 89 J_HBars_understand_d88 l35 rfl ?_
                      refine iq_getI hS 92 J_HBars_understand_d89 lf_0_115 (Or.inl rfl) (ka_31 hM34) rfl ?_
                      refine iq_bipush hS 94 J_HBars_understand_d92 (v := 6) (by decide +kernel) rfl ?_
                      refine iq_irem hS 95 J_HBars_understand_d94 (by decide) rfl ?_
                      refine iq_iconst hS 96 J_HBars_understand_d95 (v := 1) (by decide +kernel) rfl ?_
                      obtain ⟨k38, Q38, hQ38, hk38, h⟩ := jn1_ed h
                      have J38 : ∀ (M40 : im_M) (L' : List (Nat × Value)), lw_S w M40 → im_lk L' 0 = some (.ref 31) → im_lk L' 2 = some (.ref 68) → im_lk L' 4 = some (.int x15) → Q38 M40 → ia (tb_G L xs) (dep + 4) J_HBars_understand (rwI w Q) (112, L', [], M40) := by
                        intro M40 L' hM40 l41 l42 l43 h
                        replace h := hQ38 _ h
                        refine iq_iincv hS 115 J_HBars_understand_d112 (c := 1) (by decide +kernel) l43 (by decide) rfl ?_
                        refine iq_goto hS J_HBars_understand_d115 (t := 31) rfl ?_
                        exact ih _ _ _ hM40 (lk_1r l41 (by decide)) (lk_1r l42 (by decide)) lk_1s (lq_l h)
                      refine iq_icmp_ne hS 99 J_HBars_understand_d96 (t := 112) rfl (fun q96 => ?_) rfl (fun q96 => ?_)
                      · replace h := ed_pos q96 h
                        exact J38 _ _ hM34 l35 l36 l37 (hk38 _ h)
                      · replace h := ed_neg q96 h
                        refine iq_aload_n hS 100 J_HBars_understand_d99 l35 rfl ?_
                        refine iq_aload_n hS 101 J_HBars_understand_d100 l36 rfl ?_
                        obtain ⟨Q39, hQ39, h⟩ := bd2_ed h
                        refine iq_cwI hS 104 J_HBars_understand_d101 rfl (pr_inst (vs := [_]) lc_0_129 lT_257 rfl rfl (by decide) (by decide) rfl (Nat.le_of_ble_eq_true rfl) (Nat.le_of_ble_eq_true rfl) (fun _ => Or.inl (pr_b (ka_31 hM34) (by decide) rfl))) (f_HBars_readSymbols_ok (dep := dep + 0) hM34 h) rfl ?_
                        intro x39 M39 hM39 h
                        replace h := hQ39 _ _ h
                        refine iq_if_eq hS 107 J_HBars_understand_d104 (t := 112) rfl (fun q104 => ?_) rfl (fun q104 => ?_)
                        · replace h := ed_pos q104 h
                          exact J38 _ _ hM39 l35 l36 l37 (hk38 _ h)
                        · replace h := ed_neg q104 h
                          refine iq_aload_n hS 108 J_HBars_understand_d107 l35 rfl ?_
                          refine iq_getI hS 111 J_HBars_understand_d108 lf_0_132 (Or.inl rfl) (ka_31 hM39) rfl ?_
                          exact iq_iret J_HBars_understand_d111 rfl rfl ⟨_, rfl, hM39, ed_some (hR6 _ (lq_r (hR11 _ (lq_r h hq11)) hq6))⟩
                    refine iq_if_eq hS 77 J_HBars_understand_d74 (t := 88) rfl (fun q74 => ?_) rfl (fun q74 => ?_)
                    · replace h := ed_pos q74 h
                      exact J32 _ _ (lw_sI (lw_sI hM16)) l29 l30 l31 (hk32 _ h)
                    · replace h := ed_neg q74 h
                      refine iq_aload_n hS 78 J_HBars_understand_d77 l29 rfl ?_
                      refine iq_aload_n hS 79 J_HBars_understand_d78 l30 rfl ?_
                      obtain ⟨Q33, hQ33, h⟩ := bd2_ed h
                      refine iq_cwI hS 82 J_HBars_understand_d79 rfl (pr_inst (vs := [_]) lc_0_125 lT_250 rfl rfl (by decide) (by decide) rfl (Nat.le_of_ble_eq_true rfl) (Nat.le_of_ble_eq_true rfl) (fun _ => Or.inl (pr_b (ka_31 (lw_sI (lw_sI hM16))) (by decide) rfl))) (f_HBars_readFigures_ok (dep := dep + 0) (lw_sI (lw_sI hM16)) h) rfl ?_
                      intro x33 M33 hM33 h
                      replace h := hQ33 _ _ h
                      refine iq_if_eq hS 85 J_HBars_understand_d82 (t := 88) rfl (fun q82 => ?_) rfl (fun q82 => ?_)
                      · replace h := ed_pos q82 h
                        exact J32 _ _ hM33 l29 l30 l31 (hk32 _ h)
                      · replace h := ed_neg q82 h
                        refine iq_bipush hS 87 J_HBars_understand_d85 (v := 13) (by decide +kernel) rfl ?_
                        exact iq_iret J_HBars_understand_d87 rfl rfl ⟨_, rfl, hM33, ed_some (hR6 _ (lq_r (hR11 _ (lq_r h hq11)) hq6))⟩
                  refine iq_icmp_ne hS 62 J_HBars_understand_d59 (t := 66) rfl (fun q59 => ?_) rfl (fun q59 => ?_)
                  · refine iq_iconst hS 67 J_HBars_understand_d66 (v := 0) (by decide +kernel) rfl ?_
                    exact J26 _ _ (by simp only [if_pos q59]) l23 l24 l25
                  · refine iq_iconst hS 63 J_HBars_understand_d62 (v := 1) (by decide +kernel) rfl ?_
                    refine iq_goto hS J_HBars_understand_d63 (t := 67) rfl ?_
                    exact J26 _ _ (by simp only [if_neg q59]) l23 l24 l25
                refine iq_icmp_ne hS 44 J_HBars_understand_d41 (t := 48) rfl (fun q41 => ?_) rfl (fun q41 => ?_)
                · refine iq_iconst hS 49 J_HBars_understand_d48 (v := 0) (by decide +kernel) rfl ?_
                  exact J20 _ _ (by simp only [if_pos q41]) l17 l18 l19
                · refine iq_iconst hS 45 J_HBars_understand_d44 (v := 1) (by decide +kernel) rfl ?_
                  refine iq_goto hS J_HBars_understand_d45 (t := 49) rfl ?_
                  exact J20 _ _ (by simp only [if_neg q41]) l17 l18 l19
          exact I11 n11 _ _ _ hM8 (lk_1r l9 (by decide)) (lk_1r l10 (by decide)) lk_1s hn11
    exact I6 n6  _ _ (lw_sI hM) (lk_1r l4 (by decide)) (lk_1r l5 (by decide)) hn6
  refine iq_if_ne hS 6 J_HBars_understand_d3 (t := 12) rfl (fun q3 => ?_) rfl (fun q3 => ?_)
  · refine iq_iload_n hS 13 J_HBars_understand_d12 l1 rfl ?_
    exact J1 _ _ (by simp only [if_pos q3]) l0 l2
  · refine iq_iload_n hS 7 J_HBars_understand_d6 l1 rfl ?_
    refine iq_iconst hS 8 J_HBars_understand_d7 (v := 1) (by decide +kernel) rfl ?_
    refine iq_isub hS 9 J_HBars_understand_d8 rfl ?_
    refine iq_goto hS J_HBars_understand_d9 (t := 13) rfl ?_
    exact J1 _ _ (by simp only [if_neg q3]) l0 l2
theorem f_HBars_understand_fr {p0 : Int32} {M : im_M} {r : Int32 × im_M} (h : f_HBars_understand p0 M = some r) : fr 295147905385511256064 [(31, 3), (31, 4), (31, 9), (31, 11), (31, 12)] M r.2 := by
  replace h : ed (f_HBars_understand p0 M) (fun x => x = r) := ⟨r, h, rfl⟩
  unfold f_HBars_understand at h
  obtain ⟨Q2, hQ2, hR2, h⟩ := bs1_ed h
  have K2 : ∀ (M3 : im_M), fr 295147905385511256064 [(31, 3), (31, 4), (31, 9), (31, 11), (31, 12)] M M3 → Q2 (.inl M3) → fr 295147905385511256064 [(31, 3), (31, 4), (31, 9), (31, 11), (31, 12)] M r.2 := by
    intro M3 hM3 h
    replace h := hQ2 _ h
    exact fr_ret h hM3
  obtain ⟨r2, hr2, hq2⟩ := h
  obtain ⟨n2, hn2⟩ := lp_n hr2
  have I2 : ∀ (n : Nat)  (M4 : im_M), fr 295147905385511256064 [(31, 3), (31, 4), (31, 9), (31, 11), (31, 12)] M M4 → lpn (uc1 (f_HBars_understand_L19)) n M4 = some r2 → fr 295147905385511256064 [(31, 3), (31, 4), (31, 9), (31, 11), (31, 12)] M r.2 := by
    intro n
    induction n with
    | zero => intro  M4 hM4 hn; exact (lpn_0 hn).elim
    | succ n ih =>
      intro  M4 hM4 hn
      have h := lpn_ed1 hn
      unfold f_HBars_understand_L19 at h
      by_cases q25 : (im_i M4 31 11) < 19
      · replace h := ed_pos q25 h
        exact K2 _ hM4 (lq_r h hq2)
      · replace h := ed_neg q25 h
        obtain ⟨Q5, hQ5, hR5, h⟩ := bs1_ed h
        have K5 : ∀ (M6 : im_M), fr 295147905385511256064 [(31, 3), (31, 4), (31, 9), (31, 11), (31, 12)] M M6 → Q5 (.inl M6) → fr 295147905385511256064 [(31, 3), (31, 4), (31, 9), (31, 11), (31, 12)] M r.2 := by
          intro M6 hM6 h
          replace h := hQ5 _ h
          exact ih  _ (fr_F (by decide) hM6) (lq_l h)
        obtain ⟨r5, hr5, hq5⟩ := h
        obtain ⟨n5, hn5⟩ := lp_n hr5
        have I5 : ∀ (n : Nat) (x7 : Int32) (M8 : im_M), fr 295147905385511256064 [(31, 3), (31, 4), (31, 9), (31, 11), (31, 12)] M M8 → lpn (uc2 (f_HBars_understand_L31)) n (x7, M8) = some r5 → fr 295147905385511256064 [(31, 3), (31, 4), (31, 9), (31, 11), (31, 12)] M r.2 := by
          intro n
          induction n with
          | zero => intro x7 M8 hM8 hn; exact (lpn_0 hn).elim
          | succ n ih =>
            intro x7 M8 hM8 hn
            have h := lpn_ed2 hn
            unfold f_HBars_understand_L31 at h
            by_cases q34 : 2 ≤ x7
            · replace h := ed_pos q34 h
              exact K5 _ hM8 (lq_r h hq5)
            · replace h := ed_neg q34 h
              obtain ⟨g49, h⟩ := ed_gd h
              obtain ⟨g67, h⟩ := ed_gd h
              obtain ⟨k11, Q11, hQ11, hk11, h⟩ := jn1_ed h
              have J11 : ∀ (M13 : im_M), fr 295147905385511256064 [(31, 3), (31, 4), (31, 9), (31, 11), (31, 12)] M M13 → Q11 M13 → fr 295147905385511256064 [(31, 3), (31, 4), (31, 9), (31, 11), (31, 12)] M r.2 := by
                intro M13 hM13 h
                replace h := hQ11 _ h
                obtain ⟨k17, Q17, hQ17, hk17, h⟩ := jn1_ed h
                have J17 : ∀ (M19 : im_M), fr 295147905385511256064 [(31, 3), (31, 4), (31, 9), (31, 11), (31, 12)] M M19 → Q17 M19 → fr 295147905385511256064 [(31, 3), (31, 4), (31, 9), (31, 11), (31, 12)] M r.2 := by
                  intro M19 hM19 h
                  replace h := hQ17 _ h
                  exact ih _ _ hM19 (lq_l h)
                by_cases q96 : ¬ ((im_i M13 31 11) - (im_i M13 31 11) / 6 * 6) = 1
                · replace h := ed_pos q96 h
                  exact J17 _ hM13 (hk17 _ h)
                · replace h := ed_neg q96 h
                  obtain ⟨Q18, hQ18, h⟩ := bd2_ed h
                  obtain ⟨⟨x18, M18⟩, e18, h⟩ := h
                  replace h := hQ18 _ _ h
                  by_cases q104 : x18 = 0
                  · replace h := ed_pos q104 h
                    exact J17 _ (fr_tr (fr_mono (by decide) (by decide +kernel) (f_HBars_readSymbols_fr e18)) hM13) (hk17 _ h)
                  · replace h := ed_neg q104 h
                    exact fr_ret (hR2 _ (lq_r (hR5 _ (lq_r h hq5)) hq2)) (fr_tr (fr_mono (by decide) (by decide +kernel) (f_HBars_readSymbols_fr e18)) hM13)
              by_cases q74 : (im_i (im_setI (im_setI M8 31 4 ((if ¬ x7 = 1 then 0 else 1) : Int32)) 31 3 ((if ¬ (im_i (im_setI M8 31 4 ((if ¬ x7 = 1 then 0 else 1) : Int32)) 31 11) = 59 then 0 else 1) : Int32)) 31 3) = 0
              · replace h := ed_pos q74 h
                exact J11 _ (fr_F (by decide) (fr_F (by decide) hM8)) (hk11 _ h)
              · replace h := ed_neg q74 h
                obtain ⟨Q12, hQ12, h⟩ := bd2_ed h
                obtain ⟨⟨x12, M12⟩, e12, h⟩ := h
                replace h := hQ12 _ _ h
                by_cases q82 : x12 = 0
                · replace h := ed_pos q82 h
                  exact J11 _ (fr_tr (fr_mono (by decide) (by decide +kernel) (f_HBars_readFigures_fr e12)) (fr_F (by decide) (fr_F (by decide) hM8))) (hk11 _ h)
                · replace h := ed_neg q82 h
                  exact fr_ret (hR2 _ (lq_r (hR5 _ (lq_r h hq5)) hq2)) (fr_tr (fr_mono (by decide) (by decide +kernel) (f_HBars_readFigures_fr e12)) (fr_F (by decide) (fr_F (by decide) hM8)))
        exact I5 n5 _ _ hM4 hn5
  exact I2 n2  _ (fr_F (by decide) fr_refl) hn2
noncomputable def f_H_bars (w : Bool) (p0 : Int32) (p1 : Int32) (p2 : Int32) (M : im_M) : Option (Int32 × im_M) := bd1 (f_HSheet_has p0 p1 M) fun (x1 : Int32) => if ¬ x1 = 0 then bd1 (f_H_forgetReading M) fun (M2 : im_M) => bd1 (f_HSheet_isDark w p0 p1 M2) fun (x3 : Int32) => if ¬ x3 = 0 then bd2 (f_HSheet_takeRuns w p0 p1 p2 M2) fun (x4 : Int32) (M4 : im_M) => bd2 (f_HBars_understand x4 M4) fun (x5 : Int32) (M5 : im_M) => if ¬ x5 = (-1) then gd (inb 0 7) <| gd (inb 5 7) <| some (x5, (im_setI (im_setI (im_setI M5 67 (Int32.toNatClampNeg 0) ((if (im_i M5 31 3) = 0 then 1 else 2) : Int32)) 67 (Int32.toNatClampNeg 5) ((if (im_i (im_setI M5 67 (Int32.toNatClampNeg 0) ((if (im_i M5 31 3) = 0 then 1 else 2) : Int32)) 31 4) = 0 then 0 else 1) : Int32)) 0 12 x5)) else some ((-1), M5) else some ((-1), M2) else none
theorem J_H_bars_d0 : decode J_H_bars.2.1 0 = .ok (.aload_n 0, 1) := by decide +kernel
theorem J_H_bars_d1 : decode J_H_bars.2.1 1 = .ok (.getfield 37, 3) := by decide +kernel
theorem J_H_bars_d4 : decode J_H_bars.2.1 4 = .ok (.iload_n 1, 1) := by decide +kernel
theorem J_H_bars_d5 : decode J_H_bars.2.1 5 = .ok (.iload_n 2, 1) := by decide +kernel
theorem J_H_bars_d6 : decode J_H_bars.2.1 6 = .ok (.invokevirtual 182, 3) := by decide +kernel
theorem J_H_bars_d9 : decode J_H_bars.2.1 9 = .ok (.ifCond .ne 11, 3) := by decide +kernel
theorem J_H_bars_d20 : decode J_H_bars.2.1 20 = .ok (.aload_n 0, 1) := by decide +kernel
theorem J_H_bars_d21 : decode J_H_bars.2.1 21 = .ok (.invokevirtual 200, 3) := by decide +kernel
theorem J_H_bars_d24 : decode J_H_bars.2.1 24 = .ok (.aload_n 0, 1) := by decide +kernel
theorem J_H_bars_d25 : decode J_H_bars.2.1 25 = .ok (.getfield 37, 3) := by decide +kernel
theorem J_H_bars_d28 : decode J_H_bars.2.1 28 = .ok (.iload_n 1, 1) := by decide +kernel
theorem J_H_bars_d29 : decode J_H_bars.2.1 29 = .ok (.iload_n 2, 1) := by decide +kernel
theorem J_H_bars_d30 : decode J_H_bars.2.1 30 = .ok (.invokevirtual 234, 3) := by decide +kernel
theorem J_H_bars_d33 : decode J_H_bars.2.1 33 = .ok (.ifCond .ne 5, 3) := by decide +kernel
theorem J_H_bars_d36 : decode J_H_bars.2.1 36 = .ok (.iconst (-1), 1) := by decide +kernel
theorem J_H_bars_d37 : decode J_H_bars.2.1 37 = .ok (.ireturn, 1) := by decide +kernel
theorem J_H_bars_d38 : decode J_H_bars.2.1 38 = .ok (.aload_n 0, 1) := by decide +kernel
theorem J_H_bars_d39 : decode J_H_bars.2.1 39 = .ok (.getfield 44, 3) := by decide +kernel
theorem J_H_bars_d42 : decode J_H_bars.2.1 42 = .ok (.aload_n 0, 1) := by decide +kernel
theorem J_H_bars_d43 : decode J_H_bars.2.1 43 = .ok (.getfield 37, 3) := by decide +kernel
theorem J_H_bars_d46 : decode J_H_bars.2.1 46 = .ok (.iload_n 1, 1) := by decide +kernel
theorem J_H_bars_d47 : decode J_H_bars.2.1 47 = .ok (.iload_n 2, 1) := by decide +kernel
theorem J_H_bars_d48 : decode J_H_bars.2.1 48 = .ok (.iload_n 3, 1) := by decide +kernel
theorem J_H_bars_d49 : decode J_H_bars.2.1 49 = .ok (.aload_n 0, 1) := by decide +kernel
theorem J_H_bars_d50 : decode J_H_bars.2.1 50 = .ok (.getfield 44, 3) := by decide +kernel
theorem J_H_bars_d53 : decode J_H_bars.2.1 53 = .ok (.getfield 186, 3) := by decide +kernel
theorem J_H_bars_d56 : decode J_H_bars.2.1 56 = .ok (.invokevirtual 189, 3) := by decide +kernel
theorem J_H_bars_d59 : decode J_H_bars.2.1 59 = .ok (.aload_n 0, 1) := by decide +kernel
theorem J_H_bars_d60 : decode J_H_bars.2.1 60 = .ok (.getfield 80, 3) := by decide +kernel
theorem J_H_bars_d63 : decode J_H_bars.2.1 63 = .ok (.invokevirtual 237, 3) := by decide +kernel
theorem J_H_bars_d66 : decode J_H_bars.2.1 66 = .ok (.istore 4, 2) := by decide +kernel
theorem J_H_bars_d68 : decode J_H_bars.2.1 68 = .ok (.iload 4, 2) := by decide +kernel
theorem J_H_bars_d70 : decode J_H_bars.2.1 70 = .ok (.iconst (-1), 1) := by decide +kernel
theorem J_H_bars_d71 : decode J_H_bars.2.1 71 = .ok (.if_icmp .ne 5, 3) := by decide +kernel
theorem J_H_bars_d74 : decode J_H_bars.2.1 74 = .ok (.iconst (-1), 1) := by decide +kernel
theorem J_H_bars_d75 : decode J_H_bars.2.1 75 = .ok (.ireturn, 1) := by decide +kernel
theorem J_H_bars_d76 : decode J_H_bars.2.1 76 = .ok (.aload_n 0, 1) := by decide +kernel
theorem J_H_bars_d77 : decode J_H_bars.2.1 77 = .ok (.getfield 77, 3) := by decide +kernel
theorem J_H_bars_d80 : decode J_H_bars.2.1 80 = .ok (.iconst 0, 1) := by decide +kernel
theorem J_H_bars_d81 : decode J_H_bars.2.1 81 = .ok (.aload_n 0, 1) := by decide +kernel
theorem J_H_bars_d82 : decode J_H_bars.2.1 82 = .ok (.getfield 44, 3) := by decide +kernel
theorem J_H_bars_d85 : decode J_H_bars.2.1 85 = .ok (.getfield 240, 3) := by decide +kernel
theorem J_H_bars_d88 : decode J_H_bars.2.1 88 = .ok (.ifCond .eq 7, 3) := by decide +kernel
theorem J_H_bars_d91 : decode J_H_bars.2.1 91 = .ok (.iconst 2, 1) := by decide +kernel
theorem J_H_bars_d92 : decode J_H_bars.2.1 92 = .ok (.goto 4, 3) := by decide +kernel
theorem J_H_bars_d95 : decode J_H_bars.2.1 95 = .ok (.iconst 1, 1) := by decide +kernel
theorem J_H_bars_d96 : decode J_H_bars.2.1 96 = .ok (.iastore, 1) := by decide +kernel
theorem J_H_bars_d97 : decode J_H_bars.2.1 97 = .ok (.aload_n 0, 1) := by decide +kernel
theorem J_H_bars_d98 : decode J_H_bars.2.1 98 = .ok (.getfield 77, 3) := by decide +kernel
theorem J_H_bars_d101 : decode J_H_bars.2.1 101 = .ok (.iconst 5, 1) := by decide +kernel
theorem J_H_bars_d102 : decode J_H_bars.2.1 102 = .ok (.aload_n 0, 1) := by decide +kernel
theorem J_H_bars_d103 : decode J_H_bars.2.1 103 = .ok (.getfield 44, 3) := by decide +kernel
theorem J_H_bars_d106 : decode J_H_bars.2.1 106 = .ok (.getfield 244, 3) := by decide +kernel
theorem J_H_bars_d109 : decode J_H_bars.2.1 109 = .ok (.ifCond .eq 7, 3) := by decide +kernel
theorem J_H_bars_d112 : decode J_H_bars.2.1 112 = .ok (.iconst 1, 1) := by decide +kernel
theorem J_H_bars_d113 : decode J_H_bars.2.1 113 = .ok (.goto 4, 3) := by decide +kernel
theorem J_H_bars_d116 : decode J_H_bars.2.1 116 = .ok (.iconst 0, 1) := by decide +kernel
theorem J_H_bars_d117 : decode J_H_bars.2.1 117 = .ok (.iastore, 1) := by decide +kernel
theorem J_H_bars_d118 : decode J_H_bars.2.1 118 = .ok (.aload_n 0, 1) := by decide +kernel
theorem J_H_bars_d119 : decode J_H_bars.2.1 119 = .ok (.iload 4, 2) := by decide +kernel
theorem J_H_bars_d121 : decode J_H_bars.2.1 121 = .ok (.putfield 231, 3) := by decide +kernel
theorem J_H_bars_d124 : decode J_H_bars.2.1 124 = .ok (.iload 4, 2) := by decide +kernel
theorem J_H_bars_d126 : decode J_H_bars.2.1 126 = .ok (.ireturn, 1) := by decide +kernel
theorem f_H_bars_ok {L : Nat} {xs : Nat → Int32} {dep : Nat} {w : Bool} {p0 : Int32} {p1 : Int32} {p2 : Int32} {M : im_M} {Q : Int32 × im_M → Prop} (hM : lw_S w M) (h : ed (f_H_bars w p0 p1 p2 M) Q) : ia (tb_G L xs) (dep + 5) J_H_bars (rwI w Q) (0, lv_args 0 [.ref 0, .int p0, .int p1, .int p2], [], M) := by
  have hS : im_St (tb_G L xs) (dep + 5) J_H_bars (ia (tb_G L xs) (dep + 5) J_H_bars (rwI w Q)) := ia_St
  unfold f_H_bars at h
  have l0 : im_lk (lv_args 0 [.ref 0, .int p0, .int p1, .int p2]) 0 = some (.ref 0) := rfl
  have l1 : im_lk (lv_args 0 [.ref 0, .int p0, .int p1, .int p2]) 1 = some (.int p0) := rfl
  have l2 : im_lk (lv_args 0 [.ref 0, .int p0, .int p1, .int p2]) 2 = some (.int p1) := rfl
  have l3 : im_lk (lv_args 0 [.ref 0, .int p0, .int p1, .int p2]) 3 = some (.int p2) := rfl
  refine iq_aload_n hS 1 J_H_bars_d0 l0 rfl ?_
  refine iq_getR hS 4 J_H_bars_d1 lf_11_37 (Or.inl ⟨_, rfl⟩) (ka_0 hM) (ra_0_3 hM) rfl ?_
  refine iq_iload_n hS 5 J_H_bars_d4 l1 rfl ?_
  refine iq_iload_n hS 6 J_H_bars_d5 l2 rfl ?_
  obtain ⟨Q1, hQ1, h⟩ := bd1_ed h
  refine iq_cpI hS 9 J_H_bars_d6 rfl (pr_inst (vs := [_, _]) lc_11_182 lT_198 rfl rfl (by decide) (by decide) rfl (Nat.le_of_ble_eq_true rfl) (Nat.le_of_ble_eq_true rfl) (fun _ => Or.inl (pr_b (ka_28 hM) (by decide) rfl))) (f_HSheet_has_ok (dep := dep + 4) hM h) rfl ?_
  intro x1 h
  replace h := hQ1 _ h
  refine iq_if_ne hS 12 J_H_bars_d9 (t := 20) rfl (fun q9 => ?_) rfl (fun q9 => ?_)
  · replace h := ed_pos q9 h
    refine iq_aload_n hS 21 J_H_bars_d20 l0 rfl ?_
    obtain ⟨Q2, hQ2, h⟩ := bd1_ed h
    refine iq_cwV hS 24 J_H_bars_d21 rfl (pr_inst (vs := []) lc_11_200 lT_225 rfl rfl (by decide) (by decide) rfl (Nat.le_of_ble_eq_true rfl) (Nat.le_of_ble_eq_true rfl) (fun _ => Or.inl (pr_b (ka_0 hM) (by decide) rfl))) (f_H_forgetReading_ok (dep := dep + 2) hM h) rfl ?_
    intro M2 hM2 h
    replace h := hQ2 _ h
    refine iq_aload_n hS 25 J_H_bars_d24 l0 rfl ?_
    refine iq_getR hS 28 J_H_bars_d25 lf_11_37 (Or.inl ⟨_, rfl⟩) (ka_0 hM2) (ra_0_3 hM2) rfl ?_
    refine iq_iload_n hS 29 J_H_bars_d28 l1 rfl ?_
    refine iq_iload_n hS 30 J_H_bars_d29 l2 rfl ?_
    obtain ⟨Q3, hQ3, h⟩ := bd1_ed h
    refine iq_cpI hS 33 J_H_bars_d30 rfl (pr_inst (vs := [_, _]) lc_11_234 lT_200 rfl rfl (by decide) (by decide) rfl (Nat.le_of_ble_eq_true rfl) (Nat.le_of_ble_eq_true rfl) (fun _ => Or.inl (pr_b (ka_28 hM2) (by decide) rfl))) (f_HSheet_isDark_ok (dep := dep + 4) hM2 h) rfl ?_
    intro x3 h
    replace h := hQ3 _ h
    refine iq_if_ne hS 36 J_H_bars_d33 (t := 38) rfl (fun q33 => ?_) rfl (fun q33 => ?_)
    · replace h := ed_pos q33 h
      refine iq_aload_n hS 39 J_H_bars_d38 l0 rfl ?_
      refine iq_getR hS 42 J_H_bars_d39 lf_11_44 (Or.inl ⟨_, rfl⟩) (ka_0 hM2) (ra_0_5 hM2) rfl ?_
      refine iq_aload_n hS 43 J_H_bars_d42 l0 rfl ?_
      refine iq_getR hS 46 J_H_bars_d43 lf_11_37 (Or.inl ⟨_, rfl⟩) (ka_0 hM2) (ra_0_3 hM2) rfl ?_
      refine iq_iload_n hS 47 J_H_bars_d46 l1 rfl ?_
      refine iq_iload_n hS 48 J_H_bars_d47 l2 rfl ?_
      refine iq_iload_n hS 49 J_H_bars_d48 l3 rfl ?_
      refine iq_aload_n hS 50 J_H_bars_d49 l0 rfl ?_
      refine iq_getR hS 53 J_H_bars_d50 lf_11_44 (Or.inl ⟨_, rfl⟩) (ka_0 hM2) (ra_0_5 hM2) rfl ?_
      refine iq_getR hS 56 J_H_bars_d53 lf_11_186 (Or.inr ⟨_, rfl⟩) (ka_31 hM2) (ra_31_0 hM2) rfl ?_
      obtain ⟨Q4, hQ4, h⟩ := bd2_ed h
      refine iq_cwI hS 59 J_H_bars_d56 rfl (pr_inst (vs := [_, _, _, _]) lc_11_189 lT_199 rfl rfl (by decide) (by decide) rfl (Nat.le_of_ble_eq_true rfl) (Nat.le_of_ble_eq_true rfl) (fun _ => Or.inl (pr_b (ka_28 hM2) (by decide) rfl))) (f_HSheet_takeRuns_ok (dep := dep + 3) hM2 h) rfl ?_
      intro x4 M4 hM4 h
      replace h := hQ4 _ _ h
      refine iq_aload_n hS 60 J_H_bars_d59 l0 rfl ?_
      refine iq_getR hS 63 J_H_bars_d60 lf_11_80 (Or.inr ⟨_, rfl⟩) (ka_0 hM4) (ra_0_11 hM4) rfl ?_
      obtain ⟨Q5, hQ5, h⟩ := bd2_ed h
      refine iq_cwI hS 66 J_H_bars_d63 rfl (pr_inst (vs := [_, _]) lc_11_237 lT_249 rfl rfl (by decide) (by decide) rfl (Nat.le_of_ble_eq_true rfl) (Nat.le_of_ble_eq_true rfl) (fun _ => Or.inl (pr_b (ka_31 hM4) (by decide) rfl))) (f_HBars_understand_ok (dep := dep + 0) hM4 h) rfl ?_
      intro x5 M5 hM5 h
      replace h := hQ5 _ _ h
      refine iq_istore hS 68 J_H_bars_d66 (by decide) rfl ?_
      refine iq_iload hS 70 J_H_bars_d68 lk_1s rfl ?_
      refine iq_iconst hS 71 J_H_bars_d70 (v := (-1)) (by decide +kernel) rfl ?_
      refine iq_icmp_ne hS 74 J_H_bars_d71 (t := 76) rfl (fun q71 => ?_) rfl (fun q71 => ?_)
      · replace h := ed_pos q71 h
        refine iq_aload_n hS 77 J_H_bars_d76 (lk_1r l0 (by decide)) rfl ?_
        refine iq_getR hS 80 J_H_bars_d77 lf_11_77 (Or.inr ⟨_, rfl⟩) (ka_0 hM5) (ra_0_10 hM5) rfl ?_
        refine iq_iconst hS 81 J_H_bars_d80 (v := 0) (by decide +kernel) rfl ?_
        refine iq_aload_n hS 82 J_H_bars_d81 (lk_1r l0 (by decide)) rfl ?_
        refine iq_getR hS 85 J_H_bars_d82 lf_11_44 (Or.inl ⟨_, rfl⟩) (ka_0 hM5) (ra_0_5 hM5) rfl ?_
        refine iq_getI hS 88 J_H_bars_d85 lf_11_240 (Or.inr rfl) (ka_31 hM5) rfl ?_
        have J6 : ∀ (z7 : Int32) (L' : List (Nat × Value)), z7 = ((if (im_i M5 31 3) = 0 then 1 else 2) : Int32) → im_lk L' 0 = some (.ref 0) → im_lk L' 4 = some (.int x5) → ia (tb_G L xs) (dep + 5) J_H_bars (rwI w Q) (96, L', [.int z7, .int 0, .ref 67], M5) := by
          intro z7 L' e8 l9 l10
          subst e8
          obtain ⟨g96, h⟩ := ed_gd h
          refine iq_iastore hS 97 J_H_bars_d96 ⟨(ka_67 hM5).1, (ka_67 hM5).2, g96.1, ix_lt (kl_67 hM5) g96.2⟩ rfl ?_
          refine iq_aload_n hS 98 J_H_bars_d97 l9 rfl ?_
          refine iq_getR hS 101 J_H_bars_d98 lf_11_77 (Or.inr ⟨_, rfl⟩) (ka_0 (lw_sI hM5)) (ra_0_10 (lw_sI hM5)) rfl ?_
          refine iq_iconst hS 102 J_H_bars_d101 (v := 5) (by decide +kernel) rfl ?_
          refine iq_aload_n hS 103 J_H_bars_d102 l9 rfl ?_
          refine iq_getR hS 106 J_H_bars_d103 lf_11_44 (Or.inl ⟨_, rfl⟩) (ka_0 (lw_sI hM5)) (ra_0_5 (lw_sI hM5)) rfl ?_
          refine iq_getI hS 109 J_H_bars_d106 lf_11_244 (Or.inr rfl) (ka_31 (lw_sI hM5)) rfl ?_
          have J11 : ∀ (z12 : Int32) (L' : List (Nat × Value)), z12 = ((if (im_i (im_setI M5 67 (Int32.toNatClampNeg 0) ((if (im_i M5 31 3) = 0 then 1 else 2) : Int32)) 31 4) = 0 then 0 else 1) : Int32) → im_lk L' 0 = some (.ref 0) → im_lk L' 4 = some (.int x5) → ia (tb_G L xs) (dep + 5) J_H_bars (rwI w Q) (117, L', [.int z12, .int 5, .ref 67], (im_setI M5 67 (Int32.toNatClampNeg 0) ((if (im_i M5 31 3) = 0 then 1 else 2) : Int32))) := by
            intro z12 L' e13 l14 l15
            subst e13
            obtain ⟨g117, h⟩ := ed_gd h
            refine iq_iastore hS 118 J_H_bars_d117 ⟨(ka_67 (lw_sI hM5)).1, (ka_67 (lw_sI hM5)).2, g117.1, ix_lt (kl_67 (lw_sI hM5)) g117.2⟩ rfl ?_
            refine iq_aload_n hS 119 J_H_bars_d118 l14 rfl ?_
            refine iq_iload hS 121 J_H_bars_d119 l15 rfl ?_
            refine iq_putI hS 124 J_H_bars_d121 lf_11_231 (Or.inl rfl) rfl (ka_0 (lw_sI (lw_sI hM5))) rfl ?_
            refine iq_iload hS 126 J_H_bars_d124 l15 rfl ?_
            exact iq_iret J_H_bars_d126 rfl rfl ⟨_, rfl, (lw_sI (lw_sI (lw_sI hM5))), ed_some h⟩
          refine iq_if_eq hS 112 J_H_bars_d109 (t := 116) rfl (fun q109 => ?_) rfl (fun q109 => ?_)
          · refine iq_iconst hS 117 J_H_bars_d116 (v := 0) (by decide +kernel) rfl ?_
            exact J11 _ _ (by simp only [if_pos q109]) l9 l10
          · refine iq_iconst hS 113 J_H_bars_d112 (v := 1) (by decide +kernel) rfl ?_
            refine iq_goto hS J_H_bars_d113 (t := 117) rfl ?_
            exact J11 _ _ (by simp only [if_neg q109]) l9 l10
        refine iq_if_eq hS 91 J_H_bars_d88 (t := 95) rfl (fun q88 => ?_) rfl (fun q88 => ?_)
        · refine iq_iconst hS 96 J_H_bars_d95 (v := 1) (by decide +kernel) rfl ?_
          exact J6 _ _ (by simp only [if_pos q88]) (lk_1r l0 (by decide)) lk_1s
        · refine iq_iconst hS 92 J_H_bars_d91 (v := 2) (by decide +kernel) rfl ?_
          refine iq_goto hS J_H_bars_d92 (t := 96) rfl ?_
          exact J6 _ _ (by simp only [if_neg q88]) (lk_1r l0 (by decide)) lk_1s
      · replace h := ed_neg q71 h
        refine iq_iconst hS 75 J_H_bars_d74 (v := (-1)) (by decide +kernel) rfl ?_
        exact iq_iret J_H_bars_d75 rfl rfl ⟨_, rfl, hM5, ed_some h⟩
    · replace h := ed_neg q33 h
      refine iq_iconst hS 37 J_H_bars_d36 (v := (-1)) (by decide +kernel) rfl ?_
      exact iq_iret J_H_bars_d37 rfl rfl ⟨_, rfl, hM2, ed_some h⟩
  · replace h := ed_neg q9 h
    exact (ed_none h).elim
theorem f_H_bars_fr {w : Bool} {p0 : Int32} {p1 : Int32} {p2 : Int32} {M : im_M} {r : Int32 × im_M} (h : f_H_bars w p0 p1 p2 M = some r) : fr 442721857979482636288 [(0, 12), (31, 3), (31, 4), (31, 9), (31, 11), (31, 12)] M r.2 := by
  replace h : ed (f_H_bars w p0 p1 p2 M) (fun x => x = r) := ⟨r, h, rfl⟩
  unfold f_H_bars at h
  obtain ⟨Q1, hQ1, h⟩ := bd1_ed h
  obtain ⟨x1, e1, h⟩ := h
  replace h := hQ1 _ h
  by_cases q9 : ¬ x1 = 0
  · replace h := ed_pos q9 h
    obtain ⟨Q2, hQ2, h⟩ := bd1_ed h
    obtain ⟨M2, e2, h⟩ := h
    replace h := hQ2 _ h
    obtain ⟨Q3, hQ3, h⟩ := bd1_ed h
    obtain ⟨x3, e3, h⟩ := h
    replace h := hQ3 _ h
    by_cases q33 : ¬ x3 = 0
    · replace h := ed_pos q33 h
      obtain ⟨Q4, hQ4, h⟩ := bd2_ed h
      obtain ⟨⟨x4, M4⟩, e4, h⟩ := h
      replace h := hQ4 _ _ h
      obtain ⟨Q5, hQ5, h⟩ := bd2_ed h
      obtain ⟨⟨x5, M5⟩, e5, h⟩ := h
      replace h := hQ5 _ _ h
      by_cases q71 : ¬ x5 = (-1)
      · replace h := ed_pos q71 h
        obtain ⟨g96, h⟩ := ed_gd h
        obtain ⟨g117, h⟩ := ed_gd h
        exact fr_ret h (fr_F (by decide) (fr_I (by decide) (fr_I (by decide) (fr_tr (fr_mono (by decide) (by decide +kernel) (f_HBars_understand_fr e5)) (fr_tr (fr_mono (by decide) (by decide +kernel) (f_HSheet_takeRuns_fr e4)) (fr_tr (fr_mono (by decide) (by decide +kernel) (f_H_forgetReading_fr e2)) fr_refl))))))
      · replace h := ed_neg q71 h
        exact fr_ret h (fr_tr (fr_mono (by decide) (by decide +kernel) (f_HBars_understand_fr e5)) (fr_tr (fr_mono (by decide) (by decide +kernel) (f_HSheet_takeRuns_fr e4)) (fr_tr (fr_mono (by decide) (by decide +kernel) (f_H_forgetReading_fr e2)) fr_refl)))
    · replace h := ed_neg q33 h
      exact fr_ret h (fr_tr (fr_mono (by decide) (by decide +kernel) (f_H_forgetReading_fr e2)) fr_refl)
  · replace h := ed_neg q9 h
    exact (ed_none h).elim
noncomputable def f_H_reading (p0 : Int32) (M : im_M) : Option (Int32) := if p0 < 0 then none else if p0 ≤ 6 then gd (inb p0 7) <| some (im_i M 67 (Int32.toNatClampNeg p0)) else none
theorem f_H_reading_ok {L : Nat} {xs : Nat → Int32} {dep : Nat} {w : Bool} {p0 : Int32} {M : im_M} {Q : Int32 → Prop} (hM : lw_S w M) (h : ed (f_H_reading p0 M) Q) : ia (tb_G L xs) dep J_H_reading (rpI M Q) (0, lv_args 0 [.ref 0, .int p0], [], M) := by
  have hS : im_St (tb_G L xs) dep J_H_reading (ia (tb_G L xs) dep J_H_reading (rpI M Q)) := ia_St
  unfold f_H_reading at h
  have l0 : im_lk (lv_args 0 [.ref 0, .int p0]) 0 = some (.ref 0) := rfl
  have l1 : im_lk (lv_args 0 [.ref 0, .int p0]) 1 = some (.int p0) := rfl
  refine iq_iload_n hS 1 J_H_reading_d0 l1 rfl ?_
  refine iq_if_lt hS 4 J_H_reading_d1 (t := 10) rfl (fun q1 => ?_) rfl (fun q1 => ?_)
  · replace h := ed_pos q1 h
    exact (ed_none h).elim
  · replace h := ed_neg q1 h
    refine iq_iload_n hS 5 J_H_reading_d4 l1 rfl ?_
    refine iq_bipush hS 7 J_H_reading_d5 (v := 6) (by decide +kernel) rfl ?_
    refine iq_icmp_le hS 10 J_H_reading_d7 (t := 18) rfl (fun q7 => ?_) rfl (fun q7 => ?_)
    · replace h := ed_pos q7 h
      refine iq_aload_n hS 19 J_H_reading_d18 l0 rfl ?_
      refine iq_getR hS 22 J_H_reading_d19 lf_11_77 (Or.inr ⟨_, rfl⟩) (ka_0 hM) (ra_0_10 hM) rfl ?_
      refine iq_iload_n hS 23 J_H_reading_d22 l1 rfl ?_
      obtain ⟨g23, h⟩ := ed_gd h
      refine iq_iaload hS 24 J_H_reading_d23 ⟨(ka_67 hM).1, (ka_67 hM).2, g23.1, ix_lt (kl_67 hM) g23.2⟩ rfl ?_
      exact iq_iret J_H_reading_d24 rfl rfl ⟨_, rfl, rfl, ed_some h⟩
    · replace h := ed_neg q7 h
      exact (ed_none h).elim
noncomputable def f_M_thrown (M : im_M) : Option (Int32) := some (im_i M 69 0)
theorem f_M_thrown_ok {L : Nat} {xs : Nat → Int32} {dep : Nat} {w : Bool} {M : im_M} {Q : Int32 → Prop} (hM : lw_S w M) (h : ed (f_M_thrown M) Q) : ia (tb_G L xs) dep J_M_thrown (rpI M Q) (0, lv_args 0 [.ref 69], [], M) := by
  have hS : im_St (tb_G L xs) dep J_M_thrown (ia (tb_G L xs) dep J_M_thrown (rpI M Q)) := ia_St
  unfold f_M_thrown at h
  have l0 : im_lk (lv_args 0 [.ref 69]) 0 = some (.ref 69) := rfl
  refine iq_aload_n hS 1 J_M_thrown_d0 l0 rfl ?_
  refine iq_getI hS 4 J_M_thrown_d1 lf_17_58 (Or.inl rfl) (ka_69 hM) rfl ?_
  exact iq_iret J_M_thrown_d4 rfl rfl ⟨_, rfl, rfl, ed_some h⟩
noncomputable def f_M_feed_L46 (v3 : Int32) (v4 : Int64) (x5 : Int32) (M6 : im_M) : Option ((Int32 × im_M) ⊕ (im_M)) := if v3 ≤ x5 then some (.inr M6) else gd (inb (im_i M6 69 2) 4096) <| some (.inl ((x5 + 1), (im_setI (im_setI M6 70 (Int32.toNatClampNeg (im_i M6 69 2)) (Int64.toInt32 ((v4 >>> (Int32.toInt64 ((8 : Int32) * x5) &&& 63) : Int64) &&& 255))) 69 2 ((im_i (im_setI M6 70 (Int32.toNatClampNeg (im_i M6 69 2)) (Int64.toInt32 ((v4 >>> (Int32.toInt64 ((8 : Int32) * x5) &&& 63) : Int64) &&& 255))) 69 2) + 1))))
noncomputable def f_M_feed (p0 : Int32) (p1 : Int64) (M : im_M) : Option (Int32 × im_M) := if (im_i (im_setI M 69 0 ((if p0 < 1 then 1 else (if p0 ≤ 8 then 0 else 1)) : Int32)) 69 0) ≤ 0 then if ((im_i (im_setI M 69 0 ((if p0 < 1 then 1 else (if p0 ≤ 8 then 0 else 1)) : Int32)) 69 2) + p0) ≤ 4096 then bd1 (lp (uc2 (f_M_feed_L46 p0 p1)) (0, (im_setI M 69 0 ((if p0 < 1 then 1 else (if p0 ≤ 8 then 0 else 1)) : Int32)))) fun (M7 : im_M) => some ((im_i M7 69 2), M7) else some ((-1), (im_setI M 69 0 ((if p0 < 1 then 1 else (if p0 ≤ 8 then 0 else 1)) : Int32))) else some (0, (im_setI M 69 0 ((if p0 < 1 then 1 else (if p0 ≤ 8 then 0 else 1)) : Int32)))
theorem f_M_feed_ok {L : Nat} {xs : Nat → Int32} {dep : Nat} {w : Bool} {p0 : Int32} {p1 : Int64} {M : im_M} {Q : Int32 × im_M → Prop} (hM : lw_S w M) (h : ed (f_M_feed p0 p1 M) Q) : ia (tb_G L xs) dep J_M_feed (rwI w Q) (0, lv_args 0 [.ref 69, .int p0, .long p1], [], M) := by
  have hS : im_St (tb_G L xs) dep J_M_feed (ia (tb_G L xs) dep J_M_feed (rwI w Q)) := ia_St
  unfold f_M_feed at h
  have l0 : im_lk (lv_args 0 [.ref 69, .int p0, .long p1]) 0 = some (.ref 69) := rfl
  have l1 : im_lk (lv_args 0 [.ref 69, .int p0, .long p1]) 1 = some (.int p0) := rfl
  have l2 : im_lk (lv_args 0 [.ref 69, .int p0, .long p1]) 2 = some (.long p1) := rfl
  refine iq_aload_n hS 1 J_M_feed_d0 l0 rfl ?_
  refine iq_iload_n hS 2 J_M_feed_d1 l1 rfl ?_
  refine iq_iconst hS 3 J_M_feed_d2 (v := 1) (by decide +kernel) rfl ?_
  have J1 : ∀ (z2 : Int32) (L' : List (Nat × Value)), z2 = ((if p0 < 1 then 1 else (if p0 ≤ 8 then 0 else 1)) : Int32) → im_lk L' 0 = some (.ref 69) → im_lk L' 1 = some (.int p0) → im_lk L' 2 = some (.long p1) → ia (tb_G L xs) dep J_M_feed (rwI w Q) (17, L', [.int z2, .ref 69], M) := by
    intro z2 L' e3 l4 l5 l6
    subst e3
    refine iq_putI hS 20 J_M_feed_d17 lf_17_58 (Or.inl rfl) rfl (ka_69 hM) rfl ?_
    refine iq_aload_n hS 21 J_M_feed_d20 l4 rfl ?_
    refine iq_getI hS 24 J_M_feed_d21 lf_17_58 (Or.inl rfl) (ka_69 (lw_sI hM)) rfl ?_
    refine iq_if_le hS 27 J_M_feed_d24 (t := 29) rfl (fun q24 => ?_) rfl (fun q24 => ?_)
    · replace h := ed_pos q24 h
      refine iq_aload_n hS 30 J_M_feed_d29 l4 rfl ?_
      refine iq_getI hS 33 J_M_feed_d30 lf_17_61 (Or.inl rfl) (ka_69 (lw_sI hM)) rfl ?_
      refine iq_iload_n hS 34 J_M_feed_d33 l5 rfl ?_
      refine iq_iadd hS 35 J_M_feed_d34 rfl ?_
      refine iq_sipush hS 38 J_M_feed_d35 (v := 4096) (by decide +kernel) rfl ?_
      refine iq_icmp_le hS 41 J_M_feed_d38 (t := 43) rfl (fun q38 => ?_) rfl (fun q38 => ?_)
      · replace h := ed_pos q38 h
        refine iq_iconst hS 44 J_M_feed_d43 (v := 0) (by decide +kernel) rfl ?_
        refine iq_istore hS 46 J_M_feed_d44 (by decide) rfl ?_
        obtain ⟨Q7, hQ7, h⟩ := bd1_ed h
        have K7 : ∀ (M8 : im_M) (L' : List (Nat × Value)), lw_S w M8 → im_lk L' 0 = some (.ref 69) → Q7 M8 → ia (tb_G L xs) dep J_M_feed (rwI w Q) (89, L', [], M8) := by
          intro M8 L' hM8 l9 h
          replace h := hQ7 _ h
          refine iq_aload_n hS 90 J_M_feed_d89 l9 rfl ?_
          refine iq_getI hS 93 J_M_feed_d90 lf_17_61 (Or.inl rfl) (ka_69 hM8) rfl ?_
          exact iq_iret J_M_feed_d93 rfl rfl ⟨_, rfl, hM8, ed_some h⟩
        obtain ⟨r7, hr7, hq7⟩ := h
        obtain ⟨n7, hn7⟩ := lp_n hr7
        have I7 : ∀ (n : Nat) (x10 : Int32) (M11 : im_M) (L' : List (Nat × Value)), lw_S w M11 → im_lk L' 0 = some (.ref 69) → im_lk L' 1 = some (.int p0) → im_lk L' 2 = some (.long p1) → im_lk L' 4 = some (.int x10) → lpn (uc2 (f_M_feed_L46 p0 p1)) n (x10, M11) = some r7 → ia (tb_G L xs) dep J_M_feed (rwI w Q) (46, L', [], M11) := by
          intro n
          induction n with
          | zero => intro x10 M11 L' hM11 l12 l13 l14 l15 hn; exact (lpn_0 hn).elim
          | succ n ih =>
            intro x10 M11 L' hM11 l12 l13 l14 l15 hn
            have h := lpn_ed2 hn
            unfold f_M_feed_L46 at h
            refine iq_iload hS 48 J_M_feed_d46 l15 rfl ?_
            refine iq_iload_n hS 49 J_M_feed_d48 l13 rfl ?_
            refine iq_icmp_ge hS 52 J_M_feed_d49 (t := 89) rfl (fun q49 => ?_) rfl (fun q49 => ?_)
            · replace h := ed_pos q49 h
              exact K7 _ _ hM11 l12 (lq_r h hq7)
            · replace h := ed_neg q49 h
              refine iq_aload_n hS 53 J_M_feed_d52 l12 rfl ?_
              refine iq_getR hS 56 J_M_feed_d53 lf_17_7 (Or.inr ⟨_, rfl⟩) (ka_69 hM11) (ra_69_1 hM11) rfl ?_
              refine iq_aload_n hS 57 J_M_feed_d56 l12 rfl ?_
              refine iq_getI hS 60 J_M_feed_d57 lf_17_61 (Or.inl rfl) (ka_69 hM11) rfl ?_
              refine iq_lload_n hS 61 J_M_feed_d60 l14 rfl ?_
              refine iq_bipush hS 63 J_M_feed_d61 (v := 8) (by decide +kernel) rfl ?_
              refine iq_iload hS 65 J_M_feed_d63 l15 rfl ?_
              refine iq_imul hS 66 J_M_feed_d65 rfl ?_
              refine iq_lshr hS 67 J_M_feed_d66 rfl ?_
              refine iq_ldc2_w hS 70 J_M_feed_d67 lk_17_64 rfl ?_
              refine iq_land hS 71 J_M_feed_d70 rfl ?_
              refine iq_l2i hS 72 J_M_feed_d71 rfl ?_
              obtain ⟨g72, h⟩ := ed_gd h
              refine iq_iastore hS 73 J_M_feed_d72 ⟨(ka_70 hM11).1, (ka_70 hM11).2, g72.1, ix_lt (kl_70 hM11) g72.2⟩ rfl ?_
              refine iq_aload_n hS 74 J_M_feed_d73 l12 rfl ?_
              refine iq_dup hS 75 J_M_feed_d74 rfl rfl ?_
              refine iq_getI hS 78 J_M_feed_d75 lf_17_61 (Or.inl rfl) (ka_69 (lw_sI hM11)) rfl ?_
              refine iq_iconst hS 79 J_M_feed_d78 (v := 1) (by decide +kernel) rfl ?_
              refine iq_iadd hS 80 J_M_feed_d79 rfl ?_
              refine iq_putI hS 83 J_M_feed_d80 lf_17_61 (Or.inl rfl) rfl (ka_69 (lw_sI hM11)) rfl ?_
              refine iq_iincv hS 86 J_M_feed_d83 (c := 1) (by decide +kernel) l15 (by decide) rfl ?_
              refine iq_goto hS J_M_feed_d86 (t := 46) rfl ?_
              exact ih _ _ _ (lw_sI (lw_sI hM11)) (lk_1r l12 (by decide)) (lk_1i l13 (by decide)) (lk_1l l14 (by decide) (by decide)) lk_1s (lq_l h)
        exact I7 n7 _ _ _ (lw_sI hM) (lk_1r l4 (by decide)) (lk_1i l5 (by decide)) (lk_1l l6 (by decide) (by decide)) lk_1s hn7
      · replace h := ed_neg q38 h
        refine iq_iconst hS 42 J_M_feed_d41 (v := (-1)) (by decide +kernel) rfl ?_
        exact iq_iret J_M_feed_d42 rfl rfl ⟨_, rfl, (lw_sI hM), ed_some h⟩
    · replace h := ed_neg q24 h
      refine iq_iconst hS 28 J_M_feed_d27 (v := 0) (by decide +kernel) rfl ?_
      exact iq_iret J_M_feed_d28 rfl rfl ⟨_, rfl, (lw_sI hM), ed_some h⟩
  refine iq_icmp_lt hS 6 J_M_feed_d3 (t := 12) rfl (fun q3 => ?_) rfl (fun q3 => ?_)
  · refine iq_iconst hS 13 J_M_feed_d12 (v := 1) (by decide +kernel) rfl ?_
    refine iq_goto hS J_M_feed_d13 (t := 17) rfl ?_
    exact J1 _ _ (by simp only [if_pos q3]) l0 l1 l2
  · refine iq_iload_n hS 7 J_M_feed_d6 l1 rfl ?_
    refine iq_bipush hS 9 J_M_feed_d7 (v := 8) (by decide +kernel) rfl ?_
    refine iq_icmp_le hS 12 J_M_feed_d9 (t := 16) rfl (fun q9 => ?_) rfl (fun q9 => ?_)
    · refine iq_iconst hS 17 J_M_feed_d16 (v := 0) (by decide +kernel) rfl ?_
      exact J1 _ _ (by simp only [if_neg q3, if_pos q9]) l0 l1 l2
    · refine iq_iconst hS 13 J_M_feed_d12 (v := 1) (by decide +kernel) rfl ?_
      refine iq_goto hS J_M_feed_d13 (t := 17) rfl ?_
      exact J1 _ _ (by simp only [if_neg q3, if_neg q9]) l0 l1 l2
theorem f_M_feed_fr {p0 : Int32} {p1 : Int64} {M : im_M} {r : Int32 × im_M} (h : f_M_feed p0 p1 M = some r) : fr 1180591620717411303424 [(69, 0), (69, 2)] M r.2 := by
  replace h : ed (f_M_feed p0 p1 M) (fun x => x = r) := ⟨r, h, rfl⟩
  unfold f_M_feed at h
  by_cases q24 : (im_i (im_setI M 69 0 ((if p0 < 1 then 1 else (if p0 ≤ 8 then 0 else 1)) : Int32)) 69 0) ≤ 0
  · replace h := ed_pos q24 h
    by_cases q38 : ((im_i (im_setI M 69 0 ((if p0 < 1 then 1 else (if p0 ≤ 8 then 0 else 1)) : Int32)) 69 2) + p0) ≤ 4096
    · replace h := ed_pos q38 h
      obtain ⟨Q2, hQ2, h⟩ := bd1_ed h
      have K2 : ∀ (M3 : im_M), fr 1180591620717411303424 [(69, 0), (69, 2)] M M3 → Q2 M3 → fr 1180591620717411303424 [(69, 0), (69, 2)] M r.2 := by
        intro M3 hM3 h
        replace h := hQ2 _ h
        exact fr_ret h hM3
      obtain ⟨r2, hr2, hq2⟩ := h
      obtain ⟨n2, hn2⟩ := lp_n hr2
      have I2 : ∀ (n : Nat) (x4 : Int32) (M5 : im_M), fr 1180591620717411303424 [(69, 0), (69, 2)] M M5 → lpn (uc2 (f_M_feed_L46 p0 p1)) n (x4, M5) = some r2 → fr 1180591620717411303424 [(69, 0), (69, 2)] M r.2 := by
        intro n
        induction n with
        | zero => intro x4 M5 hM5 hn; exact (lpn_0 hn).elim
        | succ n ih =>
          intro x4 M5 hM5 hn
          have h := lpn_ed2 hn
          unfold f_M_feed_L46 at h
          by_cases q49 : p0 ≤ x4
          · replace h := ed_pos q49 h
            exact K2 _ hM5 (lq_r h hq2)
          · replace h := ed_neg q49 h
            obtain ⟨g72, h⟩ := ed_gd h
            exact ih _ _ (fr_F (by decide) (fr_I (by decide) hM5)) (lq_l h)
      exact I2 n2 _ _ (fr_F (by decide) fr_refl) hn2
    · replace h := ed_neg q38 h
      exact fr_ret h (fr_F (by decide) fr_refl)
  · replace h := ed_neg q24 h
    exact fr_ret h (fr_F (by decide) fr_refl)
noncomputable def f_M_wipe (M : im_M) : Option (Int32 × im_M) := some ((im_i (im_setI M 69 0 0) 69 2), (im_setI (im_setI M 69 0 0) 69 2 0))
theorem f_M_wipe_ok {L : Nat} {xs : Nat → Int32} {dep : Nat} {w : Bool} {M : im_M} {Q : Int32 × im_M → Prop} (hM : lw_S w M) (h : ed (f_M_wipe M) Q) : ia (tb_G L xs) dep J_M_wipe (rwI w Q) (0, lv_args 0 [.ref 69], [], M) := by
  have hS : im_St (tb_G L xs) dep J_M_wipe (ia (tb_G L xs) dep J_M_wipe (rwI w Q)) := ia_St
  unfold f_M_wipe at h
  have l0 : im_lk (lv_args 0 [.ref 69]) 0 = some (.ref 69) := rfl
  refine iq_aload_n hS 1 J_M_wipe_d0 l0 rfl ?_
  refine iq_iconst hS 2 J_M_wipe_d1 (v := 0) (by decide +kernel) rfl ?_
  refine iq_putI hS 5 J_M_wipe_d2 lf_17_58 (Or.inl rfl) rfl (ka_69 hM) rfl ?_
  refine iq_aload_n hS 6 J_M_wipe_d5 l0 rfl ?_
  refine iq_getI hS 9 J_M_wipe_d6 lf_17_61 (Or.inl rfl) (ka_69 (lw_sI hM)) rfl ?_
  refine iq_istore_n hS 10 J_M_wipe_d9 (by decide) rfl ?_
  refine iq_aload_n hS 11 J_M_wipe_d10 (lk_1r l0 (by decide)) rfl ?_
  refine iq_iconst hS 12 J_M_wipe_d11 (v := 0) (by decide +kernel) rfl ?_
  refine iq_putI hS 15 J_M_wipe_d12 lf_17_61 (Or.inl rfl) rfl (ka_69 (lw_sI hM)) rfl ?_
  refine iq_iload_n hS 16 J_M_wipe_d15 lk_1s rfl ?_
  exact iq_iret J_M_wipe_d16 rfl rfl ⟨_, rfl, (lw_sI (lw_sI hM)), ed_some h⟩
theorem f_M_wipe_fr {M : im_M} {r : Int32 × im_M} (h : f_M_wipe M = some r) : fr 0 [(69, 0), (69, 2)] M r.2 := by
  replace h : ed (f_M_wipe M) (fun x => x = r) := ⟨r, h, rfl⟩
  unfold f_M_wipe at h
  exact fr_ret h (fr_F (by decide) (fr_F (by decide) fr_refl))
noncomputable def f_MDotRows_isNot (p0 : Int32) (p1 : Int32) (p2 : Int32) (M : im_M) : Option (Int32) := jn0 (fun (_ : Unit) => some 1) fun k1 => if p0 < p1 then k1 () else if p0 ≤ p2 then some 0 else k1 ()
theorem J_MDotRows_isNot_d0 : decode J_MDotRows_isNot.2.1 0 = .ok (.iload_n 0, 1) := by decide +kernel
theorem J_MDotRows_isNot_d1 : decode J_MDotRows_isNot.2.1 1 = .ok (.iload_n 1, 1) := by decide +kernel
theorem J_MDotRows_isNot_d2 : decode J_MDotRows_isNot.2.1 2 = .ok (.if_icmp .lt 8, 3) := by decide +kernel
theorem J_MDotRows_isNot_d5 : decode J_MDotRows_isNot.2.1 5 = .ok (.iload_n 0, 1) := by decide +kernel
theorem J_MDotRows_isNot_d6 : decode J_MDotRows_isNot.2.1 6 = .ok (.iload_n 2, 1) := by decide +kernel
theorem J_MDotRows_isNot_d7 : decode J_MDotRows_isNot.2.1 7 = .ok (.if_icmp .le 7, 3) := by decide +kernel
theorem J_MDotRows_isNot_d10 : decode J_MDotRows_isNot.2.1 10 = .ok (.iconst 1, 1) := by decide +kernel
theorem J_MDotRows_isNot_d11 : decode J_MDotRows_isNot.2.1 11 = .ok (.goto 4, 3) := by decide +kernel
theorem J_MDotRows_isNot_d14 : decode J_MDotRows_isNot.2.1 14 = .ok (.iconst 0, 1) := by decide +kernel
theorem J_MDotRows_isNot_d15 : decode J_MDotRows_isNot.2.1 15 = .ok (.ireturn, 1) := by decide +kernel
theorem f_MDotRows_isNot_ok {L : Nat} {xs : Nat → Int32} {dep : Nat} {w : Bool} {p0 : Int32} {p1 : Int32} {p2 : Int32} {M : im_M} {Q : Int32 → Prop} (hM : lw_S w M) (h : ed (f_MDotRows_isNot p0 p1 p2 M) Q) : ia (tb_G L xs) dep J_MDotRows_isNot (rpI M Q) (0, lv_args 0 [.int p0, .int p1, .int p2], [], M) := by
  have hS : im_St (tb_G L xs) dep J_MDotRows_isNot (ia (tb_G L xs) dep J_MDotRows_isNot (rpI M Q)) := ia_St
  unfold f_MDotRows_isNot at h
  have l0 : im_lk (lv_args 0 [.int p0, .int p1, .int p2]) 0 = some (.int p0) := rfl
  have l1 : im_lk (lv_args 0 [.int p0, .int p1, .int p2]) 1 = some (.int p1) := rfl
  have l2 : im_lk (lv_args 0 [.int p0, .int p1, .int p2]) 2 = some (.int p2) := rfl
  refine iq_iload_n hS 1 J_MDotRows_isNot_d0 l0 rfl ?_
  refine iq_iload_n hS 2 J_MDotRows_isNot_d1 l1 rfl ?_
  obtain ⟨k1, Q1, hQ1, hk1, h⟩ := jn0_ed h
  have J1 : ∀  (L' : List (Nat × Value)), Q1 () → ia (tb_G L xs) dep J_MDotRows_isNot (rpI M Q) (10, L', [], M) := by
    intro  L'  h
    replace h := hQ1  h
    refine iq_iconst hS 11 J_MDotRows_isNot_d10 (v := 1) (by decide +kernel) rfl ?_
    refine iq_goto hS J_MDotRows_isNot_d11 (t := 15) rfl ?_
    exact iq_iret J_MDotRows_isNot_d15 rfl rfl ⟨_, rfl, rfl, ed_some h⟩
  refine iq_icmp_lt hS 5 J_MDotRows_isNot_d2 (t := 10) rfl (fun q2 => ?_) rfl (fun q2 => ?_)
  · replace h := ed_pos q2 h
    exact J1  _  (hk1  h)
  · replace h := ed_neg q2 h
    refine iq_iload_n hS 6 J_MDotRows_isNot_d5 l0 rfl ?_
    refine iq_iload_n hS 7 J_MDotRows_isNot_d6 l2 rfl ?_
    refine iq_icmp_le hS 10 J_MDotRows_isNot_d7 (t := 14) rfl (fun q7 => ?_) rfl (fun q7 => ?_)
    · replace h := ed_pos q7 h
      refine iq_iconst hS 15 J_MDotRows_isNot_d14 (v := 0) (by decide +kernel) rfl ?_
      exact iq_iret J_MDotRows_isNot_d15 rfl rfl ⟨_, rfl, rfl, ed_some h⟩
    · replace h := ed_neg q7 h
      exact J1  _  (hk1  h)
noncomputable def f_MDotRows_font_L92 (v19 : Int32) (x20 : Int32) (M21 : im_M) : Option ((Int32 × im_M) ⊕ (im_M)) := if 8192 ≤ x20 then some (.inr M21) else gd (inb (((8192 : Int32) * v19) + x20) 32768) <| some (.inl ((x20 + 1), (im_setI M21 94 (Int32.toNatClampNeg (((8192 : Int32) * v19) + x20)) 0)))
noncomputable def f_MDotRows_font (p0 : Int32) (p1 : Int32) (p2 : Int32) (p3 : Int32) (M : im_M) : Option (im_M) := bd1 (f_MDotRows_isNot p0 0 3 M) fun (x1 : Int32) => bd1 (jn0 (fun (_ : Unit) => some 1) fun k3 => if ¬ x1 = 0 then k3 () else bd1 (f_MDotRows_isNot p1 1 32 M) fun (x4 : Int32) => if ¬ x4 = 0 then k3 () else bd1 (f_MDotRows_isNot p2 1 32 M) fun (x5 : Int32) => if ¬ x5 = 0 then k3 () else bd1 (f_MDotRows_isNot p3 0 32 M) fun (x6 : Int32) => if x6 = 0 then some 0 else k3 ()) fun (y12 : Int32) => if (im_i (im_setI M 89 0 y12) 89 0) ≤ 0 then gd (inb ((3 : Int32) * p0) 12) <| gd (inb (((3 : Int32) * p0) + 1) 12) <| gd (inb (((3 : Int32) * p0) + 2) 12) <| bd1 (lp (uc2 (f_MDotRows_font_L92 p0)) (0, (im_setI (im_setI (im_setI (im_setI M 89 0 y12) 93 (Int32.toNatClampNeg ((3 : Int32) * p0)) p1) 93 (Int32.toNatClampNeg (((3 : Int32) * p0) + 1)) p2) 93 (Int32.toNatClampNeg (((3 : Int32) * p0) + 2)) p3))) fun (M22 : im_M) => some M22 else some (im_setI M 89 0 y12)
theorem J_MDotRows_font_d0 : decode J_MDotRows_font.2.1 0 = .ok (.aload_n 0, 1) := by decide +kernel
theorem J_MDotRows_font_d1 : decode J_MDotRows_font.2.1 1 = .ok (.iload_n 1, 1) := by decide +kernel
theorem J_MDotRows_font_d2 : decode J_MDotRows_font.2.1 2 = .ok (.iconst 0, 1) := by decide +kernel
theorem J_MDotRows_font_d3 : decode J_MDotRows_font.2.1 3 = .ok (.iconst 3, 1) := by decide +kernel
theorem J_MDotRows_font_d4 : decode J_MDotRows_font.2.1 4 = .ok (.invokestatic 121, 3) := by decide +kernel
theorem J_MDotRows_font_d7 : decode J_MDotRows_font.2.1 7 = .ok (.ifCond .ne 34, 3) := by decide +kernel
theorem J_MDotRows_font_d10 : decode J_MDotRows_font.2.1 10 = .ok (.iload_n 2, 1) := by decide +kernel
theorem J_MDotRows_font_d11 : decode J_MDotRows_font.2.1 11 = .ok (.iconst 1, 1) := by decide +kernel
theorem J_MDotRows_font_d12 : decode J_MDotRows_font.2.1 12 = .ok (.bipush 32, 2) := by decide +kernel
theorem J_MDotRows_font_d14 : decode J_MDotRows_font.2.1 14 = .ok (.invokestatic 121, 3) := by decide +kernel
theorem J_MDotRows_font_d17 : decode J_MDotRows_font.2.1 17 = .ok (.ifCond .ne 24, 3) := by decide +kernel
theorem J_MDotRows_font_d20 : decode J_MDotRows_font.2.1 20 = .ok (.iload_n 3, 1) := by decide +kernel
theorem J_MDotRows_font_d21 : decode J_MDotRows_font.2.1 21 = .ok (.iconst 1, 1) := by decide +kernel
theorem J_MDotRows_font_d22 : decode J_MDotRows_font.2.1 22 = .ok (.bipush 32, 2) := by decide +kernel
theorem J_MDotRows_font_d24 : decode J_MDotRows_font.2.1 24 = .ok (.invokestatic 121, 3) := by decide +kernel
theorem J_MDotRows_font_d27 : decode J_MDotRows_font.2.1 27 = .ok (.ifCond .ne 14, 3) := by decide +kernel
theorem J_MDotRows_font_d30 : decode J_MDotRows_font.2.1 30 = .ok (.iload 4, 2) := by decide +kernel
theorem J_MDotRows_font_d32 : decode J_MDotRows_font.2.1 32 = .ok (.iconst 0, 1) := by decide +kernel
theorem J_MDotRows_font_d33 : decode J_MDotRows_font.2.1 33 = .ok (.bipush 32, 2) := by decide +kernel
theorem J_MDotRows_font_d35 : decode J_MDotRows_font.2.1 35 = .ok (.invokestatic 121, 3) := by decide +kernel
theorem J_MDotRows_font_d38 : decode J_MDotRows_font.2.1 38 = .ok (.ifCond .eq 7, 3) := by decide +kernel
theorem J_MDotRows_font_d41 : decode J_MDotRows_font.2.1 41 = .ok (.iconst 1, 1) := by decide +kernel
theorem J_MDotRows_font_d42 : decode J_MDotRows_font.2.1 42 = .ok (.goto 4, 3) := by decide +kernel
theorem J_MDotRows_font_d45 : decode J_MDotRows_font.2.1 45 = .ok (.iconst 0, 1) := by decide +kernel
theorem J_MDotRows_font_d46 : decode J_MDotRows_font.2.1 46 = .ok (.putfield 37, 3) := by decide +kernel
theorem J_MDotRows_font_d49 : decode J_MDotRows_font.2.1 49 = .ok (.aload_n 0, 1) := by decide +kernel
theorem J_MDotRows_font_d50 : decode J_MDotRows_font.2.1 50 = .ok (.getfield 37, 3) := by decide +kernel
theorem J_MDotRows_font_d53 : decode J_MDotRows_font.2.1 53 = .ok (.ifCond .le 4, 3) := by decide +kernel
theorem J_MDotRows_font_d56 : decode J_MDotRows_font.2.1 56 = .ok (.return_, 1) := by decide +kernel
theorem J_MDotRows_font_d57 : decode J_MDotRows_font.2.1 57 = .ok (.aload_n 0, 1) := by decide +kernel
theorem J_MDotRows_font_d58 : decode J_MDotRows_font.2.1 58 = .ok (.getfield 27, 3) := by decide +kernel
theorem J_MDotRows_font_d61 : decode J_MDotRows_font.2.1 61 = .ok (.iconst 3, 1) := by decide +kernel
theorem J_MDotRows_font_d62 : decode J_MDotRows_font.2.1 62 = .ok (.iload_n 1, 1) := by decide +kernel
theorem J_MDotRows_font_d63 : decode J_MDotRows_font.2.1 63 = .ok (.imul, 1) := by decide +kernel
theorem J_MDotRows_font_d64 : decode J_MDotRows_font.2.1 64 = .ok (.iload_n 2, 1) := by decide +kernel
theorem J_MDotRows_font_d65 : decode J_MDotRows_font.2.1 65 = .ok (.iastore, 1) := by decide +kernel
theorem J_MDotRows_font_d66 : decode J_MDotRows_font.2.1 66 = .ok (.aload_n 0, 1) := by decide +kernel
theorem J_MDotRows_font_d67 : decode J_MDotRows_font.2.1 67 = .ok (.getfield 27, 3) := by decide +kernel
theorem J_MDotRows_font_d70 : decode J_MDotRows_font.2.1 70 = .ok (.iconst 3, 1) := by decide +kernel
theorem J_MDotRows_font_d71 : decode J_MDotRows_font.2.1 71 = .ok (.iload_n 1, 1) := by decide +kernel
theorem J_MDotRows_font_d72 : decode J_MDotRows_font.2.1 72 = .ok (.imul, 1) := by decide +kernel
theorem J_MDotRows_font_d73 : decode J_MDotRows_font.2.1 73 = .ok (.iconst 1, 1) := by decide +kernel
theorem J_MDotRows_font_d74 : decode J_MDotRows_font.2.1 74 = .ok (.iadd, 1) := by decide +kernel
theorem J_MDotRows_font_d75 : decode J_MDotRows_font.2.1 75 = .ok (.iload_n 3, 1) := by decide +kernel
theorem J_MDotRows_font_d76 : decode J_MDotRows_font.2.1 76 = .ok (.iastore, 1) := by decide +kernel
theorem J_MDotRows_font_d77 : decode J_MDotRows_font.2.1 77 = .ok (.aload_n 0, 1) := by decide +kernel
theorem J_MDotRows_font_d78 : decode J_MDotRows_font.2.1 78 = .ok (.getfield 27, 3) := by decide +kernel
theorem J_MDotRows_font_d81 : decode J_MDotRows_font.2.1 81 = .ok (.iconst 3, 1) := by decide +kernel
theorem J_MDotRows_font_d82 : decode J_MDotRows_font.2.1 82 = .ok (.iload_n 1, 1) := by decide +kernel
theorem J_MDotRows_font_d83 : decode J_MDotRows_font.2.1 83 = .ok (.imul, 1) := by decide +kernel
theorem J_MDotRows_font_d84 : decode J_MDotRows_font.2.1 84 = .ok (.iconst 2, 1) := by decide +kernel
theorem J_MDotRows_font_d85 : decode J_MDotRows_font.2.1 85 = .ok (.iadd, 1) := by decide +kernel
theorem J_MDotRows_font_d86 : decode J_MDotRows_font.2.1 86 = .ok (.iload 4, 2) := by decide +kernel
theorem J_MDotRows_font_d88 : decode J_MDotRows_font.2.1 88 = .ok (.iastore, 1) := by decide +kernel
theorem J_MDotRows_font_d89 : decode J_MDotRows_font.2.1 89 = .ok (.iconst 0, 1) := by decide +kernel
theorem J_MDotRows_font_d90 : decode J_MDotRows_font.2.1 90 = .ok (.istore 5, 2) := by decide +kernel
theorem J_MDotRows_font_d92 : decode J_MDotRows_font.2.1 92 = .ok (.iload 5, 2) := by decide +kernel
theorem J_MDotRows_font_d94 : decode J_MDotRows_font.2.1 94 = .ok (.sipush 8192, 3) := by decide +kernel
theorem J_MDotRows_font_d97 : decode J_MDotRows_font.2.1 97 = .ok (.if_icmp .ge 23, 3) := by decide +kernel
theorem J_MDotRows_font_d100 : decode J_MDotRows_font.2.1 100 = .ok (.aload_n 0, 1) := by decide +kernel
theorem J_MDotRows_font_d101 : decode J_MDotRows_font.2.1 101 = .ok (.getfield 30, 3) := by decide +kernel
theorem J_MDotRows_font_d104 : decode J_MDotRows_font.2.1 104 = .ok (.sipush 8192, 3) := by decide +kernel
theorem J_MDotRows_font_d107 : decode J_MDotRows_font.2.1 107 = .ok (.iload_n 1, 1) := by decide +kernel
theorem J_MDotRows_font_d108 : decode J_MDotRows_font.2.1 108 = .ok (.imul, 1) := by decide +kernel
theorem J_MDotRows_font_d109 : decode J_MDotRows_font.2.1 109 = .ok (.iload 5, 2) := by decide +kernel
theorem J_MDotRows_font_d111 : decode J_MDotRows_font.2.1 111 = .ok (.iadd, 1) := by decide +kernel
theorem J_MDotRows_font_d112 : decode J_MDotRows_font.2.1 112 = .ok (.iconst 0, 1) := by decide +kernel
theorem J_MDotRows_font_d113 : decode J_MDotRows_font.2.1 113 = .ok (.iastore, 1) := by decide +kernel
theorem J_MDotRows_font_d114 : decode J_MDotRows_font.2.1 114 = .ok (.iinc 5 1, 3) := by decide +kernel
theorem J_MDotRows_font_d117 : decode J_MDotRows_font.2.1 117 = .ok (.goto (-25), 3) := by decide +kernel
theorem J_MDotRows_font_d120 : decode J_MDotRows_font.2.1 120 = .ok (.return_, 1) := by decide +kernel
theorem f_MDotRows_font_ok {L : Nat} {xs : Nat → Int32} {dep : Nat} {w : Bool} {p0 : Int32} {p1 : Int32} {p2 : Int32} {p3 : Int32} {M : im_M} {Q : im_M → Prop} (hM : lw_S w M) (h : ed (f_MDotRows_font p0 p1 p2 p3 M) Q) : ia (tb_G L xs) (dep + 1) J_MDotRows_font (rwV w Q) (0, lv_args 0 [.ref 89, .int p0, .int p1, .int p2, .int p3], [], M) := by
  have hS : im_St (tb_G L xs) (dep + 1) J_MDotRows_font (ia (tb_G L xs) (dep + 1) J_MDotRows_font (rwV w Q)) := ia_St
  unfold f_MDotRows_font at h
  have l0 : im_lk (lv_args 0 [.ref 89, .int p0, .int p1, .int p2, .int p3]) 0 = some (.ref 89) := rfl
  have l1 : im_lk (lv_args 0 [.ref 89, .int p0, .int p1, .int p2, .int p3]) 1 = some (.int p0) := rfl
  have l2 : im_lk (lv_args 0 [.ref 89, .int p0, .int p1, .int p2, .int p3]) 2 = some (.int p1) := rfl
  have l3 : im_lk (lv_args 0 [.ref 89, .int p0, .int p1, .int p2, .int p3]) 3 = some (.int p2) := rfl
  have l4 : im_lk (lv_args 0 [.ref 89, .int p0, .int p1, .int p2, .int p3]) 4 = some (.int p3) := rfl
  refine iq_aload_n hS 1 J_MDotRows_font_d0 l0 rfl ?_
  refine iq_iload_n hS 2 J_MDotRows_font_d1 l1 rfl ?_
  refine iq_iconst hS 3 J_MDotRows_font_d2 (v := 0) (by decide +kernel) rfl ?_
  refine iq_iconst hS 4 J_MDotRows_font_d3 (v := 3) (by decide +kernel) rfl ?_
  obtain ⟨Q1, hQ1, h⟩ := bd1_ed h
  refine iq_cpI hS 7 J_MDotRows_font_d4 rfl (pr_stat (vs := [_, _, _]) lc_12_121 lT_273 rfl rfl (by decide) rfl (Nat.le_of_ble_eq_true rfl) (Nat.le_of_ble_eq_true rfl)) (f_MDotRows_isNot_ok (dep := dep + 0) hM h) rfl ?_
  intro x1 h
  replace h := hQ1 _ h
  obtain ⟨Q2, hQ2, h⟩ := bd1_ed h
  have J2 : ∀ (y12 : Int32) (L' : List (Nat × Value)), im_lk L' 0 = some (.ref 89) → im_lk L' 1 = some (.int p0) → im_lk L' 2 = some (.int p1) → im_lk L' 3 = some (.int p2) → im_lk L' 4 = some (.int p3) → Q2 y12 → ia (tb_G L xs) (dep + 1) J_MDotRows_font (rwV w Q) (46, L', [.int y12, .ref 89], M) := by
    intro y12 L' l13 l14 l15 l16 l17 h
    replace h := hQ2 _ h
    refine iq_putI hS 49 J_MDotRows_font_d46 lf_12_37 (Or.inl rfl) rfl (ka_89 hM) rfl ?_
    refine iq_aload_n hS 50 J_MDotRows_font_d49 l13 rfl ?_
    refine iq_getI hS 53 J_MDotRows_font_d50 lf_12_37 (Or.inl rfl) (ka_89 (lw_sI hM)) rfl ?_
    refine iq_if_le hS 56 J_MDotRows_font_d53 (t := 57) rfl (fun q53 => ?_) rfl (fun q53 => ?_)
    · replace h := ed_pos q53 h
      refine iq_aload_n hS 58 J_MDotRows_font_d57 l13 rfl ?_
      refine iq_getR hS 61 J_MDotRows_font_d58 lf_12_27 (Or.inr ⟨_, rfl⟩) (ka_89 (lw_sI hM)) (ra_89_8 (lw_sI hM)) rfl ?_
      refine iq_iconst hS 62 J_MDotRows_font_d61 (v := 3) (by decide +kernel) rfl ?_
      refine iq_iload_n hS 63 J_MDotRows_font_d62 l14 rfl ?_
      refine iq_imul hS 64 J_MDotRows_font_d63 rfl ?_
      refine iq_iload_n hS 65 J_MDotRows_font_d64 l15 rfl ?_
      obtain ⟨g65, h⟩ := ed_gd h
      refine iq_iastore hS 66 J_MDotRows_font_d65 ⟨(ka_93 (lw_sI hM)).1, (ka_93 (lw_sI hM)).2, g65.1, ix_lt (kl_93 (lw_sI hM)) g65.2⟩ rfl ?_
      refine iq_aload_n hS 67 J_MDotRows_font_d66 l13 rfl ?_
      refine iq_getR hS 70 J_MDotRows_font_d67 lf_12_27 (Or.inr ⟨_, rfl⟩) (ka_89 (lw_sI (lw_sI hM))) (ra_89_8 (lw_sI (lw_sI hM))) rfl ?_
      refine iq_iconst hS 71 J_MDotRows_font_d70 (v := 3) (by decide +kernel) rfl ?_
      refine iq_iload_n hS 72 J_MDotRows_font_d71 l14 rfl ?_
      refine iq_imul hS 73 J_MDotRows_font_d72 rfl ?_
      refine iq_iconst hS 74 J_MDotRows_font_d73 (v := 1) (by decide +kernel) rfl ?_
      refine iq_iadd hS 75 J_MDotRows_font_d74 rfl ?_
      refine iq_iload_n hS 76 J_MDotRows_font_d75 l16 rfl ?_
      obtain ⟨g76, h⟩ := ed_gd h
      refine iq_iastore hS 77 J_MDotRows_font_d76 ⟨(ka_93 (lw_sI (lw_sI hM))).1, (ka_93 (lw_sI (lw_sI hM))).2, g76.1, ix_lt (kl_93 (lw_sI (lw_sI hM))) g76.2⟩ rfl ?_
      refine iq_aload_n hS 78 J_MDotRows_font_d77 l13 rfl ?_
      refine iq_getR hS 81 J_MDotRows_font_d78 lf_12_27 (Or.inr ⟨_, rfl⟩) (ka_89 (lw_sI (lw_sI (lw_sI hM)))) (ra_89_8 (lw_sI (lw_sI (lw_sI hM)))) rfl ?_
      refine iq_iconst hS 82 J_MDotRows_font_d81 (v := 3) (by decide +kernel) rfl ?_
      refine iq_iload_n hS 83 J_MDotRows_font_d82 l14 rfl ?_
      refine iq_imul hS 84 J_MDotRows_font_d83 rfl ?_
      refine iq_iconst hS 85 J_MDotRows_font_d84 (v := 2) (by decide +kernel) rfl ?_
      refine iq_iadd hS 86 J_MDotRows_font_d85 rfl ?_
      refine iq_iload hS 88 J_MDotRows_font_d86 l17 rfl ?_
      obtain ⟨g88, h⟩ := ed_gd h
      refine iq_iastore hS 89 J_MDotRows_font_d88 ⟨(ka_93 (lw_sI (lw_sI (lw_sI hM)))).1, (ka_93 (lw_sI (lw_sI (lw_sI hM)))).2, g88.1, ix_lt (kl_93 (lw_sI (lw_sI (lw_sI hM)))) g88.2⟩ rfl ?_
      refine iq_iconst hS 90 J_MDotRows_font_d89 (v := 0) (by decide +kernel) rfl ?_
      refine iq_istore hS 92 J_MDotRows_font_d90 (by decide) rfl ?_
      obtain ⟨Q18, hQ18, h⟩ := bd1_ed h
      have K18 : ∀ (M19 : im_M) (L' : List (Nat × Value)), lw_S w M19 → Q18 M19 → ia (tb_G L xs) (dep + 1) J_MDotRows_font (rwV w Q) (120, L', [], M19) := by
        intro M19 L' hM19  h
        replace h := hQ18 _ h
        exact iq_ret J_MDotRows_font_d120 rfl ⟨rfl, hM19, ed_some h⟩
      obtain ⟨r18, hr18, hq18⟩ := h
      obtain ⟨n18, hn18⟩ := lp_n hr18
      have I18 : ∀ (n : Nat) (x20 : Int32) (M21 : im_M) (L' : List (Nat × Value)), lw_S w M21 → im_lk L' 0 = some (.ref 89) → im_lk L' 1 = some (.int p0) → im_lk L' 5 = some (.int x20) → lpn (uc2 (f_MDotRows_font_L92 p0)) n (x20, M21) = some r18 → ia (tb_G L xs) (dep + 1) J_MDotRows_font (rwV w Q) (92, L', [], M21) := by
        intro n
        induction n with
        | zero => intro x20 M21 L' hM21 l22 l23 l24 hn; exact (lpn_0 hn).elim
        | succ n ih =>
          intro x20 M21 L' hM21 l22 l23 l24 hn
          have h := lpn_ed2 hn
          unfold f_MDotRows_font_L92 at h
          refine iq_iload hS 94 J_MDotRows_font_d92 l24 rfl ?_
          refine iq_sipush hS 97 J_MDotRows_font_d94 (v := 8192) (by decide +kernel) rfl ?_
          refine iq_icmp_ge hS 100 J_MDotRows_font_d97 (t := 120) rfl (fun q97 => ?_) rfl (fun q97 => ?_)
          · replace h := ed_pos q97 h
            exact K18 _ _ hM21  (lq_r h hq18)
          · replace h := ed_neg q97 h
            refine iq_aload_n hS 101 J_MDotRows_font_d100 l22 rfl ?_
            refine iq_getR hS 104 J_MDotRows_font_d101 lf_12_30 (Or.inr ⟨_, rfl⟩) (ka_89 hM21) (ra_89_9 hM21) rfl ?_
            refine iq_sipush hS 107 J_MDotRows_font_d104 (v := 8192) (by decide +kernel) rfl ?_
            refine iq_iload_n hS 108 J_MDotRows_font_d107 l23 rfl ?_
            refine iq_imul hS 109 J_MDotRows_font_d108 rfl ?_
            refine iq_iload hS 111 J_MDotRows_font_d109 l24 rfl ?_
            refine iq_iadd hS 112 J_MDotRows_font_d111 rfl ?_
            refine iq_iconst hS 113 J_MDotRows_font_d112 (v := 0) (by decide +kernel) rfl ?_
            obtain ⟨g113, h⟩ := ed_gd h
            refine iq_iastore hS 114 J_MDotRows_font_d113 ⟨(ka_94 hM21).1, (ka_94 hM21).2, g113.1, ix_lt (kl_94 hM21) g113.2⟩ rfl ?_
            refine iq_iincv hS 117 J_MDotRows_font_d114 (c := 1) (by decide +kernel) l24 (by decide) rfl ?_
            refine iq_goto hS J_MDotRows_font_d117 (t := 92) rfl ?_
            exact ih _ _ _ (lw_sI hM21) (lk_1r l22 (by decide)) (lk_1i l23 (by decide)) lk_1s (lq_l h)
      exact I18 n18 _ _ _ (lw_sI (lw_sI (lw_sI (lw_sI hM)))) (lk_1r l13 (by decide)) (lk_1i l14 (by decide)) lk_1s hn18
    · replace h := ed_neg q53 h
      exact iq_ret J_MDotRows_font_d56 rfl ⟨rfl, (lw_sI hM), ed_some h⟩
  obtain ⟨k3, Q3, hQ3, hk3, h⟩ := jn0_ed h
  have J3 : ∀  (L' : List (Nat × Value)), im_lk L' 0 = some (.ref 89) → im_lk L' 1 = some (.int p0) → im_lk L' 2 = some (.int p1) → im_lk L' 3 = some (.int p2) → im_lk L' 4 = some (.int p3) → Q3 () → ia (tb_G L xs) (dep + 1) J_MDotRows_font (rwV w Q) (41, L', [.ref 89], M) := by
    intro  L' l7 l8 l9 l10 l11 h
    replace h := hQ3  h
    refine iq_iconst hS 42 J_MDotRows_font_d41 (v := 1) (by decide +kernel) rfl ?_
    refine iq_goto hS J_MDotRows_font_d42 (t := 46) rfl ?_
    exact J2 _ _ l7 l8 l9 l10 l11 (ed_some h)
  refine iq_if_ne hS 10 J_MDotRows_font_d7 (t := 41) rfl (fun q7 => ?_) rfl (fun q7 => ?_)
  · replace h := ed_pos q7 h
    exact J3  _ l0 l1 l2 l3 l4 (hk3  h)
  · replace h := ed_neg q7 h
    refine iq_iload_n hS 11 J_MDotRows_font_d10 l2 rfl ?_
    refine iq_iconst hS 12 J_MDotRows_font_d11 (v := 1) (by decide +kernel) rfl ?_
    refine iq_bipush hS 14 J_MDotRows_font_d12 (v := 32) (by decide +kernel) rfl ?_
    obtain ⟨Q4, hQ4, h⟩ := bd1_ed h
    refine iq_cpI hS 17 J_MDotRows_font_d14 rfl (pr_stat (vs := [_, _, _]) lc_12_121 lT_273 rfl rfl (by decide) rfl (Nat.le_of_ble_eq_true rfl) (Nat.le_of_ble_eq_true rfl)) (f_MDotRows_isNot_ok (dep := dep + 0) hM h) rfl ?_
    intro x4 h
    replace h := hQ4 _ h
    refine iq_if_ne hS 20 J_MDotRows_font_d17 (t := 41) rfl (fun q17 => ?_) rfl (fun q17 => ?_)
    · replace h := ed_pos q17 h
      exact J3  _ l0 l1 l2 l3 l4 (hk3  h)
    · replace h := ed_neg q17 h
      refine iq_iload_n hS 21 J_MDotRows_font_d20 l3 rfl ?_
      refine iq_iconst hS 22 J_MDotRows_font_d21 (v := 1) (by decide +kernel) rfl ?_
      refine iq_bipush hS 24 J_MDotRows_font_d22 (v := 32) (by decide +kernel) rfl ?_
      obtain ⟨Q5, hQ5, h⟩ := bd1_ed h
      refine iq_cpI hS 27 J_MDotRows_font_d24 rfl (pr_stat (vs := [_, _, _]) lc_12_121 lT_273 rfl rfl (by decide) rfl (Nat.le_of_ble_eq_true rfl) (Nat.le_of_ble_eq_true rfl)) (f_MDotRows_isNot_ok (dep := dep + 0) hM h) rfl ?_
      intro x5 h
      replace h := hQ5 _ h
      refine iq_if_ne hS 30 J_MDotRows_font_d27 (t := 41) rfl (fun q27 => ?_) rfl (fun q27 => ?_)
      · replace h := ed_pos q27 h
        exact J3  _ l0 l1 l2 l3 l4 (hk3  h)
      · replace h := ed_neg q27 h
        refine iq_iload hS 32 J_MDotRows_font_d30 l4 rfl ?_
        refine iq_iconst hS 33 J_MDotRows_font_d32 (v := 0) (by decide +kernel) rfl ?_
        refine iq_bipush hS 35 J_MDotRows_font_d33 (v := 32) (by decide +kernel) rfl ?_
        obtain ⟨Q6, hQ6, h⟩ := bd1_ed h
        refine iq_cpI hS 38 J_MDotRows_font_d35 rfl (pr_stat (vs := [_, _, _]) lc_12_121 lT_273 rfl rfl (by decide) rfl (Nat.le_of_ble_eq_true rfl) (Nat.le_of_ble_eq_true rfl)) (f_MDotRows_isNot_ok (dep := dep + 0) hM h) rfl ?_
        intro x6 h
        replace h := hQ6 _ h
        refine iq_if_eq hS 41 J_MDotRows_font_d38 (t := 45) rfl (fun q38 => ?_) rfl (fun q38 => ?_)
        · replace h := ed_pos q38 h
          refine iq_iconst hS 46 J_MDotRows_font_d45 (v := 0) (by decide +kernel) rfl ?_
          exact J2 _ _ l0 l1 l2 l3 l4 (ed_some h)
        · replace h := ed_neg q38 h
          exact J3  _ l0 l1 l2 l3 l4 (hk3  h)
theorem f_MDotRows_font_fr {p0 : Int32} {p1 : Int32} {p2 : Int32} {p3 : Int32} {M : im_M} {r : im_M} (h : f_MDotRows_font p0 p1 p2 p3 M = some r) : fr 29710560942849126597578981376 [(89, 0)] M r := by
  replace h : ed (f_MDotRows_font p0 p1 p2 p3 M) (fun x => x = r) := ⟨r, h, rfl⟩
  unfold f_MDotRows_font at h
  obtain ⟨Q1, hQ1, h⟩ := bd1_ed h
  obtain ⟨x1, e1, h⟩ := h
  replace h := hQ1 _ h
  obtain ⟨Q2, hQ2, h⟩ := bd1_ed h
  have J2 : ∀ (y12 : Int32), Q2 y12 → fr 29710560942849126597578981376 [(89, 0)] M r := by
    intro y12 h
    replace h := hQ2 _ h
    by_cases q53 : (im_i (im_setI M 89 0 y12) 89 0) ≤ 0
    · replace h := ed_pos q53 h
      obtain ⟨g65, h⟩ := ed_gd h
      obtain ⟨g76, h⟩ := ed_gd h
      obtain ⟨g88, h⟩ := ed_gd h
      obtain ⟨Q18, hQ18, h⟩ := bd1_ed h
      have K18 : ∀ (M19 : im_M), fr 29710560942849126597578981376 [(89, 0)] M M19 → Q18 M19 → fr 29710560942849126597578981376 [(89, 0)] M r := by
        intro M19 hM19 h
        replace h := hQ18 _ h
        exact fr_retV h hM19
      obtain ⟨r18, hr18, hq18⟩ := h
      obtain ⟨n18, hn18⟩ := lp_n hr18
      have I18 : ∀ (n : Nat) (x20 : Int32) (M21 : im_M), fr 29710560942849126597578981376 [(89, 0)] M M21 → lpn (uc2 (f_MDotRows_font_L92 p0)) n (x20, M21) = some r18 → fr 29710560942849126597578981376 [(89, 0)] M r := by
        intro n
        induction n with
        | zero => intro x20 M21 hM21 hn; exact (lpn_0 hn).elim
        | succ n ih =>
          intro x20 M21 hM21 hn
          have h := lpn_ed2 hn
          unfold f_MDotRows_font_L92 at h
          by_cases q97 : 8192 ≤ x20
          · replace h := ed_pos q97 h
            exact K18 _ hM21 (lq_r h hq18)
          · replace h := ed_neg q97 h
            obtain ⟨g113, h⟩ := ed_gd h
            exact ih _ _ (fr_I (by decide) hM21) (lq_l h)
      exact I18 n18 _ _ (fr_I (by decide) (fr_I (by decide) (fr_I (by decide) (fr_F (by decide) fr_refl)))) hn18
    · replace h := ed_neg q53 h
      exact fr_retV h (fr_F (by decide) fr_refl)
  obtain ⟨k3, Q3, hQ3, hk3, h⟩ := jn0_ed h
  have J3 : Q3 () → fr 29710560942849126597578981376 [(89, 0)] M r := by
    intro  h
    replace h := hQ3  h
    exact J2 _ (ed_some h)
  by_cases q7 : ¬ x1 = 0
  · replace h := ed_pos q7 h
    exact J3  (hk3  h)
  · replace h := ed_neg q7 h
    obtain ⟨Q4, hQ4, h⟩ := bd1_ed h
    obtain ⟨x4, e4, h⟩ := h
    replace h := hQ4 _ h
    by_cases q17 : ¬ x4 = 0
    · replace h := ed_pos q17 h
      exact J3  (hk3  h)
    · replace h := ed_neg q17 h
      obtain ⟨Q5, hQ5, h⟩ := bd1_ed h
      obtain ⟨x5, e5, h⟩ := h
      replace h := hQ5 _ h
      by_cases q27 : ¬ x5 = 0
      · replace h := ed_pos q27 h
        exact J3  (hk3  h)
      · replace h := ed_neg q27 h
        obtain ⟨Q6, hQ6, h⟩ := bd1_ed h
        obtain ⟨x6, e6, h⟩ := h
        replace h := hQ6 _ h
        by_cases q38 : x6 = 0
        · replace h := ed_pos q38 h
          exact J2 _ (ed_some h)
        · replace h := ed_neg q38 h
          exact J3  (hk3  h)
noncomputable def f_MDotRows_thrown (M : im_M) : Option (Int32) := some (im_i M 89 0)
theorem J_MDotRows_thrown_d0 : decode J_MDotRows_thrown.2.1 0 = .ok (.aload_n 0, 1) := by decide +kernel
theorem J_MDotRows_thrown_d1 : decode J_MDotRows_thrown.2.1 1 = .ok (.getfield 37, 3) := by decide +kernel
theorem J_MDotRows_thrown_d4 : decode J_MDotRows_thrown.2.1 4 = .ok (.ireturn, 1) := by decide +kernel
theorem f_MDotRows_thrown_ok {L : Nat} {xs : Nat → Int32} {dep : Nat} {w : Bool} {M : im_M} {Q : Int32 → Prop} (hM : lw_S w M) (h : ed (f_MDotRows_thrown M) Q) : ia (tb_G L xs) dep J_MDotRows_thrown (rpI M Q) (0, lv_args 0 [.ref 89], [], M) := by
  have hS : im_St (tb_G L xs) dep J_MDotRows_thrown (ia (tb_G L xs) dep J_MDotRows_thrown (rpI M Q)) := ia_St
  unfold f_MDotRows_thrown at h
  have l0 : im_lk (lv_args 0 [.ref 89]) 0 = some (.ref 89) := rfl
  refine iq_aload_n hS 1 J_MDotRows_thrown_d0 l0 rfl ?_
  refine iq_getI hS 4 J_MDotRows_thrown_d1 lf_12_37 (Or.inl rfl) (ka_89 hM) rfl ?_
  exact iq_iret J_MDotRows_thrown_d4 rfl rfl ⟨_, rfl, rfl, ed_some h⟩
noncomputable def f_M_font (p0 : Int32) (p1 : Int32) (p2 : Int32) (p3 : Int32) (M : im_M) : Option (im_M) := bd1 (f_MDotRows_font p0 p1 p2 p3 M) fun (M1 : im_M) => bd1 (f_MDotRows_thrown M1) fun (x2 : Int32) => some (im_setI M1 69 0 x2)
theorem J_M_font_d0 : decode J_M_font.2.1 0 = .ok (.aload_n 0, 1) := by decide +kernel
theorem J_M_font_d1 : decode J_M_font.2.1 1 = .ok (.getfield 23, 3) := by decide +kernel
theorem J_M_font_d4 : decode J_M_font.2.1 4 = .ok (.iload_n 1, 1) := by decide +kernel
theorem J_M_font_d5 : decode J_M_font.2.1 5 = .ok (.iload_n 2, 1) := by decide +kernel
theorem J_M_font_d6 : decode J_M_font.2.1 6 = .ok (.iload_n 3, 1) := by decide +kernel
theorem J_M_font_d7 : decode J_M_font.2.1 7 = .ok (.iload 4, 2) := by decide +kernel
theorem J_M_font_d9 : decode J_M_font.2.1 9 = .ok (.invokevirtual 66, 3) := by decide +kernel
theorem J_M_font_d12 : decode J_M_font.2.1 12 = .ok (.aload_n 0, 1) := by decide +kernel
theorem J_M_font_d13 : decode J_M_font.2.1 13 = .ok (.aload_n 0, 1) := by decide +kernel
theorem J_M_font_d14 : decode J_M_font.2.1 14 = .ok (.getfield 23, 3) := by decide +kernel
theorem J_M_font_d17 : decode J_M_font.2.1 17 = .ok (.invokevirtual 70, 3) := by decide +kernel
theorem J_M_font_d20 : decode J_M_font.2.1 20 = .ok (.putfield 58, 3) := by decide +kernel
theorem J_M_font_d23 : decode J_M_font.2.1 23 = .ok (.return_, 1) := by decide +kernel
theorem f_M_font_ok {L : Nat} {xs : Nat → Int32} {dep : Nat} {w : Bool} {p0 : Int32} {p1 : Int32} {p2 : Int32} {p3 : Int32} {M : im_M} {Q : im_M → Prop} (hM : lw_S w M) (h : ed (f_M_font p0 p1 p2 p3 M) Q) : ia (tb_G L xs) (dep + 2) J_M_font (rwV w Q) (0, lv_args 0 [.ref 69, .int p0, .int p1, .int p2, .int p3], [], M) := by
  have hS : im_St (tb_G L xs) (dep + 2) J_M_font (ia (tb_G L xs) (dep + 2) J_M_font (rwV w Q)) := ia_St
  unfold f_M_font at h
  have l0 : im_lk (lv_args 0 [.ref 69, .int p0, .int p1, .int p2, .int p3]) 0 = some (.ref 69) := rfl
  have l1 : im_lk (lv_args 0 [.ref 69, .int p0, .int p1, .int p2, .int p3]) 1 = some (.int p0) := rfl
  have l2 : im_lk (lv_args 0 [.ref 69, .int p0, .int p1, .int p2, .int p3]) 2 = some (.int p1) := rfl
  have l3 : im_lk (lv_args 0 [.ref 69, .int p0, .int p1, .int p2, .int p3]) 3 = some (.int p2) := rfl
  have l4 : im_lk (lv_args 0 [.ref 69, .int p0, .int p1, .int p2, .int p3]) 4 = some (.int p3) := rfl
  refine iq_aload_n hS 1 J_M_font_d0 l0 rfl ?_
  refine iq_getR hS 4 J_M_font_d1 lf_17_23 (Or.inl ⟨_, rfl⟩) (ka_69 hM) (ra_69_4 hM) rfl ?_
  refine iq_iload_n hS 5 J_M_font_d4 l1 rfl ?_
  refine iq_iload_n hS 6 J_M_font_d5 l2 rfl ?_
  refine iq_iload_n hS 7 J_M_font_d6 l3 rfl ?_
  refine iq_iload hS 9 J_M_font_d7 l4 rfl ?_
  obtain ⟨Q1, hQ1, h⟩ := bd1_ed h
  refine iq_cwV hS 12 J_M_font_d9 rfl (pr_inst (vs := [_, _, _, _]) lc_17_66 lT_272 rfl rfl (by decide) (by decide) rfl (Nat.le_of_ble_eq_true rfl) (Nat.le_of_ble_eq_true rfl) (fun _ => Or.inl (pr_b (ka_89 hM) (by decide) rfl))) (f_MDotRows_font_ok (dep := dep + 0) hM h) rfl ?_
  intro M1 hM1 h
  replace h := hQ1 _ h
  refine iq_aload_n hS 13 J_M_font_d12 l0 rfl ?_
  refine iq_aload_n hS 14 J_M_font_d13 l0 rfl ?_
  refine iq_getR hS 17 J_M_font_d14 lf_17_23 (Or.inl ⟨_, rfl⟩) (ka_69 hM1) (ra_69_4 hM1) rfl ?_
  obtain ⟨Q2, hQ2, h⟩ := bd1_ed h
  refine iq_cpI hS 20 J_M_font_d17 rfl (pr_inst (vs := []) lc_17_70 lT_274 rfl rfl (by decide) (by decide) rfl (Nat.le_of_ble_eq_true rfl) (Nat.le_of_ble_eq_true rfl) (fun _ => Or.inl (pr_b (ka_89 hM1) (by decide) rfl))) (f_MDotRows_thrown_ok (dep := dep + 1) hM1 h) rfl ?_
  intro x2 h
  replace h := hQ2 _ h
  refine iq_putI hS 23 J_M_font_d20 lf_17_58 (Or.inl rfl) rfl (ka_69 hM1) rfl ?_
  exact iq_ret J_M_font_d23 rfl ⟨rfl, (lw_sI hM1), ed_some h⟩
theorem f_M_font_fr {p0 : Int32} {p1 : Int32} {p2 : Int32} {p3 : Int32} {M : im_M} {r : im_M} (h : f_M_font p0 p1 p2 p3 M = some r) : fr 29710560942849126597578981376 [(69, 0), (89, 0)] M r := by
  replace h : ed (f_M_font p0 p1 p2 p3 M) (fun x => x = r) := ⟨r, h, rfl⟩
  unfold f_M_font at h
  obtain ⟨Q1, hQ1, h⟩ := bd1_ed h
  obtain ⟨M1, e1, h⟩ := h
  replace h := hQ1 _ h
  obtain ⟨Q2, hQ2, h⟩ := bd1_ed h
  obtain ⟨x2, e2, h⟩ := h
  replace h := hQ2 _ h
  exact fr_retV h (fr_F (by decide) (fr_tr (fr_mono (by decide) (by decide +kernel) (f_MDotRows_font_fr e1)) fr_refl))
noncomputable def f_MDotRows_cell (p0 : Int32) (p1 : Int32) (p2 : Int32) (p3 : Int32) (M : im_M) : Option (im_M) := bd1 (f_MDotRows_isNot p0 0 3 M) fun (x1 : Int32) => bd1 (jn0 (fun (_ : Unit) => some 1) fun k3 => if ¬ x1 = 0 then k3 () else bd1 (f_MDotRows_isNot p1 0 255 M) fun (x4 : Int32) => if x4 = 0 then gd (inb (((3 : Int32) * p0) + 1) 12) <| bd1 (f_MDotRows_isNot p2 0 ((im_i M 93 (Int32.toNatClampNeg (((3 : Int32) * p0) + 1))) - 1) M) fun (x5 : Int32) => if x5 = 0 then some 0 else some 2 else k3 ()) fun (y11 : Int32) => if ¬ (im_i (im_setI M 89 0 y11) 89 0) = 0 then some (im_setI M 89 0 y11) else gd (inb ((((8192 : Int32) * p0) + ((32 : Int32) * p1)) + p2) 32768) <| some (im_setI (im_setI M 89 0 y11) 94 (Int32.toNatClampNeg ((((8192 : Int32) * p0) + ((32 : Int32) * p1)) + p2)) p3)
theorem J_MDotRows_cell_d0 : decode J_MDotRows_cell.2.1 0 = .ok (.aload_n 0, 1) := by decide +kernel
theorem J_MDotRows_cell_d1 : decode J_MDotRows_cell.2.1 1 = .ok (.iload_n 1, 1) := by decide +kernel
theorem J_MDotRows_cell_d2 : decode J_MDotRows_cell.2.1 2 = .ok (.iconst 0, 1) := by decide +kernel
theorem J_MDotRows_cell_d3 : decode J_MDotRows_cell.2.1 3 = .ok (.iconst 3, 1) := by decide +kernel
theorem J_MDotRows_cell_d4 : decode J_MDotRows_cell.2.1 4 = .ok (.invokestatic 121, 3) := by decide +kernel
theorem J_MDotRows_cell_d7 : decode J_MDotRows_cell.2.1 7 = .ok (.ifCond .ne 14, 3) := by decide +kernel
theorem J_MDotRows_cell_d10 : decode J_MDotRows_cell.2.1 10 = .ok (.iload_n 2, 1) := by decide +kernel
theorem J_MDotRows_cell_d11 : decode J_MDotRows_cell.2.1 11 = .ok (.iconst 0, 1) := by decide +kernel
theorem J_MDotRows_cell_d12 : decode J_MDotRows_cell.2.1 12 = .ok (.sipush 255, 3) := by decide +kernel
theorem J_MDotRows_cell_d15 : decode J_MDotRows_cell.2.1 15 = .ok (.invokestatic 121, 3) := by decide +kernel
theorem J_MDotRows_cell_d18 : decode J_MDotRows_cell.2.1 18 = .ok (.ifCond .eq 7, 3) := by decide +kernel
theorem J_MDotRows_cell_d21 : decode J_MDotRows_cell.2.1 21 = .ok (.iconst 1, 1) := by decide +kernel
theorem J_MDotRows_cell_d22 : decode J_MDotRows_cell.2.1 22 = .ok (.goto 28, 3) := by decide +kernel
theorem J_MDotRows_cell_d25 : decode J_MDotRows_cell.2.1 25 = .ok (.iload_n 3, 1) := by decide +kernel
theorem J_MDotRows_cell_d26 : decode J_MDotRows_cell.2.1 26 = .ok (.iconst 0, 1) := by decide +kernel
theorem J_MDotRows_cell_d27 : decode J_MDotRows_cell.2.1 27 = .ok (.aload_n 0, 1) := by decide +kernel
theorem J_MDotRows_cell_d28 : decode J_MDotRows_cell.2.1 28 = .ok (.getfield 27, 3) := by decide +kernel
theorem J_MDotRows_cell_d31 : decode J_MDotRows_cell.2.1 31 = .ok (.iconst 3, 1) := by decide +kernel
theorem J_MDotRows_cell_d32 : decode J_MDotRows_cell.2.1 32 = .ok (.iload_n 1, 1) := by decide +kernel
theorem J_MDotRows_cell_d33 : decode J_MDotRows_cell.2.1 33 = .ok (.imul, 1) := by decide +kernel
theorem J_MDotRows_cell_d34 : decode J_MDotRows_cell.2.1 34 = .ok (.iconst 1, 1) := by decide +kernel
theorem J_MDotRows_cell_d35 : decode J_MDotRows_cell.2.1 35 = .ok (.iadd, 1) := by decide +kernel
theorem J_MDotRows_cell_d36 : decode J_MDotRows_cell.2.1 36 = .ok (.iaload, 1) := by decide +kernel
theorem J_MDotRows_cell_d37 : decode J_MDotRows_cell.2.1 37 = .ok (.iconst 1, 1) := by decide +kernel
theorem J_MDotRows_cell_d38 : decode J_MDotRows_cell.2.1 38 = .ok (.isub, 1) := by decide +kernel
theorem J_MDotRows_cell_d39 : decode J_MDotRows_cell.2.1 39 = .ok (.invokestatic 121, 3) := by decide +kernel
theorem J_MDotRows_cell_d42 : decode J_MDotRows_cell.2.1 42 = .ok (.ifCond .eq 7, 3) := by decide +kernel
theorem J_MDotRows_cell_d45 : decode J_MDotRows_cell.2.1 45 = .ok (.iconst 2, 1) := by decide +kernel
theorem J_MDotRows_cell_d46 : decode J_MDotRows_cell.2.1 46 = .ok (.goto 4, 3) := by decide +kernel
theorem J_MDotRows_cell_d49 : decode J_MDotRows_cell.2.1 49 = .ok (.iconst 0, 1) := by decide +kernel
theorem J_MDotRows_cell_d50 : decode J_MDotRows_cell.2.1 50 = .ok (.putfield 37, 3) := by decide +kernel
theorem J_MDotRows_cell_d53 : decode J_MDotRows_cell.2.1 53 = .ok (.aload_n 0, 1) := by decide +kernel
theorem J_MDotRows_cell_d54 : decode J_MDotRows_cell.2.1 54 = .ok (.getfield 37, 3) := by decide +kernel
theorem J_MDotRows_cell_d57 : decode J_MDotRows_cell.2.1 57 = .ok (.ifCond .ne 22, 3) := by decide +kernel
theorem J_MDotRows_cell_d60 : decode J_MDotRows_cell.2.1 60 = .ok (.aload_n 0, 1) := by decide +kernel
theorem J_MDotRows_cell_d61 : decode J_MDotRows_cell.2.1 61 = .ok (.getfield 30, 3) := by decide +kernel
theorem J_MDotRows_cell_d64 : decode J_MDotRows_cell.2.1 64 = .ok (.sipush 8192, 3) := by decide +kernel
theorem J_MDotRows_cell_d67 : decode J_MDotRows_cell.2.1 67 = .ok (.iload_n 1, 1) := by decide +kernel
theorem J_MDotRows_cell_d68 : decode J_MDotRows_cell.2.1 68 = .ok (.imul, 1) := by decide +kernel
theorem J_MDotRows_cell_d69 : decode J_MDotRows_cell.2.1 69 = .ok (.bipush 32, 2) := by decide +kernel
theorem J_MDotRows_cell_d71 : decode J_MDotRows_cell.2.1 71 = .ok (.iload_n 2, 1) := by decide +kernel
theorem J_MDotRows_cell_d72 : decode J_MDotRows_cell.2.1 72 = .ok (.imul, 1) := by decide +kernel
theorem J_MDotRows_cell_d73 : decode J_MDotRows_cell.2.1 73 = .ok (.iadd, 1) := by decide +kernel
theorem J_MDotRows_cell_d74 : decode J_MDotRows_cell.2.1 74 = .ok (.iload_n 3, 1) := by decide +kernel
theorem J_MDotRows_cell_d75 : decode J_MDotRows_cell.2.1 75 = .ok (.iadd, 1) := by decide +kernel
theorem J_MDotRows_cell_d76 : decode J_MDotRows_cell.2.1 76 = .ok (.iload 4, 2) := by decide +kernel
theorem J_MDotRows_cell_d78 : decode J_MDotRows_cell.2.1 78 = .ok (.iastore, 1) := by decide +kernel
theorem J_MDotRows_cell_d79 : decode J_MDotRows_cell.2.1 79 = .ok (.return_, 1) := by decide +kernel
theorem f_MDotRows_cell_ok {L : Nat} {xs : Nat → Int32} {dep : Nat} {w : Bool} {p0 : Int32} {p1 : Int32} {p2 : Int32} {p3 : Int32} {M : im_M} {Q : im_M → Prop} (hM : lw_S w M) (h : ed (f_MDotRows_cell p0 p1 p2 p3 M) Q) : ia (tb_G L xs) (dep + 1) J_MDotRows_cell (rwV w Q) (0, lv_args 0 [.ref 89, .int p0, .int p1, .int p2, .int p3], [], M) := by
  have hS : im_St (tb_G L xs) (dep + 1) J_MDotRows_cell (ia (tb_G L xs) (dep + 1) J_MDotRows_cell (rwV w Q)) := ia_St
  unfold f_MDotRows_cell at h
  have l0 : im_lk (lv_args 0 [.ref 89, .int p0, .int p1, .int p2, .int p3]) 0 = some (.ref 89) := rfl
  have l1 : im_lk (lv_args 0 [.ref 89, .int p0, .int p1, .int p2, .int p3]) 1 = some (.int p0) := rfl
  have l2 : im_lk (lv_args 0 [.ref 89, .int p0, .int p1, .int p2, .int p3]) 2 = some (.int p1) := rfl
  have l3 : im_lk (lv_args 0 [.ref 89, .int p0, .int p1, .int p2, .int p3]) 3 = some (.int p2) := rfl
  have l4 : im_lk (lv_args 0 [.ref 89, .int p0, .int p1, .int p2, .int p3]) 4 = some (.int p3) := rfl
  refine iq_aload_n hS 1 J_MDotRows_cell_d0 l0 rfl ?_
  refine iq_iload_n hS 2 J_MDotRows_cell_d1 l1 rfl ?_
  refine iq_iconst hS 3 J_MDotRows_cell_d2 (v := 0) (by decide +kernel) rfl ?_
  refine iq_iconst hS 4 J_MDotRows_cell_d3 (v := 3) (by decide +kernel) rfl ?_
  obtain ⟨Q1, hQ1, h⟩ := bd1_ed h
  refine iq_cpI hS 7 J_MDotRows_cell_d4 rfl (pr_stat (vs := [_, _, _]) lc_12_121 lT_273 rfl rfl (by decide) rfl (Nat.le_of_ble_eq_true rfl) (Nat.le_of_ble_eq_true rfl)) (f_MDotRows_isNot_ok (dep := dep + 0) hM h) rfl ?_
  intro x1 h
  replace h := hQ1 _ h
  obtain ⟨Q2, hQ2, h⟩ := bd1_ed h
  have J2 : ∀ (y11 : Int32) (L' : List (Nat × Value)), im_lk L' 0 = some (.ref 89) → im_lk L' 1 = some (.int p0) → im_lk L' 2 = some (.int p1) → im_lk L' 3 = some (.int p2) → im_lk L' 4 = some (.int p3) → Q2 y11 → ia (tb_G L xs) (dep + 1) J_MDotRows_cell (rwV w Q) (50, L', [.int y11, .ref 89], M) := by
    intro y11 L' l12 l13 l14 l15 l16 h
    replace h := hQ2 _ h
    refine iq_putI hS 53 J_MDotRows_cell_d50 lf_12_37 (Or.inl rfl) rfl (ka_89 hM) rfl ?_
    refine iq_aload_n hS 54 J_MDotRows_cell_d53 l12 rfl ?_
    refine iq_getI hS 57 J_MDotRows_cell_d54 lf_12_37 (Or.inl rfl) (ka_89 (lw_sI hM)) rfl ?_
    refine iq_if_ne hS 60 J_MDotRows_cell_d57 (t := 79) rfl (fun q57 => ?_) rfl (fun q57 => ?_)
    · replace h := ed_pos q57 h
      exact iq_ret J_MDotRows_cell_d79 rfl ⟨rfl, (lw_sI hM), ed_some h⟩
    · replace h := ed_neg q57 h
      refine iq_aload_n hS 61 J_MDotRows_cell_d60 l12 rfl ?_
      refine iq_getR hS 64 J_MDotRows_cell_d61 lf_12_30 (Or.inr ⟨_, rfl⟩) (ka_89 (lw_sI hM)) (ra_89_9 (lw_sI hM)) rfl ?_
      refine iq_sipush hS 67 J_MDotRows_cell_d64 (v := 8192) (by decide +kernel) rfl ?_
      refine iq_iload_n hS 68 J_MDotRows_cell_d67 l13 rfl ?_
      refine iq_imul hS 69 J_MDotRows_cell_d68 rfl ?_
      refine iq_bipush hS 71 J_MDotRows_cell_d69 (v := 32) (by decide +kernel) rfl ?_
      refine iq_iload_n hS 72 J_MDotRows_cell_d71 l14 rfl ?_
      refine iq_imul hS 73 J_MDotRows_cell_d72 rfl ?_
      refine iq_iadd hS 74 J_MDotRows_cell_d73 rfl ?_
      refine iq_iload_n hS 75 J_MDotRows_cell_d74 l15 rfl ?_
      refine iq_iadd hS 76 J_MDotRows_cell_d75 rfl ?_
      refine iq_iload hS 78 J_MDotRows_cell_d76 l16 rfl ?_
      obtain ⟨g78, h⟩ := ed_gd h
      refine iq_iastore hS 79 J_MDotRows_cell_d78 ⟨(ka_94 (lw_sI hM)).1, (ka_94 (lw_sI hM)).2, g78.1, ix_lt (kl_94 (lw_sI hM)) g78.2⟩ rfl ?_
      exact iq_ret J_MDotRows_cell_d79 rfl ⟨rfl, (lw_sI (lw_sI hM)), ed_some h⟩
  obtain ⟨k3, Q3, hQ3, hk3, h⟩ := jn0_ed h
  have J3 : ∀  (L' : List (Nat × Value)), im_lk L' 0 = some (.ref 89) → im_lk L' 1 = some (.int p0) → im_lk L' 2 = some (.int p1) → im_lk L' 3 = some (.int p2) → im_lk L' 4 = some (.int p3) → Q3 () → ia (tb_G L xs) (dep + 1) J_MDotRows_cell (rwV w Q) (21, L', [.ref 89], M) := by
    intro  L' l6 l7 l8 l9 l10 h
    replace h := hQ3  h
    refine iq_iconst hS 22 J_MDotRows_cell_d21 (v := 1) (by decide +kernel) rfl ?_
    refine iq_goto hS J_MDotRows_cell_d22 (t := 50) rfl ?_
    exact J2 _ _ l6 l7 l8 l9 l10 (ed_some h)
  refine iq_if_ne hS 10 J_MDotRows_cell_d7 (t := 21) rfl (fun q7 => ?_) rfl (fun q7 => ?_)
  · replace h := ed_pos q7 h
    exact J3  _ l0 l1 l2 l3 l4 (hk3  h)
  · replace h := ed_neg q7 h
    refine iq_iload_n hS 11 J_MDotRows_cell_d10 l2 rfl ?_
    refine iq_iconst hS 12 J_MDotRows_cell_d11 (v := 0) (by decide +kernel) rfl ?_
    refine iq_sipush hS 15 J_MDotRows_cell_d12 (v := 255) (by decide +kernel) rfl ?_
    obtain ⟨Q4, hQ4, h⟩ := bd1_ed h
    refine iq_cpI hS 18 J_MDotRows_cell_d15 rfl (pr_stat (vs := [_, _, _]) lc_12_121 lT_273 rfl rfl (by decide) rfl (Nat.le_of_ble_eq_true rfl) (Nat.le_of_ble_eq_true rfl)) (f_MDotRows_isNot_ok (dep := dep + 0) hM h) rfl ?_
    intro x4 h
    replace h := hQ4 _ h
    refine iq_if_eq hS 21 J_MDotRows_cell_d18 (t := 25) rfl (fun q18 => ?_) rfl (fun q18 => ?_)
    · replace h := ed_pos q18 h
      refine iq_iload_n hS 26 J_MDotRows_cell_d25 l3 rfl ?_
      refine iq_iconst hS 27 J_MDotRows_cell_d26 (v := 0) (by decide +kernel) rfl ?_
      refine iq_aload_n hS 28 J_MDotRows_cell_d27 l0 rfl ?_
      refine iq_getR hS 31 J_MDotRows_cell_d28 lf_12_27 (Or.inr ⟨_, rfl⟩) (ka_89 hM) (ra_89_8 hM) rfl ?_
      refine iq_iconst hS 32 J_MDotRows_cell_d31 (v := 3) (by decide +kernel) rfl ?_
      refine iq_iload_n hS 33 J_MDotRows_cell_d32 l1 rfl ?_
      refine iq_imul hS 34 J_MDotRows_cell_d33 rfl ?_
      refine iq_iconst hS 35 J_MDotRows_cell_d34 (v := 1) (by decide +kernel) rfl ?_
      refine iq_iadd hS 36 J_MDotRows_cell_d35 rfl ?_
      obtain ⟨g36, h⟩ := ed_gd h
      refine iq_iaload hS 37 J_MDotRows_cell_d36 ⟨(ka_93 hM).1, (ka_93 hM).2, g36.1, ix_lt (kl_93 hM) g36.2⟩ rfl ?_
      refine iq_iconst hS 38 J_MDotRows_cell_d37 (v := 1) (by decide +kernel) rfl ?_
      refine iq_isub hS 39 J_MDotRows_cell_d38 rfl ?_
      obtain ⟨Q5, hQ5, h⟩ := bd1_ed h
      refine iq_cpI hS 42 J_MDotRows_cell_d39 rfl (pr_stat (vs := [_, _, _]) lc_12_121 lT_273 rfl rfl (by decide) rfl (Nat.le_of_ble_eq_true rfl) (Nat.le_of_ble_eq_true rfl)) (f_MDotRows_isNot_ok (dep := dep + 0) hM h) rfl ?_
      intro x5 h
      replace h := hQ5 _ h
      refine iq_if_eq hS 45 J_MDotRows_cell_d42 (t := 49) rfl (fun q42 => ?_) rfl (fun q42 => ?_)
      · replace h := ed_pos q42 h
        refine iq_iconst hS 50 J_MDotRows_cell_d49 (v := 0) (by decide +kernel) rfl ?_
        exact J2 _ _ l0 l1 l2 l3 l4 (ed_some h)
      · replace h := ed_neg q42 h
        refine iq_iconst hS 46 J_MDotRows_cell_d45 (v := 2) (by decide +kernel) rfl ?_
        refine iq_goto hS J_MDotRows_cell_d46 (t := 50) rfl ?_
        exact J2 _ _ l0 l1 l2 l3 l4 (ed_some h)
    · replace h := ed_neg q18 h
      exact J3  _ l0 l1 l2 l3 l4 (hk3  h)
theorem f_MDotRows_cell_fr {p0 : Int32} {p1 : Int32} {p2 : Int32} {p3 : Int32} {M : im_M} {r : im_M} (h : f_MDotRows_cell p0 p1 p2 p3 M = some r) : fr 19807040628566084398385987584 [(89, 0)] M r := by
  replace h : ed (f_MDotRows_cell p0 p1 p2 p3 M) (fun x => x = r) := ⟨r, h, rfl⟩
  unfold f_MDotRows_cell at h
  obtain ⟨Q1, hQ1, h⟩ := bd1_ed h
  obtain ⟨x1, e1, h⟩ := h
  replace h := hQ1 _ h
  obtain ⟨Q2, hQ2, h⟩ := bd1_ed h
  have J2 : ∀ (y11 : Int32), Q2 y11 → fr 19807040628566084398385987584 [(89, 0)] M r := by
    intro y11 h
    replace h := hQ2 _ h
    by_cases q57 : ¬ (im_i (im_setI M 89 0 y11) 89 0) = 0
    · replace h := ed_pos q57 h
      exact fr_retV h (fr_F (by decide) fr_refl)
    · replace h := ed_neg q57 h
      obtain ⟨g78, h⟩ := ed_gd h
      exact fr_retV h (fr_I (by decide) (fr_F (by decide) fr_refl))
  obtain ⟨k3, Q3, hQ3, hk3, h⟩ := jn0_ed h
  have J3 : Q3 () → fr 19807040628566084398385987584 [(89, 0)] M r := by
    intro  h
    replace h := hQ3  h
    exact J2 _ (ed_some h)
  by_cases q7 : ¬ x1 = 0
  · replace h := ed_pos q7 h
    exact J3  (hk3  h)
  · replace h := ed_neg q7 h
    obtain ⟨Q4, hQ4, h⟩ := bd1_ed h
    obtain ⟨x4, e4, h⟩ := h
    replace h := hQ4 _ h
    by_cases q18 : x4 = 0
    · replace h := ed_pos q18 h
      obtain ⟨g36, h⟩ := ed_gd h
      obtain ⟨Q5, hQ5, h⟩ := bd1_ed h
      obtain ⟨x5, e5, h⟩ := h
      replace h := hQ5 _ h
      by_cases q42 : x5 = 0
      · replace h := ed_pos q42 h
        exact J2 _ (ed_some h)
      · replace h := ed_neg q42 h
        exact J2 _ (ed_some h)
    · replace h := ed_neg q18 h
      exact J3  (hk3  h)
noncomputable def f_M_cell (p0 : Int32) (p1 : Int32) (p2 : Int32) (p3 : Int32) (M : im_M) : Option (im_M) := bd1 (f_MDotRows_cell p0 p1 p2 p3 M) fun (M1 : im_M) => bd1 (f_MDotRows_thrown M1) fun (x2 : Int32) => some (im_setI M1 69 0 x2)
theorem J_M_cell_d0 : decode J_M_cell.2.1 0 = .ok (.aload_n 0, 1) := by decide +kernel
theorem J_M_cell_d1 : decode J_M_cell.2.1 1 = .ok (.getfield 23, 3) := by decide +kernel
theorem J_M_cell_d4 : decode J_M_cell.2.1 4 = .ok (.iload_n 1, 1) := by decide +kernel
theorem J_M_cell_d5 : decode J_M_cell.2.1 5 = .ok (.iload_n 2, 1) := by decide +kernel
theorem J_M_cell_d6 : decode J_M_cell.2.1 6 = .ok (.iload_n 3, 1) := by decide +kernel
theorem J_M_cell_d7 : decode J_M_cell.2.1 7 = .ok (.iload 4, 2) := by decide +kernel
theorem J_M_cell_d9 : decode J_M_cell.2.1 9 = .ok (.invokevirtual 73, 3) := by decide +kernel
theorem J_M_cell_d12 : decode J_M_cell.2.1 12 = .ok (.aload_n 0, 1) := by decide +kernel
theorem J_M_cell_d13 : decode J_M_cell.2.1 13 = .ok (.aload_n 0, 1) := by decide +kernel
theorem J_M_cell_d14 : decode J_M_cell.2.1 14 = .ok (.getfield 23, 3) := by decide +kernel
theorem J_M_cell_d17 : decode J_M_cell.2.1 17 = .ok (.invokevirtual 70, 3) := by decide +kernel
theorem J_M_cell_d20 : decode J_M_cell.2.1 20 = .ok (.putfield 58, 3) := by decide +kernel
theorem J_M_cell_d23 : decode J_M_cell.2.1 23 = .ok (.return_, 1) := by decide +kernel
theorem f_M_cell_ok {L : Nat} {xs : Nat → Int32} {dep : Nat} {w : Bool} {p0 : Int32} {p1 : Int32} {p2 : Int32} {p3 : Int32} {M : im_M} {Q : im_M → Prop} (hM : lw_S w M) (h : ed (f_M_cell p0 p1 p2 p3 M) Q) : ia (tb_G L xs) (dep + 2) J_M_cell (rwV w Q) (0, lv_args 0 [.ref 69, .int p0, .int p1, .int p2, .int p3], [], M) := by
  have hS : im_St (tb_G L xs) (dep + 2) J_M_cell (ia (tb_G L xs) (dep + 2) J_M_cell (rwV w Q)) := ia_St
  unfold f_M_cell at h
  have l0 : im_lk (lv_args 0 [.ref 69, .int p0, .int p1, .int p2, .int p3]) 0 = some (.ref 69) := rfl
  have l1 : im_lk (lv_args 0 [.ref 69, .int p0, .int p1, .int p2, .int p3]) 1 = some (.int p0) := rfl
  have l2 : im_lk (lv_args 0 [.ref 69, .int p0, .int p1, .int p2, .int p3]) 2 = some (.int p1) := rfl
  have l3 : im_lk (lv_args 0 [.ref 69, .int p0, .int p1, .int p2, .int p3]) 3 = some (.int p2) := rfl
  have l4 : im_lk (lv_args 0 [.ref 69, .int p0, .int p1, .int p2, .int p3]) 4 = some (.int p3) := rfl
  refine iq_aload_n hS 1 J_M_cell_d0 l0 rfl ?_
  refine iq_getR hS 4 J_M_cell_d1 lf_17_23 (Or.inl ⟨_, rfl⟩) (ka_69 hM) (ra_69_4 hM) rfl ?_
  refine iq_iload_n hS 5 J_M_cell_d4 l1 rfl ?_
  refine iq_iload_n hS 6 J_M_cell_d5 l2 rfl ?_
  refine iq_iload_n hS 7 J_M_cell_d6 l3 rfl ?_
  refine iq_iload hS 9 J_M_cell_d7 l4 rfl ?_
  obtain ⟨Q1, hQ1, h⟩ := bd1_ed h
  refine iq_cwV hS 12 J_M_cell_d9 rfl (pr_inst (vs := [_, _, _, _]) lc_17_73 lT_276 rfl rfl (by decide) (by decide) rfl (Nat.le_of_ble_eq_true rfl) (Nat.le_of_ble_eq_true rfl) (fun _ => Or.inl (pr_b (ka_89 hM) (by decide) rfl))) (f_MDotRows_cell_ok (dep := dep + 0) hM h) rfl ?_
  intro M1 hM1 h
  replace h := hQ1 _ h
  refine iq_aload_n hS 13 J_M_cell_d12 l0 rfl ?_
  refine iq_aload_n hS 14 J_M_cell_d13 l0 rfl ?_
  refine iq_getR hS 17 J_M_cell_d14 lf_17_23 (Or.inl ⟨_, rfl⟩) (ka_69 hM1) (ra_69_4 hM1) rfl ?_
  obtain ⟨Q2, hQ2, h⟩ := bd1_ed h
  refine iq_cpI hS 20 J_M_cell_d17 rfl (pr_inst (vs := []) lc_17_70 lT_274 rfl rfl (by decide) (by decide) rfl (Nat.le_of_ble_eq_true rfl) (Nat.le_of_ble_eq_true rfl) (fun _ => Or.inl (pr_b (ka_89 hM1) (by decide) rfl))) (f_MDotRows_thrown_ok (dep := dep + 1) hM1 h) rfl ?_
  intro x2 h
  replace h := hQ2 _ h
  refine iq_putI hS 23 J_M_cell_d20 lf_17_58 (Or.inl rfl) rfl (ka_69 hM1) rfl ?_
  exact iq_ret J_M_cell_d23 rfl ⟨rfl, (lw_sI hM1), ed_some h⟩
theorem f_M_cell_fr {p0 : Int32} {p1 : Int32} {p2 : Int32} {p3 : Int32} {M : im_M} {r : im_M} (h : f_M_cell p0 p1 p2 p3 M = some r) : fr 19807040628566084398385987584 [(69, 0), (89, 0)] M r := by
  replace h : ed (f_M_cell p0 p1 p2 p3 M) (fun x => x = r) := ⟨r, h, rfl⟩
  unfold f_M_cell at h
  obtain ⟨Q1, hQ1, h⟩ := bd1_ed h
  obtain ⟨M1, e1, h⟩ := h
  replace h := hQ1 _ h
  obtain ⟨Q2, hQ2, h⟩ := bd1_ed h
  obtain ⟨x2, e2, h⟩ := h
  replace h := hQ2 _ h
  exact fr_retV h (fr_F (by decide) (fr_tr (fr_mono (by decide) (by decide +kernel) (f_MDotRows_cell_fr e1)) fr_refl))
noncomputable def f_MScriptRows_wipe (M : im_M) : Option (Int32 × im_M) := some ((im_i (im_setI M 71 0 0) 71 2), (im_setI (im_setI M 71 0 0) 71 2 0))
theorem J_MScriptRows_wipe_d0 : decode J_MScriptRows_wipe.2.1 0 = .ok (.aload_n 0, 1) := by decide +kernel
theorem J_MScriptRows_wipe_d1 : decode J_MScriptRows_wipe.2.1 1 = .ok (.iconst 0, 1) := by decide +kernel
theorem J_MScriptRows_wipe_d2 : decode J_MScriptRows_wipe.2.1 2 = .ok (.putfield 65, 3) := by decide +kernel
theorem J_MScriptRows_wipe_d5 : decode J_MScriptRows_wipe.2.1 5 = .ok (.aload_n 0, 1) := by decide +kernel
theorem J_MScriptRows_wipe_d6 : decode J_MScriptRows_wipe.2.1 6 = .ok (.getfield 68, 3) := by decide +kernel
theorem J_MScriptRows_wipe_d9 : decode J_MScriptRows_wipe.2.1 9 = .ok (.istore_n 1, 1) := by decide +kernel
theorem J_MScriptRows_wipe_d10 : decode J_MScriptRows_wipe.2.1 10 = .ok (.aload_n 0, 1) := by decide +kernel
theorem J_MScriptRows_wipe_d11 : decode J_MScriptRows_wipe.2.1 11 = .ok (.iconst 0, 1) := by decide +kernel
theorem J_MScriptRows_wipe_d12 : decode J_MScriptRows_wipe.2.1 12 = .ok (.putfield 68, 3) := by decide +kernel
theorem J_MScriptRows_wipe_d15 : decode J_MScriptRows_wipe.2.1 15 = .ok (.iload_n 1, 1) := by decide +kernel
theorem J_MScriptRows_wipe_d16 : decode J_MScriptRows_wipe.2.1 16 = .ok (.ireturn, 1) := by decide +kernel
theorem f_MScriptRows_wipe_ok {L : Nat} {xs : Nat → Int32} {dep : Nat} {w : Bool} {M : im_M} {Q : Int32 × im_M → Prop} (hM : lw_S w M) (h : ed (f_MScriptRows_wipe M) Q) : ia (tb_G L xs) dep J_MScriptRows_wipe (rwI w Q) (0, lv_args 0 [.ref 71], [], M) := by
  have hS : im_St (tb_G L xs) dep J_MScriptRows_wipe (ia (tb_G L xs) dep J_MScriptRows_wipe (rwI w Q)) := ia_St
  unfold f_MScriptRows_wipe at h
  have l0 : im_lk (lv_args 0 [.ref 71]) 0 = some (.ref 71) := rfl
  refine iq_aload_n hS 1 J_MScriptRows_wipe_d0 l0 rfl ?_
  refine iq_iconst hS 2 J_MScriptRows_wipe_d1 (v := 0) (by decide +kernel) rfl ?_
  refine iq_putI hS 5 J_MScriptRows_wipe_d2 lf_15_65 (Or.inl rfl) rfl (ka_71 hM) rfl ?_
  refine iq_aload_n hS 6 J_MScriptRows_wipe_d5 l0 rfl ?_
  refine iq_getI hS 9 J_MScriptRows_wipe_d6 lf_15_68 (Or.inl rfl) (ka_71 (lw_sI hM)) rfl ?_
  refine iq_istore_n hS 10 J_MScriptRows_wipe_d9 (by decide) rfl ?_
  refine iq_aload_n hS 11 J_MScriptRows_wipe_d10 (lk_1r l0 (by decide)) rfl ?_
  refine iq_iconst hS 12 J_MScriptRows_wipe_d11 (v := 0) (by decide +kernel) rfl ?_
  refine iq_putI hS 15 J_MScriptRows_wipe_d12 lf_15_68 (Or.inl rfl) rfl (ka_71 (lw_sI hM)) rfl ?_
  refine iq_iload_n hS 16 J_MScriptRows_wipe_d15 lk_1s rfl ?_
  exact iq_iret J_MScriptRows_wipe_d16 rfl rfl ⟨_, rfl, (lw_sI (lw_sI hM)), ed_some h⟩
theorem f_MScriptRows_wipe_fr {M : im_M} {r : Int32 × im_M} (h : f_MScriptRows_wipe M = some r) : fr 0 [(71, 0), (71, 2)] M r.2 := by
  replace h : ed (f_MScriptRows_wipe M) (fun x => x = r) := ⟨r, h, rfl⟩
  unfold f_MScriptRows_wipe at h
  exact fr_ret h (fr_F (by decide) (fr_F (by decide) fr_refl))
noncomputable def f_MScriptRows_write_L46 (v3 : Int32) (v4 : Int64) (x5 : Int32) (M6 : im_M) : Option ((Int32 × im_M) ⊕ (im_M)) := if v3 ≤ x5 then some (.inr M6) else gd (inb (im_i M6 71 2) 4096) <| some (.inl ((x5 + 1), (im_setI (im_setI M6 72 (Int32.toNatClampNeg (im_i M6 71 2)) (Int64.toInt32 ((v4 >>> (Int32.toInt64 ((8 : Int32) * x5) &&& 63) : Int64) &&& 255))) 71 2 ((im_i (im_setI M6 72 (Int32.toNatClampNeg (im_i M6 71 2)) (Int64.toInt32 ((v4 >>> (Int32.toInt64 ((8 : Int32) * x5) &&& 63) : Int64) &&& 255))) 71 2) + 1))))
noncomputable def f_MScriptRows_write (p0 : Int32) (p1 : Int64) (M : im_M) : Option (Int32 × im_M) := if (im_i (im_setI M 71 0 ((if p0 < 1 then 1 else (if p0 ≤ 8 then 0 else 1)) : Int32)) 71 0) ≤ 0 then if ((im_i (im_setI M 71 0 ((if p0 < 1 then 1 else (if p0 ≤ 8 then 0 else 1)) : Int32)) 71 2) + p0) ≤ 4096 then bd1 (lp (uc2 (f_MScriptRows_write_L46 p0 p1)) (0, (im_setI M 71 0 ((if p0 < 1 then 1 else (if p0 ≤ 8 then 0 else 1)) : Int32)))) fun (M7 : im_M) => some ((im_i M7 71 2), M7) else some ((-1), (im_setI M 71 0 ((if p0 < 1 then 1 else (if p0 ≤ 8 then 0 else 1)) : Int32))) else some (0, (im_setI M 71 0 ((if p0 < 1 then 1 else (if p0 ≤ 8 then 0 else 1)) : Int32)))
theorem J_MScriptRows_write_d0 : decode J_MScriptRows_write.2.1 0 = .ok (.aload_n 0, 1) := by decide +kernel
theorem J_MScriptRows_write_d1 : decode J_MScriptRows_write.2.1 1 = .ok (.iload_n 1, 1) := by decide +kernel
theorem J_MScriptRows_write_d2 : decode J_MScriptRows_write.2.1 2 = .ok (.iconst 1, 1) := by decide +kernel
theorem J_MScriptRows_write_d3 : decode J_MScriptRows_write.2.1 3 = .ok (.if_icmp .lt 9, 3) := by decide +kernel
theorem J_MScriptRows_write_d6 : decode J_MScriptRows_write.2.1 6 = .ok (.iload_n 1, 1) := by decide +kernel
theorem J_MScriptRows_write_d7 : decode J_MScriptRows_write.2.1 7 = .ok (.bipush 8, 2) := by decide +kernel
theorem J_MScriptRows_write_d9 : decode J_MScriptRows_write.2.1 9 = .ok (.if_icmp .le 7, 3) := by decide +kernel
theorem J_MScriptRows_write_d12 : decode J_MScriptRows_write.2.1 12 = .ok (.iconst 1, 1) := by decide +kernel
theorem J_MScriptRows_write_d13 : decode J_MScriptRows_write.2.1 13 = .ok (.goto 4, 3) := by decide +kernel
theorem J_MScriptRows_write_d16 : decode J_MScriptRows_write.2.1 16 = .ok (.iconst 0, 1) := by decide +kernel
theorem J_MScriptRows_write_d17 : decode J_MScriptRows_write.2.1 17 = .ok (.putfield 65, 3) := by decide +kernel
theorem J_MScriptRows_write_d20 : decode J_MScriptRows_write.2.1 20 = .ok (.aload_n 0, 1) := by decide +kernel
theorem J_MScriptRows_write_d21 : decode J_MScriptRows_write.2.1 21 = .ok (.getfield 65, 3) := by decide +kernel
theorem J_MScriptRows_write_d24 : decode J_MScriptRows_write.2.1 24 = .ok (.ifCond .le 5, 3) := by decide +kernel
theorem J_MScriptRows_write_d27 : decode J_MScriptRows_write.2.1 27 = .ok (.iconst 0, 1) := by decide +kernel
theorem J_MScriptRows_write_d28 : decode J_MScriptRows_write.2.1 28 = .ok (.ireturn, 1) := by decide +kernel
theorem J_MScriptRows_write_d29 : decode J_MScriptRows_write.2.1 29 = .ok (.aload_n 0, 1) := by decide +kernel
theorem J_MScriptRows_write_d30 : decode J_MScriptRows_write.2.1 30 = .ok (.getfield 68, 3) := by decide +kernel
theorem J_MScriptRows_write_d33 : decode J_MScriptRows_write.2.1 33 = .ok (.iload_n 1, 1) := by decide +kernel
theorem J_MScriptRows_write_d34 : decode J_MScriptRows_write.2.1 34 = .ok (.iadd, 1) := by decide +kernel
theorem J_MScriptRows_write_d35 : decode J_MScriptRows_write.2.1 35 = .ok (.sipush 4096, 3) := by decide +kernel
theorem J_MScriptRows_write_d38 : decode J_MScriptRows_write.2.1 38 = .ok (.if_icmp .le 5, 3) := by decide +kernel
theorem J_MScriptRows_write_d41 : decode J_MScriptRows_write.2.1 41 = .ok (.iconst (-1), 1) := by decide +kernel
theorem J_MScriptRows_write_d42 : decode J_MScriptRows_write.2.1 42 = .ok (.ireturn, 1) := by decide +kernel
theorem J_MScriptRows_write_d43 : decode J_MScriptRows_write.2.1 43 = .ok (.iconst 0, 1) := by decide +kernel
theorem J_MScriptRows_write_d44 : decode J_MScriptRows_write.2.1 44 = .ok (.istore 4, 2) := by decide +kernel
theorem J_MScriptRows_write_d46 : decode J_MScriptRows_write.2.1 46 = .ok (.iload 4, 2) := by decide +kernel
theorem J_MScriptRows_write_d48 : decode J_MScriptRows_write.2.1 48 = .ok (.iload_n 1, 1) := by decide +kernel
theorem J_MScriptRows_write_d49 : decode J_MScriptRows_write.2.1 49 = .ok (.if_icmp .ge 40, 3) := by decide +kernel
theorem J_MScriptRows_write_d52 : decode J_MScriptRows_write.2.1 52 = .ok (.aload_n 0, 1) := by decide +kernel
theorem J_MScriptRows_write_d53 : decode J_MScriptRows_write.2.1 53 = .ok (.getfield 7, 3) := by decide +kernel
theorem J_MScriptRows_write_d56 : decode J_MScriptRows_write.2.1 56 = .ok (.aload_n 0, 1) := by decide +kernel
theorem J_MScriptRows_write_d57 : decode J_MScriptRows_write.2.1 57 = .ok (.getfield 68, 3) := by decide +kernel
theorem J_MScriptRows_write_d60 : decode J_MScriptRows_write.2.1 60 = .ok (.lload_n 2, 1) := by decide +kernel
theorem J_MScriptRows_write_d61 : decode J_MScriptRows_write.2.1 61 = .ok (.bipush 8, 2) := by decide +kernel
theorem J_MScriptRows_write_d63 : decode J_MScriptRows_write.2.1 63 = .ok (.iload 4, 2) := by decide +kernel
theorem J_MScriptRows_write_d65 : decode J_MScriptRows_write.2.1 65 = .ok (.imul, 1) := by decide +kernel
theorem J_MScriptRows_write_d66 : decode J_MScriptRows_write.2.1 66 = .ok (.lshr, 1) := by decide +kernel
theorem J_MScriptRows_write_d67 : decode J_MScriptRows_write.2.1 67 = .ok (.ldc2_w 71, 3) := by decide +kernel
theorem J_MScriptRows_write_d70 : decode J_MScriptRows_write.2.1 70 = .ok (.land, 1) := by decide +kernel
theorem J_MScriptRows_write_d71 : decode J_MScriptRows_write.2.1 71 = .ok (.l2i, 1) := by decide +kernel
theorem J_MScriptRows_write_d72 : decode J_MScriptRows_write.2.1 72 = .ok (.iastore, 1) := by decide +kernel
theorem J_MScriptRows_write_d73 : decode J_MScriptRows_write.2.1 73 = .ok (.aload_n 0, 1) := by decide +kernel
theorem J_MScriptRows_write_d74 : decode J_MScriptRows_write.2.1 74 = .ok (.dup, 1) := by decide +kernel
theorem J_MScriptRows_write_d75 : decode J_MScriptRows_write.2.1 75 = .ok (.getfield 68, 3) := by decide +kernel
theorem J_MScriptRows_write_d78 : decode J_MScriptRows_write.2.1 78 = .ok (.iconst 1, 1) := by decide +kernel
theorem J_MScriptRows_write_d79 : decode J_MScriptRows_write.2.1 79 = .ok (.iadd, 1) := by decide +kernel
theorem J_MScriptRows_write_d80 : decode J_MScriptRows_write.2.1 80 = .ok (.putfield 68, 3) := by decide +kernel
theorem J_MScriptRows_write_d83 : decode J_MScriptRows_write.2.1 83 = .ok (.iinc 4 1, 3) := by decide +kernel
theorem J_MScriptRows_write_d86 : decode J_MScriptRows_write.2.1 86 = .ok (.goto (-40), 3) := by decide +kernel
theorem J_MScriptRows_write_d89 : decode J_MScriptRows_write.2.1 89 = .ok (.aload_n 0, 1) := by decide +kernel
theorem J_MScriptRows_write_d90 : decode J_MScriptRows_write.2.1 90 = .ok (.getfield 68, 3) := by decide +kernel
theorem J_MScriptRows_write_d93 : decode J_MScriptRows_write.2.1 93 = .ok (.ireturn, 1) := by decide +kernel
theorem f_MScriptRows_write_ok {L : Nat} {xs : Nat → Int32} {dep : Nat} {w : Bool} {p0 : Int32} {p1 : Int64} {M : im_M} {Q : Int32 × im_M → Prop} (hM : lw_S w M) (h : ed (f_MScriptRows_write p0 p1 M) Q) : ia (tb_G L xs) dep J_MScriptRows_write (rwI w Q) (0, lv_args 0 [.ref 71, .int p0, .long p1], [], M) := by
  have hS : im_St (tb_G L xs) dep J_MScriptRows_write (ia (tb_G L xs) dep J_MScriptRows_write (rwI w Q)) := ia_St
  unfold f_MScriptRows_write at h
  have l0 : im_lk (lv_args 0 [.ref 71, .int p0, .long p1]) 0 = some (.ref 71) := rfl
  have l1 : im_lk (lv_args 0 [.ref 71, .int p0, .long p1]) 1 = some (.int p0) := rfl
  have l2 : im_lk (lv_args 0 [.ref 71, .int p0, .long p1]) 2 = some (.long p1) := rfl
  refine iq_aload_n hS 1 J_MScriptRows_write_d0 l0 rfl ?_
  refine iq_iload_n hS 2 J_MScriptRows_write_d1 l1 rfl ?_
  refine iq_iconst hS 3 J_MScriptRows_write_d2 (v := 1) (by decide +kernel) rfl ?_
  have J1 : ∀ (z2 : Int32) (L' : List (Nat × Value)), z2 = ((if p0 < 1 then 1 else (if p0 ≤ 8 then 0 else 1)) : Int32) → im_lk L' 0 = some (.ref 71) → im_lk L' 1 = some (.int p0) → im_lk L' 2 = some (.long p1) → ia (tb_G L xs) dep J_MScriptRows_write (rwI w Q) (17, L', [.int z2, .ref 71], M) := by
    intro z2 L' e3 l4 l5 l6
    subst e3
    refine iq_putI hS 20 J_MScriptRows_write_d17 lf_15_65 (Or.inl rfl) rfl (ka_71 hM) rfl ?_
    refine iq_aload_n hS 21 J_MScriptRows_write_d20 l4 rfl ?_
    refine iq_getI hS 24 J_MScriptRows_write_d21 lf_15_65 (Or.inl rfl) (ka_71 (lw_sI hM)) rfl ?_
    refine iq_if_le hS 27 J_MScriptRows_write_d24 (t := 29) rfl (fun q24 => ?_) rfl (fun q24 => ?_)
    · replace h := ed_pos q24 h
      refine iq_aload_n hS 30 J_MScriptRows_write_d29 l4 rfl ?_
      refine iq_getI hS 33 J_MScriptRows_write_d30 lf_15_68 (Or.inl rfl) (ka_71 (lw_sI hM)) rfl ?_
      refine iq_iload_n hS 34 J_MScriptRows_write_d33 l5 rfl ?_
      refine iq_iadd hS 35 J_MScriptRows_write_d34 rfl ?_
      refine iq_sipush hS 38 J_MScriptRows_write_d35 (v := 4096) (by decide +kernel) rfl ?_
      refine iq_icmp_le hS 41 J_MScriptRows_write_d38 (t := 43) rfl (fun q38 => ?_) rfl (fun q38 => ?_)
      · replace h := ed_pos q38 h
        refine iq_iconst hS 44 J_MScriptRows_write_d43 (v := 0) (by decide +kernel) rfl ?_
        refine iq_istore hS 46 J_MScriptRows_write_d44 (by decide) rfl ?_
        obtain ⟨Q7, hQ7, h⟩ := bd1_ed h
        have K7 : ∀ (M8 : im_M) (L' : List (Nat × Value)), lw_S w M8 → im_lk L' 0 = some (.ref 71) → Q7 M8 → ia (tb_G L xs) dep J_MScriptRows_write (rwI w Q) (89, L', [], M8) := by
          intro M8 L' hM8 l9 h
          replace h := hQ7 _ h
          refine iq_aload_n hS 90 J_MScriptRows_write_d89 l9 rfl ?_
          refine iq_getI hS 93 J_MScriptRows_write_d90 lf_15_68 (Or.inl rfl) (ka_71 hM8) rfl ?_
          exact iq_iret J_MScriptRows_write_d93 rfl rfl ⟨_, rfl, hM8, ed_some h⟩
        obtain ⟨r7, hr7, hq7⟩ := h
        obtain ⟨n7, hn7⟩ := lp_n hr7
        have I7 : ∀ (n : Nat) (x10 : Int32) (M11 : im_M) (L' : List (Nat × Value)), lw_S w M11 → im_lk L' 0 = some (.ref 71) → im_lk L' 1 = some (.int p0) → im_lk L' 2 = some (.long p1) → im_lk L' 4 = some (.int x10) → lpn (uc2 (f_MScriptRows_write_L46 p0 p1)) n (x10, M11) = some r7 → ia (tb_G L xs) dep J_MScriptRows_write (rwI w Q) (46, L', [], M11) := by
          intro n
          induction n with
          | zero => intro x10 M11 L' hM11 l12 l13 l14 l15 hn; exact (lpn_0 hn).elim
          | succ n ih =>
            intro x10 M11 L' hM11 l12 l13 l14 l15 hn
            have h := lpn_ed2 hn
            unfold f_MScriptRows_write_L46 at h
            refine iq_iload hS 48 J_MScriptRows_write_d46 l15 rfl ?_
            refine iq_iload_n hS 49 J_MScriptRows_write_d48 l13 rfl ?_
            refine iq_icmp_ge hS 52 J_MScriptRows_write_d49 (t := 89) rfl (fun q49 => ?_) rfl (fun q49 => ?_)
            · replace h := ed_pos q49 h
              exact K7 _ _ hM11 l12 (lq_r h hq7)
            · replace h := ed_neg q49 h
              refine iq_aload_n hS 53 J_MScriptRows_write_d52 l12 rfl ?_
              refine iq_getR hS 56 J_MScriptRows_write_d53 lf_15_7 (Or.inr ⟨_, rfl⟩) (ka_71 hM11) (ra_71_1 hM11) rfl ?_
              refine iq_aload_n hS 57 J_MScriptRows_write_d56 l12 rfl ?_
              refine iq_getI hS 60 J_MScriptRows_write_d57 lf_15_68 (Or.inl rfl) (ka_71 hM11) rfl ?_
              refine iq_lload_n hS 61 J_MScriptRows_write_d60 l14 rfl ?_
              refine iq_bipush hS 63 J_MScriptRows_write_d61 (v := 8) (by decide +kernel) rfl ?_
              refine iq_iload hS 65 J_MScriptRows_write_d63 l15 rfl ?_
              refine iq_imul hS 66 J_MScriptRows_write_d65 rfl ?_
              refine iq_lshr hS 67 J_MScriptRows_write_d66 rfl ?_
              refine iq_ldc2_w hS 70 J_MScriptRows_write_d67 lk_15_71 rfl ?_
              refine iq_land hS 71 J_MScriptRows_write_d70 rfl ?_
              refine iq_l2i hS 72 J_MScriptRows_write_d71 rfl ?_
              obtain ⟨g72, h⟩ := ed_gd h
              refine iq_iastore hS 73 J_MScriptRows_write_d72 ⟨(ka_72 hM11).1, (ka_72 hM11).2, g72.1, ix_lt (kl_72 hM11) g72.2⟩ rfl ?_
              refine iq_aload_n hS 74 J_MScriptRows_write_d73 l12 rfl ?_
              refine iq_dup hS 75 J_MScriptRows_write_d74 rfl rfl ?_
              refine iq_getI hS 78 J_MScriptRows_write_d75 lf_15_68 (Or.inl rfl) (ka_71 (lw_sI hM11)) rfl ?_
              refine iq_iconst hS 79 J_MScriptRows_write_d78 (v := 1) (by decide +kernel) rfl ?_
              refine iq_iadd hS 80 J_MScriptRows_write_d79 rfl ?_
              refine iq_putI hS 83 J_MScriptRows_write_d80 lf_15_68 (Or.inl rfl) rfl (ka_71 (lw_sI hM11)) rfl ?_
              refine iq_iincv hS 86 J_MScriptRows_write_d83 (c := 1) (by decide +kernel) l15 (by decide) rfl ?_
              refine iq_goto hS J_MScriptRows_write_d86 (t := 46) rfl ?_
              exact ih _ _ _ (lw_sI (lw_sI hM11)) (lk_1r l12 (by decide)) (lk_1i l13 (by decide)) (lk_1l l14 (by decide) (by decide)) lk_1s (lq_l h)
        exact I7 n7 _ _ _ (lw_sI hM) (lk_1r l4 (by decide)) (lk_1i l5 (by decide)) (lk_1l l6 (by decide) (by decide)) lk_1s hn7
      · replace h := ed_neg q38 h
        refine iq_iconst hS 42 J_MScriptRows_write_d41 (v := (-1)) (by decide +kernel) rfl ?_
        exact iq_iret J_MScriptRows_write_d42 rfl rfl ⟨_, rfl, (lw_sI hM), ed_some h⟩
    · replace h := ed_neg q24 h
      refine iq_iconst hS 28 J_MScriptRows_write_d27 (v := 0) (by decide +kernel) rfl ?_
      exact iq_iret J_MScriptRows_write_d28 rfl rfl ⟨_, rfl, (lw_sI hM), ed_some h⟩
  refine iq_icmp_lt hS 6 J_MScriptRows_write_d3 (t := 12) rfl (fun q3 => ?_) rfl (fun q3 => ?_)
  · refine iq_iconst hS 13 J_MScriptRows_write_d12 (v := 1) (by decide +kernel) rfl ?_
    refine iq_goto hS J_MScriptRows_write_d13 (t := 17) rfl ?_
    exact J1 _ _ (by simp only [if_pos q3]) l0 l1 l2
  · refine iq_iload_n hS 7 J_MScriptRows_write_d6 l1 rfl ?_
    refine iq_bipush hS 9 J_MScriptRows_write_d7 (v := 8) (by decide +kernel) rfl ?_
    refine iq_icmp_le hS 12 J_MScriptRows_write_d9 (t := 16) rfl (fun q9 => ?_) rfl (fun q9 => ?_)
    · refine iq_iconst hS 17 J_MScriptRows_write_d16 (v := 0) (by decide +kernel) rfl ?_
      exact J1 _ _ (by simp only [if_neg q3, if_pos q9]) l0 l1 l2
    · refine iq_iconst hS 13 J_MScriptRows_write_d12 (v := 1) (by decide +kernel) rfl ?_
      refine iq_goto hS J_MScriptRows_write_d13 (t := 17) rfl ?_
      exact J1 _ _ (by simp only [if_neg q3, if_neg q9]) l0 l1 l2
theorem f_MScriptRows_write_fr {p0 : Int32} {p1 : Int64} {M : im_M} {r : Int32 × im_M} (h : f_MScriptRows_write p0 p1 M = some r) : fr 4722366482869645213696 [(71, 0), (71, 2)] M r.2 := by
  replace h : ed (f_MScriptRows_write p0 p1 M) (fun x => x = r) := ⟨r, h, rfl⟩
  unfold f_MScriptRows_write at h
  by_cases q24 : (im_i (im_setI M 71 0 ((if p0 < 1 then 1 else (if p0 ≤ 8 then 0 else 1)) : Int32)) 71 0) ≤ 0
  · replace h := ed_pos q24 h
    by_cases q38 : ((im_i (im_setI M 71 0 ((if p0 < 1 then 1 else (if p0 ≤ 8 then 0 else 1)) : Int32)) 71 2) + p0) ≤ 4096
    · replace h := ed_pos q38 h
      obtain ⟨Q2, hQ2, h⟩ := bd1_ed h
      have K2 : ∀ (M3 : im_M), fr 4722366482869645213696 [(71, 0), (71, 2)] M M3 → Q2 M3 → fr 4722366482869645213696 [(71, 0), (71, 2)] M r.2 := by
        intro M3 hM3 h
        replace h := hQ2 _ h
        exact fr_ret h hM3
      obtain ⟨r2, hr2, hq2⟩ := h
      obtain ⟨n2, hn2⟩ := lp_n hr2
      have I2 : ∀ (n : Nat) (x4 : Int32) (M5 : im_M), fr 4722366482869645213696 [(71, 0), (71, 2)] M M5 → lpn (uc2 (f_MScriptRows_write_L46 p0 p1)) n (x4, M5) = some r2 → fr 4722366482869645213696 [(71, 0), (71, 2)] M r.2 := by
        intro n
        induction n with
        | zero => intro x4 M5 hM5 hn; exact (lpn_0 hn).elim
        | succ n ih =>
          intro x4 M5 hM5 hn
          have h := lpn_ed2 hn
          unfold f_MScriptRows_write_L46 at h
          by_cases q49 : p0 ≤ x4
          · replace h := ed_pos q49 h
            exact K2 _ hM5 (lq_r h hq2)
          · replace h := ed_neg q49 h
            obtain ⟨g72, h⟩ := ed_gd h
            exact ih _ _ (fr_F (by decide) (fr_I (by decide) hM5)) (lq_l h)
      exact I2 n2 _ _ (fr_F (by decide) fr_refl) hn2
    · replace h := ed_neg q38 h
      exact fr_ret h (fr_F (by decide) fr_refl)
  · replace h := ed_neg q24 h
    exact fr_ret h (fr_F (by decide) fr_refl)
noncomputable def f_MScriptRows_peek (M : im_M) : Option (Int32) := if ¬ (im_i M 71 8) = 0 then gd (inb ((im_i M 71 8) - 1) 5800) <| some (im_i M 77 (Int32.toNatClampNeg ((im_i M 71 8) - 1))) else some (-1)
theorem J_MScriptRows_peek_d0 : decode J_MScriptRows_peek.2.1 0 = .ok (.aload_n 0, 1) := by decide +kernel
theorem J_MScriptRows_peek_d1 : decode J_MScriptRows_peek.2.1 1 = .ok (.getfield 73, 3) := by decide +kernel
theorem J_MScriptRows_peek_d4 : decode J_MScriptRows_peek.2.1 4 = .ok (.ifCond .ne 7, 3) := by decide +kernel
theorem J_MScriptRows_peek_d7 : decode J_MScriptRows_peek.2.1 7 = .ok (.iconst (-1), 1) := by decide +kernel
theorem J_MScriptRows_peek_d8 : decode J_MScriptRows_peek.2.1 8 = .ok (.goto 14, 3) := by decide +kernel
theorem J_MScriptRows_peek_d11 : decode J_MScriptRows_peek.2.1 11 = .ok (.aload_n 0, 1) := by decide +kernel
theorem J_MScriptRows_peek_d12 : decode J_MScriptRows_peek.2.1 12 = .ok (.getfield 25, 3) := by decide +kernel
theorem J_MScriptRows_peek_d15 : decode J_MScriptRows_peek.2.1 15 = .ok (.aload_n 0, 1) := by decide +kernel
theorem J_MScriptRows_peek_d16 : decode J_MScriptRows_peek.2.1 16 = .ok (.getfield 73, 3) := by decide +kernel
theorem J_MScriptRows_peek_d19 : decode J_MScriptRows_peek.2.1 19 = .ok (.iconst 1, 1) := by decide +kernel
theorem J_MScriptRows_peek_d20 : decode J_MScriptRows_peek.2.1 20 = .ok (.isub, 1) := by decide +kernel
theorem J_MScriptRows_peek_d21 : decode J_MScriptRows_peek.2.1 21 = .ok (.iaload, 1) := by decide +kernel
theorem J_MScriptRows_peek_d22 : decode J_MScriptRows_peek.2.1 22 = .ok (.ireturn, 1) := by decide +kernel
theorem f_MScriptRows_peek_ok {L : Nat} {xs : Nat → Int32} {dep : Nat} {w : Bool} {M : im_M} {Q : Int32 → Prop} (hM : lw_S w M) (h : ed (f_MScriptRows_peek M) Q) : ia (tb_G L xs) dep J_MScriptRows_peek (rpI M Q) (0, lv_args 0 [.ref 71], [], M) := by
  have hS : im_St (tb_G L xs) dep J_MScriptRows_peek (ia (tb_G L xs) dep J_MScriptRows_peek (rpI M Q)) := ia_St
  unfold f_MScriptRows_peek at h
  have l0 : im_lk (lv_args 0 [.ref 71]) 0 = some (.ref 71) := rfl
  refine iq_aload_n hS 1 J_MScriptRows_peek_d0 l0 rfl ?_
  refine iq_getI hS 4 J_MScriptRows_peek_d1 lf_15_73 (Or.inl rfl) (ka_71 hM) rfl ?_
  refine iq_if_ne hS 7 J_MScriptRows_peek_d4 (t := 11) rfl (fun q4 => ?_) rfl (fun q4 => ?_)
  · replace h := ed_pos q4 h
    refine iq_aload_n hS 12 J_MScriptRows_peek_d11 l0 rfl ?_
    refine iq_getR hS 15 J_MScriptRows_peek_d12 lf_15_25 (Or.inr ⟨_, rfl⟩) (ka_71 hM) (ra_71_7 hM) rfl ?_
    refine iq_aload_n hS 16 J_MScriptRows_peek_d15 l0 rfl ?_
    refine iq_getI hS 19 J_MScriptRows_peek_d16 lf_15_73 (Or.inl rfl) (ka_71 hM) rfl ?_
    refine iq_iconst hS 20 J_MScriptRows_peek_d19 (v := 1) (by decide +kernel) rfl ?_
    refine iq_isub hS 21 J_MScriptRows_peek_d20 rfl ?_
    obtain ⟨g21, h⟩ := ed_gd h
    refine iq_iaload hS 22 J_MScriptRows_peek_d21 ⟨(ka_77 hM).1, (ka_77 hM).2, g21.1, ix_lt (kl_77 hM) g21.2⟩ rfl ?_
    exact iq_iret J_MScriptRows_peek_d22 rfl rfl ⟨_, rfl, rfl, ed_some h⟩
  · replace h := ed_neg q4 h
    refine iq_iconst hS 8 J_MScriptRows_peek_d7 (v := (-1)) (by decide +kernel) rfl ?_
    refine iq_goto hS J_MScriptRows_peek_d8 (t := 22) rfl ?_
    exact iq_iret J_MScriptRows_peek_d22 rfl rfl ⟨_, rfl, rfl, ed_some h⟩
noncomputable def f_MScriptRows_next (M : im_M) : Option (Int32 × im_M) := bd1 (f_MScriptRows_peek M) fun (x1 : Int32) => some (x1, (im_setI M 71 8 ((if ¬ (im_i M 71 8) = 0 then ((im_i M 71 8) - 1) else 0) : Int32)))
theorem J_MScriptRows_next_d0 : decode J_MScriptRows_next.2.1 0 = .ok (.aload_n 0, 1) := by decide +kernel
theorem J_MScriptRows_next_d1 : decode J_MScriptRows_next.2.1 1 = .ok (.invokevirtual 76, 3) := by decide +kernel
theorem J_MScriptRows_next_d4 : decode J_MScriptRows_next.2.1 4 = .ok (.istore_n 1, 1) := by decide +kernel
theorem J_MScriptRows_next_d5 : decode J_MScriptRows_next.2.1 5 = .ok (.aload_n 0, 1) := by decide +kernel
theorem J_MScriptRows_next_d6 : decode J_MScriptRows_next.2.1 6 = .ok (.aload_n 0, 1) := by decide +kernel
theorem J_MScriptRows_next_d7 : decode J_MScriptRows_next.2.1 7 = .ok (.getfield 73, 3) := by decide +kernel
theorem J_MScriptRows_next_d10 : decode J_MScriptRows_next.2.1 10 = .ok (.ifCond .ne 7, 3) := by decide +kernel
theorem J_MScriptRows_next_d13 : decode J_MScriptRows_next.2.1 13 = .ok (.iconst 0, 1) := by decide +kernel
theorem J_MScriptRows_next_d14 : decode J_MScriptRows_next.2.1 14 = .ok (.goto 9, 3) := by decide +kernel
theorem J_MScriptRows_next_d17 : decode J_MScriptRows_next.2.1 17 = .ok (.aload_n 0, 1) := by decide +kernel
theorem J_MScriptRows_next_d18 : decode J_MScriptRows_next.2.1 18 = .ok (.getfield 73, 3) := by decide +kernel
theorem J_MScriptRows_next_d21 : decode J_MScriptRows_next.2.1 21 = .ok (.iconst 1, 1) := by decide +kernel
theorem J_MScriptRows_next_d22 : decode J_MScriptRows_next.2.1 22 = .ok (.isub, 1) := by decide +kernel
theorem J_MScriptRows_next_d23 : decode J_MScriptRows_next.2.1 23 = .ok (.putfield 73, 3) := by decide +kernel
theorem J_MScriptRows_next_d26 : decode J_MScriptRows_next.2.1 26 = .ok (.iload_n 1, 1) := by decide +kernel
theorem J_MScriptRows_next_d27 : decode J_MScriptRows_next.2.1 27 = .ok (.ireturn, 1) := by decide +kernel
theorem f_MScriptRows_next_ok {L : Nat} {xs : Nat → Int32} {dep : Nat} {w : Bool} {M : im_M} {Q : Int32 × im_M → Prop} (hM : lw_S w M) (h : ed (f_MScriptRows_next M) Q) : ia (tb_G L xs) (dep + 1) J_MScriptRows_next (rwI w Q) (0, lv_args 0 [.ref 71], [], M) := by
  have hS : im_St (tb_G L xs) (dep + 1) J_MScriptRows_next (ia (tb_G L xs) (dep + 1) J_MScriptRows_next (rwI w Q)) := ia_St
  unfold f_MScriptRows_next at h
  have l0 : im_lk (lv_args 0 [.ref 71]) 0 = some (.ref 71) := rfl
  refine iq_aload_n hS 1 J_MScriptRows_next_d0 l0 rfl ?_
  obtain ⟨Q1, hQ1, h⟩ := bd1_ed h
  refine iq_cpI hS 4 J_MScriptRows_next_d1 rfl (pr_inst (vs := []) lc_15_76 lT_282 rfl rfl (by decide) (by decide) rfl (Nat.le_of_ble_eq_true rfl) (Nat.le_of_ble_eq_true rfl) (fun _ => Or.inl (pr_b (ka_71 hM) (by decide) rfl))) (f_MScriptRows_peek_ok (dep := dep + 0) hM h) rfl ?_
  intro x1 h
  replace h := hQ1 _ h
  refine iq_istore_n hS 5 J_MScriptRows_next_d4 (by decide) rfl ?_
  refine iq_aload_n hS 6 J_MScriptRows_next_d5 (lk_1r l0 (by decide)) rfl ?_
  refine iq_aload_n hS 7 J_MScriptRows_next_d6 (lk_1r l0 (by decide)) rfl ?_
  refine iq_getI hS 10 J_MScriptRows_next_d7 lf_15_73 (Or.inl rfl) (ka_71 hM) rfl ?_
  have J2 : ∀ (z3 : Int32) (L' : List (Nat × Value)), z3 = ((if ¬ (im_i M 71 8) = 0 then ((im_i M 71 8) - 1) else 0) : Int32) → im_lk L' 1 = some (.int x1) → ia (tb_G L xs) (dep + 1) J_MScriptRows_next (rwI w Q) (23, L', [.int z3, .ref 71], M) := by
    intro z3 L' e4 l5
    subst e4
    refine iq_putI hS 26 J_MScriptRows_next_d23 lf_15_73 (Or.inl rfl) rfl (ka_71 hM) rfl ?_
    refine iq_iload_n hS 27 J_MScriptRows_next_d26 l5 rfl ?_
    exact iq_iret J_MScriptRows_next_d27 rfl rfl ⟨_, rfl, (lw_sI hM), ed_some h⟩
  refine iq_if_ne hS 13 J_MScriptRows_next_d10 (t := 17) rfl (fun q10 => ?_) rfl (fun q10 => ?_)
  · refine iq_aload_n hS 18 J_MScriptRows_next_d17 (lk_1r l0 (by decide)) rfl ?_
    refine iq_getI hS 21 J_MScriptRows_next_d18 lf_15_73 (Or.inl rfl) (ka_71 hM) rfl ?_
    refine iq_iconst hS 22 J_MScriptRows_next_d21 (v := 1) (by decide +kernel) rfl ?_
    refine iq_isub hS 23 J_MScriptRows_next_d22 rfl ?_
    exact J2 _ _ (by simp only [if_pos q10]) lk_1s
  · refine iq_iconst hS 14 J_MScriptRows_next_d13 (v := 0) (by decide +kernel) rfl ?_
    refine iq_goto hS J_MScriptRows_next_d14 (t := 23) rfl ?_
    exact J2 _ _ (by simp only [if_neg q10]) lk_1s
theorem f_MScriptRows_next_fr {M : im_M} {r : Int32 × im_M} (h : f_MScriptRows_next M = some r) : fr 0 [(71, 8)] M r.2 := by
  replace h : ed (f_MScriptRows_next M) (fun x => x = r) := ⟨r, h, rfl⟩
  unfold f_MScriptRows_next at h
  obtain ⟨Q1, hQ1, h⟩ := bd1_ed h
  obtain ⟨x1, e1, h⟩ := h
  replace h := hQ1 _ h
  exact fr_ret h (fr_F (by decide) fr_refl)
noncomputable def f_MScriptRows_numbers (p0 : Int32) (M : im_M) : Option (Int32) := if p0 = 35 ∨ p0 = 67 ∨ p0 = 75 ∨ p0 = 80 ∨ p0 = 83 ∨ p0 = 85 ∨ p0 = 86 then some 1 else if p0 = 59 ∨ p0 = 69 ∨ p0 = 82 ∨ p0 = 88 then some 0 else if p0 = 66 ∨ p0 = 68 ∨ p0 = 81 ∨ p0 = 84 ∨ p0 = 87 then some 4 else if p0 = 70 ∨ p0 = 71 ∨ p0 = 73 ∨ p0 = 78 then some 3 else if p0 = 72 ∨ p0 = 76 ∨ p0 = 79 then some 2 else some (-1)
theorem J_MScriptRows_numbers_d0 : decode J_MScriptRows_numbers.2.1 0 = .ok (.iload_n 0, 1) := by decide +kernel
theorem J_MScriptRows_numbers_d1 : decode J_MScriptRows_numbers.2.1 1 = .ok (.tableswitch 241 35 88 #[233, 241, 241, 241, 241, 241, 241, 241, 241, 241, 241, 241, 241, 241, 241, 241, 241, 241, 241, 241, 241, 241, 241, 241, 231, 241, 241, 241, 241, 241, 241, 239, 233, 239, 231, 237, 237, 235, 237, 241, 233, 235, 241, 237, 235, 233, 239, 231, 233, 239, 233, 233, 239, 231], 231) := by decide +kernel
theorem J_MScriptRows_numbers_d232 : decode J_MScriptRows_numbers.2.1 232 = .ok (.iconst 0, 1) := by decide +kernel
theorem J_MScriptRows_numbers_d233 : decode J_MScriptRows_numbers.2.1 233 = .ok (.ireturn, 1) := by decide +kernel
theorem J_MScriptRows_numbers_d234 : decode J_MScriptRows_numbers.2.1 234 = .ok (.iconst 1, 1) := by decide +kernel
theorem J_MScriptRows_numbers_d235 : decode J_MScriptRows_numbers.2.1 235 = .ok (.ireturn, 1) := by decide +kernel
theorem J_MScriptRows_numbers_d236 : decode J_MScriptRows_numbers.2.1 236 = .ok (.iconst 2, 1) := by decide +kernel
theorem J_MScriptRows_numbers_d237 : decode J_MScriptRows_numbers.2.1 237 = .ok (.ireturn, 1) := by decide +kernel
theorem J_MScriptRows_numbers_d238 : decode J_MScriptRows_numbers.2.1 238 = .ok (.iconst 3, 1) := by decide +kernel
theorem J_MScriptRows_numbers_d239 : decode J_MScriptRows_numbers.2.1 239 = .ok (.ireturn, 1) := by decide +kernel
theorem J_MScriptRows_numbers_d240 : decode J_MScriptRows_numbers.2.1 240 = .ok (.iconst 4, 1) := by decide +kernel
theorem J_MScriptRows_numbers_d241 : decode J_MScriptRows_numbers.2.1 241 = .ok (.ireturn, 1) := by decide +kernel
theorem J_MScriptRows_numbers_d242 : decode J_MScriptRows_numbers.2.1 242 = .ok (.iconst (-1), 1) := by decide +kernel
theorem J_MScriptRows_numbers_d243 : decode J_MScriptRows_numbers.2.1 243 = .ok (.ireturn, 1) := by decide +kernel
theorem f_MScriptRows_numbers_ok {L : Nat} {xs : Nat → Int32} {dep : Nat} {w : Bool} {p0 : Int32} {M : im_M} {Q : Int32 → Prop} (hM : lw_S w M) (h : ed (f_MScriptRows_numbers p0 M) Q) : ia (tb_G L xs) dep J_MScriptRows_numbers (rpI M Q) (0, lv_args 0 [.int p0], [], M) := by
  have hS : im_St (tb_G L xs) dep J_MScriptRows_numbers (ia (tb_G L xs) dep J_MScriptRows_numbers (rpI M Q)) := ia_St
  unfold f_MScriptRows_numbers at h
  have l0 : im_lk (lv_args 0 [.int p0]) 0 = some (.int p0) := rfl
  refine iq_iload_n hS 1 J_MScriptRows_numbers_d0 l0 rfl ?_
  by_cases q1_35 : p0 = 35 ∨ p0 = 67 ∨ p0 = 75 ∨ p0 = 80 ∨ p0 = 83 ∨ p0 = 85 ∨ p0 = 86
  · replace h := ed_pos q1_35 h
    refine iq_tsw hS J_MScriptRows_numbers_d1 (t := 234) (by rcases q1_35 with z | z | z | z | z | z | z <;> exact sw_v z (by decide +kernel)) ?_
    refine iq_iconst hS 235 J_MScriptRows_numbers_d234 (v := 1) (by decide +kernel) rfl ?_
    exact iq_iret J_MScriptRows_numbers_d235 rfl rfl ⟨_, rfl, rfl, ed_some h⟩
  replace h := ed_neg q1_35 h
  by_cases q1_59 : p0 = 59 ∨ p0 = 69 ∨ p0 = 82 ∨ p0 = 88
  · replace h := ed_pos q1_59 h
    refine iq_tsw hS J_MScriptRows_numbers_d1 (t := 232) (by rcases q1_59 with z | z | z | z <;> exact sw_v z (by decide +kernel)) ?_
    refine iq_iconst hS 233 J_MScriptRows_numbers_d232 (v := 0) (by decide +kernel) rfl ?_
    exact iq_iret J_MScriptRows_numbers_d233 rfl rfl ⟨_, rfl, rfl, ed_some h⟩
  replace h := ed_neg q1_59 h
  by_cases q1_66 : p0 = 66 ∨ p0 = 68 ∨ p0 = 81 ∨ p0 = 84 ∨ p0 = 87
  · replace h := ed_pos q1_66 h
    refine iq_tsw hS J_MScriptRows_numbers_d1 (t := 240) (by rcases q1_66 with z | z | z | z | z <;> exact sw_v z (by decide +kernel)) ?_
    refine iq_iconst hS 241 J_MScriptRows_numbers_d240 (v := 4) (by decide +kernel) rfl ?_
    exact iq_iret J_MScriptRows_numbers_d241 rfl rfl ⟨_, rfl, rfl, ed_some h⟩
  replace h := ed_neg q1_66 h
  by_cases q1_70 : p0 = 70 ∨ p0 = 71 ∨ p0 = 73 ∨ p0 = 78
  · replace h := ed_pos q1_70 h
    refine iq_tsw hS J_MScriptRows_numbers_d1 (t := 238) (by rcases q1_70 with z | z | z | z <;> exact sw_v z (by decide +kernel)) ?_
    refine iq_iconst hS 239 J_MScriptRows_numbers_d238 (v := 3) (by decide +kernel) rfl ?_
    exact iq_iret J_MScriptRows_numbers_d239 rfl rfl ⟨_, rfl, rfl, ed_some h⟩
  replace h := ed_neg q1_70 h
  by_cases q1_72 : p0 = 72 ∨ p0 = 76 ∨ p0 = 79
  · replace h := ed_pos q1_72 h
    refine iq_tsw hS J_MScriptRows_numbers_d1 (t := 236) (by rcases q1_72 with z | z | z <;> exact sw_v z (by decide +kernel)) ?_
    refine iq_iconst hS 237 J_MScriptRows_numbers_d236 (v := 2) (by decide +kernel) rfl ?_
    exact iq_iret J_MScriptRows_numbers_d237 rfl rfl ⟨_, rfl, rfl, ed_some h⟩
  replace h := ed_neg q1_72 h
  refine iq_tsw hS J_MScriptRows_numbers_d1 (t := 242) (sw_d [35, 67, 75, 80, 83, 85, 86, 59, 69, 82, 88, 66, 68, 81, 84, 87, 70, 71, 73, 78, 72, 76, 79] (by decide) (by decide) (by decide +kernel) (sw_nc (fun z => q1_35 (Or.inl z)) (sw_nc (fun z => q1_35 (Or.inr (Or.inl z))) (sw_nc (fun z => q1_35 (Or.inr (Or.inr (Or.inl z)))) (sw_nc (fun z => q1_35 (Or.inr (Or.inr (Or.inr (Or.inl z))))) (sw_nc (fun z => q1_35 (Or.inr (Or.inr (Or.inr (Or.inr (Or.inl z)))))) (sw_nc (fun z => q1_35 (Or.inr (Or.inr (Or.inr (Or.inr (Or.inr (Or.inl z))))))) (sw_nc (fun z => q1_35 (Or.inr (Or.inr (Or.inr (Or.inr (Or.inr (Or.inr z))))))) (sw_nc (fun z => q1_59 (Or.inl z)) (sw_nc (fun z => q1_59 (Or.inr (Or.inl z))) (sw_nc (fun z => q1_59 (Or.inr (Or.inr (Or.inl z)))) (sw_nc (fun z => q1_59 (Or.inr (Or.inr (Or.inr z)))) (sw_nc (fun z => q1_66 (Or.inl z)) (sw_nc (fun z => q1_66 (Or.inr (Or.inl z))) (sw_nc (fun z => q1_66 (Or.inr (Or.inr (Or.inl z)))) (sw_nc (fun z => q1_66 (Or.inr (Or.inr (Or.inr (Or.inl z))))) (sw_nc (fun z => q1_66 (Or.inr (Or.inr (Or.inr (Or.inr z))))) (sw_nc (fun z => q1_70 (Or.inl z)) (sw_nc (fun z => q1_70 (Or.inr (Or.inl z))) (sw_nc (fun z => q1_70 (Or.inr (Or.inr (Or.inl z)))) (sw_nc (fun z => q1_70 (Or.inr (Or.inr (Or.inr z)))) (sw_nc (fun z => q1_72 (Or.inl z)) (sw_nc (fun z => q1_72 (Or.inr (Or.inl z))) (sw_nc (fun z => q1_72 (Or.inr (Or.inr z))) sw_nn)))))))))))))))))))))))) ?_
  refine iq_iconst hS 243 J_MScriptRows_numbers_d242 (v := (-1)) (by decide +kernel) rfl ?_
  exact iq_iret J_MScriptRows_numbers_d243 rfl rfl ⟨_, rfl, rfl, ed_some h⟩
noncomputable def f_MScriptRows_mayStand (p0 : Int32) (M : im_M) : Option (Int32) := if ¬ (im_i M 71 18) = 0 then if p0 = 83 then some 0 else if p0 = 76 then some 0 else jn0 (fun (_ : Unit) => jn0 (fun (_ : Unit) => some 1) fun k4 => if ¬ p0 = 59 then k4 () else gd (inb 0 16) <| if (im_i M 81 (Int32.toNatClampNeg 0)) = (-1) then some 0 else k4 ()) fun k1 => if ¬ p0 = 69 then k1 () else if (im_i M 71 9) ≤ 0 then k1 () else some 0 else jn0 (fun (_ : Unit) => some 1) fun k5 => if p0 = 83 then k5 () else if p0 = 75 then k5 () else if ¬ p0 = 76 then some 0 else k5 ()
theorem J_MScriptRows_mayStand_d0 : decode J_MScriptRows_mayStand.2.1 0 = .ok (.aload_n 0, 1) := by decide +kernel
theorem J_MScriptRows_mayStand_d1 : decode J_MScriptRows_mayStand.2.1 1 = .ok (.getfield 180, 3) := by decide +kernel
theorem J_MScriptRows_mayStand_d4 : decode J_MScriptRows_mayStand.2.1 4 = .ok (.ifCond .ne 27, 3) := by decide +kernel
theorem J_MScriptRows_mayStand_d7 : decode J_MScriptRows_mayStand.2.1 7 = .ok (.iload_n 1, 1) := by decide +kernel
theorem J_MScriptRows_mayStand_d8 : decode J_MScriptRows_mayStand.2.1 8 = .ok (.bipush 83, 2) := by decide +kernel
theorem J_MScriptRows_mayStand_d10 : decode J_MScriptRows_mayStand.2.1 10 = .ok (.if_icmp .eq 15, 3) := by decide +kernel
theorem J_MScriptRows_mayStand_d13 : decode J_MScriptRows_mayStand.2.1 13 = .ok (.iload_n 1, 1) := by decide +kernel
theorem J_MScriptRows_mayStand_d14 : decode J_MScriptRows_mayStand.2.1 14 = .ok (.bipush 75, 2) := by decide +kernel
theorem J_MScriptRows_mayStand_d16 : decode J_MScriptRows_mayStand.2.1 16 = .ok (.if_icmp .eq 9, 3) := by decide +kernel
theorem J_MScriptRows_mayStand_d19 : decode J_MScriptRows_mayStand.2.1 19 = .ok (.iload_n 1, 1) := by decide +kernel
theorem J_MScriptRows_mayStand_d20 : decode J_MScriptRows_mayStand.2.1 20 = .ok (.bipush 76, 2) := by decide +kernel
theorem J_MScriptRows_mayStand_d22 : decode J_MScriptRows_mayStand.2.1 22 = .ok (.if_icmp .ne 7, 3) := by decide +kernel
theorem J_MScriptRows_mayStand_d25 : decode J_MScriptRows_mayStand.2.1 25 = .ok (.iconst 1, 1) := by decide +kernel
theorem J_MScriptRows_mayStand_d26 : decode J_MScriptRows_mayStand.2.1 26 = .ok (.goto 4, 3) := by decide +kernel
theorem J_MScriptRows_mayStand_d29 : decode J_MScriptRows_mayStand.2.1 29 = .ok (.iconst 0, 1) := by decide +kernel
theorem J_MScriptRows_mayStand_d30 : decode J_MScriptRows_mayStand.2.1 30 = .ok (.ireturn, 1) := by decide +kernel
theorem J_MScriptRows_mayStand_d31 : decode J_MScriptRows_mayStand.2.1 31 = .ok (.iload_n 1, 1) := by decide +kernel
theorem J_MScriptRows_mayStand_d32 : decode J_MScriptRows_mayStand.2.1 32 = .ok (.bipush 83, 2) := by decide +kernel
theorem J_MScriptRows_mayStand_d34 : decode J_MScriptRows_mayStand.2.1 34 = .ok (.if_icmp .eq 22, 3) := by decide +kernel
theorem J_MScriptRows_mayStand_d37 : decode J_MScriptRows_mayStand.2.1 37 = .ok (.iload_n 1, 1) := by decide +kernel
theorem J_MScriptRows_mayStand_d38 : decode J_MScriptRows_mayStand.2.1 38 = .ok (.bipush 76, 2) := by decide +kernel
theorem J_MScriptRows_mayStand_d40 : decode J_MScriptRows_mayStand.2.1 40 = .ok (.if_icmp .eq 16, 3) := by decide +kernel
theorem J_MScriptRows_mayStand_d43 : decode J_MScriptRows_mayStand.2.1 43 = .ok (.iload_n 1, 1) := by decide +kernel
theorem J_MScriptRows_mayStand_d44 : decode J_MScriptRows_mayStand.2.1 44 = .ok (.bipush 69, 2) := by decide +kernel
theorem J_MScriptRows_mayStand_d46 : decode J_MScriptRows_mayStand.2.1 46 = .ok (.if_icmp .ne 12, 3) := by decide +kernel
theorem J_MScriptRows_mayStand_d49 : decode J_MScriptRows_mayStand.2.1 49 = .ok (.aload_n 0, 1) := by decide +kernel
theorem J_MScriptRows_mayStand_d50 : decode J_MScriptRows_mayStand.2.1 50 = .ok (.getfield 183, 3) := by decide +kernel
theorem J_MScriptRows_mayStand_d53 : decode J_MScriptRows_mayStand.2.1 53 = .ok (.ifCond .le 5, 3) := by decide +kernel
theorem J_MScriptRows_mayStand_d56 : decode J_MScriptRows_mayStand.2.1 56 = .ok (.iconst 0, 1) := by decide +kernel
theorem J_MScriptRows_mayStand_d57 : decode J_MScriptRows_mayStand.2.1 57 = .ok (.ireturn, 1) := by decide +kernel
theorem J_MScriptRows_mayStand_d58 : decode J_MScriptRows_mayStand.2.1 58 = .ok (.iload_n 1, 1) := by decide +kernel
theorem J_MScriptRows_mayStand_d59 : decode J_MScriptRows_mayStand.2.1 59 = .ok (.bipush 59, 2) := by decide +kernel
theorem J_MScriptRows_mayStand_d61 : decode J_MScriptRows_mayStand.2.1 61 = .ok (.if_icmp .ne 13, 3) := by decide +kernel
theorem J_MScriptRows_mayStand_d64 : decode J_MScriptRows_mayStand.2.1 64 = .ok (.aload_n 0, 1) := by decide +kernel
theorem J_MScriptRows_mayStand_d65 : decode J_MScriptRows_mayStand.2.1 65 = .ok (.getfield 41, 3) := by decide +kernel
theorem J_MScriptRows_mayStand_d68 : decode J_MScriptRows_mayStand.2.1 68 = .ok (.iconst 0, 1) := by decide +kernel
theorem J_MScriptRows_mayStand_d69 : decode J_MScriptRows_mayStand.2.1 69 = .ok (.iaload, 1) := by decide +kernel
theorem J_MScriptRows_mayStand_d70 : decode J_MScriptRows_mayStand.2.1 70 = .ok (.iconst (-1), 1) := by decide +kernel
theorem J_MScriptRows_mayStand_d71 : decode J_MScriptRows_mayStand.2.1 71 = .ok (.if_icmp .eq 7, 3) := by decide +kernel
theorem J_MScriptRows_mayStand_d74 : decode J_MScriptRows_mayStand.2.1 74 = .ok (.iconst 1, 1) := by decide +kernel
theorem J_MScriptRows_mayStand_d75 : decode J_MScriptRows_mayStand.2.1 75 = .ok (.goto 4, 3) := by decide +kernel
theorem J_MScriptRows_mayStand_d78 : decode J_MScriptRows_mayStand.2.1 78 = .ok (.iconst 0, 1) := by decide +kernel
theorem J_MScriptRows_mayStand_d79 : decode J_MScriptRows_mayStand.2.1 79 = .ok (.ireturn, 1) := by decide +kernel
theorem f_MScriptRows_mayStand_ok {L : Nat} {xs : Nat → Int32} {dep : Nat} {w : Bool} {p0 : Int32} {M : im_M} {Q : Int32 → Prop} (hM : lw_S w M) (h : ed (f_MScriptRows_mayStand p0 M) Q) : ia (tb_G L xs) dep J_MScriptRows_mayStand (rpI M Q) (0, lv_args 0 [.ref 71, .int p0], [], M) := by
  have hS : im_St (tb_G L xs) dep J_MScriptRows_mayStand (ia (tb_G L xs) dep J_MScriptRows_mayStand (rpI M Q)) := ia_St
  unfold f_MScriptRows_mayStand at h
  have l0 : im_lk (lv_args 0 [.ref 71, .int p0]) 0 = some (.ref 71) := rfl
  have l1 : im_lk (lv_args 0 [.ref 71, .int p0]) 1 = some (.int p0) := rfl
  refine iq_aload_n hS 1 J_MScriptRows_mayStand_d0 l0 rfl ?_
  refine iq_getI hS 4 J_MScriptRows_mayStand_d1 lf_15_180 (Or.inr rfl) (ka_71 hM) rfl ?_
  refine iq_if_ne hS 7 J_MScriptRows_mayStand_d4 (t := 31) rfl (fun q4 => ?_) rfl (fun q4 => ?_)
  · replace h := ed_pos q4 h
    refine iq_iload_n hS 32 J_MScriptRows_mayStand_d31 l1 rfl ?_
    refine iq_bipush hS 34 J_MScriptRows_mayStand_d32 (v := 83) (by decide +kernel) rfl ?_
    refine iq_icmp_eq hS 37 J_MScriptRows_mayStand_d34 (t := 56) rfl (fun q34 => ?_) rfl (fun q34 => ?_)
    · replace h := ed_pos q34 h
      refine iq_iconst hS 57 J_MScriptRows_mayStand_d56 (v := 0) (by decide +kernel) rfl ?_
      exact iq_iret J_MScriptRows_mayStand_d57 rfl rfl ⟨_, rfl, rfl, ed_some h⟩
    · replace h := ed_neg q34 h
      refine iq_iload_n hS 38 J_MScriptRows_mayStand_d37 l1 rfl ?_
      refine iq_bipush hS 40 J_MScriptRows_mayStand_d38 (v := 76) (by decide +kernel) rfl ?_
      refine iq_icmp_eq hS 43 J_MScriptRows_mayStand_d40 (t := 56) rfl (fun q40 => ?_) rfl (fun q40 => ?_)
      · replace h := ed_pos q40 h
        refine iq_iconst hS 57 J_MScriptRows_mayStand_d56 (v := 0) (by decide +kernel) rfl ?_
        exact iq_iret J_MScriptRows_mayStand_d57 rfl rfl ⟨_, rfl, rfl, ed_some h⟩
      · replace h := ed_neg q40 h
        refine iq_iload_n hS 44 J_MScriptRows_mayStand_d43 l1 rfl ?_
        refine iq_bipush hS 46 J_MScriptRows_mayStand_d44 (v := 69) (by decide +kernel) rfl ?_
        obtain ⟨k1, Q1, hQ1, hk1, h⟩ := jn0_ed h
        have J1 : ∀  (L' : List (Nat × Value)), im_lk L' 0 = some (.ref 71) → im_lk L' 1 = some (.int p0) → Q1 () → ia (tb_G L xs) dep J_MScriptRows_mayStand (rpI M Q) (58, L', [], M) := by
          intro  L' l2 l3 h
          replace h := hQ1  h
          refine iq_iload_n hS 59 J_MScriptRows_mayStand_d58 l3 rfl ?_
          refine iq_bipush hS 61 J_MScriptRows_mayStand_d59 (v := 59) (by decide +kernel) rfl ?_
          obtain ⟨k4, Q4, hQ4, hk4, h⟩ := jn0_ed h
          have J4 : ∀  (L' : List (Nat × Value)), Q4 () → ia (tb_G L xs) dep J_MScriptRows_mayStand (rpI M Q) (74, L', [], M) := by
            intro  L'  h
            replace h := hQ4  h
            refine iq_iconst hS 75 J_MScriptRows_mayStand_d74 (v := 1) (by decide +kernel) rfl ?_
            refine iq_goto hS J_MScriptRows_mayStand_d75 (t := 79) rfl ?_
            exact iq_iret J_MScriptRows_mayStand_d79 rfl rfl ⟨_, rfl, rfl, ed_some h⟩
          refine iq_icmp_ne hS 64 J_MScriptRows_mayStand_d61 (t := 74) rfl (fun q61 => ?_) rfl (fun q61 => ?_)
          · replace h := ed_pos q61 h
            exact J4  _  (hk4  h)
          · replace h := ed_neg q61 h
            refine iq_aload_n hS 65 J_MScriptRows_mayStand_d64 l2 rfl ?_
            refine iq_getR hS 68 J_MScriptRows_mayStand_d65 lf_15_41 (Or.inr ⟨_, rfl⟩) (ka_71 hM) (ra_71_27 hM) rfl ?_
            refine iq_iconst hS 69 J_MScriptRows_mayStand_d68 (v := 0) (by decide +kernel) rfl ?_
            obtain ⟨g69, h⟩ := ed_gd h
            refine iq_iaload hS 70 J_MScriptRows_mayStand_d69 ⟨(ka_81 hM).1, (ka_81 hM).2, g69.1, ix_lt (kl_81 hM) g69.2⟩ rfl ?_
            refine iq_iconst hS 71 J_MScriptRows_mayStand_d70 (v := (-1)) (by decide +kernel) rfl ?_
            refine iq_icmp_eq hS 74 J_MScriptRows_mayStand_d71 (t := 78) rfl (fun q71 => ?_) rfl (fun q71 => ?_)
            · replace h := ed_pos q71 h
              refine iq_iconst hS 79 J_MScriptRows_mayStand_d78 (v := 0) (by decide +kernel) rfl ?_
              exact iq_iret J_MScriptRows_mayStand_d79 rfl rfl ⟨_, rfl, rfl, ed_some h⟩
            · replace h := ed_neg q71 h
              exact J4  _  (hk4  h)
        refine iq_icmp_ne hS 49 J_MScriptRows_mayStand_d46 (t := 58) rfl (fun q46 => ?_) rfl (fun q46 => ?_)
        · replace h := ed_pos q46 h
          exact J1  _ l0 l1 (hk1  h)
        · replace h := ed_neg q46 h
          refine iq_aload_n hS 50 J_MScriptRows_mayStand_d49 l0 rfl ?_
          refine iq_getI hS 53 J_MScriptRows_mayStand_d50 lf_15_183 (Or.inl rfl) (ka_71 hM) rfl ?_
          refine iq_if_le hS 56 J_MScriptRows_mayStand_d53 (t := 58) rfl (fun q53 => ?_) rfl (fun q53 => ?_)
          · replace h := ed_pos q53 h
            exact J1  _ l0 l1 (hk1  h)
          · replace h := ed_neg q53 h
            refine iq_iconst hS 57 J_MScriptRows_mayStand_d56 (v := 0) (by decide +kernel) rfl ?_
            exact iq_iret J_MScriptRows_mayStand_d57 rfl rfl ⟨_, rfl, rfl, ed_some h⟩
  · replace h := ed_neg q4 h
    refine iq_iload_n hS 8 J_MScriptRows_mayStand_d7 l1 rfl ?_
    refine iq_bipush hS 10 J_MScriptRows_mayStand_d8 (v := 83) (by decide +kernel) rfl ?_
    obtain ⟨k5, Q5, hQ5, hk5, h⟩ := jn0_ed h
    have J5 : ∀  (L' : List (Nat × Value)), Q5 () → ia (tb_G L xs) dep J_MScriptRows_mayStand (rpI M Q) (25, L', [], M) := by
      intro  L'  h
      replace h := hQ5  h
      refine iq_iconst hS 26 J_MScriptRows_mayStand_d25 (v := 1) (by decide +kernel) rfl ?_
      refine iq_goto hS J_MScriptRows_mayStand_d26 (t := 30) rfl ?_
      exact iq_iret J_MScriptRows_mayStand_d30 rfl rfl ⟨_, rfl, rfl, ed_some h⟩
    refine iq_icmp_eq hS 13 J_MScriptRows_mayStand_d10 (t := 25) rfl (fun q10 => ?_) rfl (fun q10 => ?_)
    · replace h := ed_pos q10 h
      exact J5  _  (hk5  h)
    · replace h := ed_neg q10 h
      refine iq_iload_n hS 14 J_MScriptRows_mayStand_d13 l1 rfl ?_
      refine iq_bipush hS 16 J_MScriptRows_mayStand_d14 (v := 75) (by decide +kernel) rfl ?_
      refine iq_icmp_eq hS 19 J_MScriptRows_mayStand_d16 (t := 25) rfl (fun q16 => ?_) rfl (fun q16 => ?_)
      · replace h := ed_pos q16 h
        exact J5  _  (hk5  h)
      · replace h := ed_neg q16 h
        refine iq_iload_n hS 20 J_MScriptRows_mayStand_d19 l1 rfl ?_
        refine iq_bipush hS 22 J_MScriptRows_mayStand_d20 (v := 76) (by decide +kernel) rfl ?_
        refine iq_icmp_ne hS 25 J_MScriptRows_mayStand_d22 (t := 29) rfl (fun q22 => ?_) rfl (fun q22 => ?_)
        · replace h := ed_pos q22 h
          refine iq_iconst hS 30 J_MScriptRows_mayStand_d29 (v := 0) (by decide +kernel) rfl ?_
          exact iq_iret J_MScriptRows_mayStand_d30 rfl rfl ⟨_, rfl, rfl, ed_some h⟩
        · replace h := ed_neg q22 h
          exact J5  _  (hk5  h)
noncomputable def f_MScriptRows_preset (p0 : Int32) (p1 : Int32) (M : im_M) : Option (Int32) := if p0 = 66 ∨ p0 = 78 then if ¬ p1 = 0 then if ¬ p1 = 1 then some 0 else some 50 else some 2 else if p0 = 67 ∨ p0 = 70 ∨ p0 = 73 then some 1 else if p0 = 68 then jn0 (fun (_ : Unit) => some 1) fun k1 => if p1 = 1 then k1 () else if ¬ p1 = 2 then some 0 else k1 () else if p0 = 71 then if ¬ p1 = 2 then some 0 else some 1 else if p0 = 80 then some 8 else if p0 = 81 then if ¬ p1 = 0 then if ¬ p1 = 1 then if ¬ p1 = 2 then some 0 else some (-1) else some 1 else some 2 else if p0 = 84 then gd (inb p1 4) <| some (im_i M 80 (Int32.toNatClampNeg p1)) else some 0
theorem J_MScriptRows_preset_d0 : decode J_MScriptRows_preset.2.1 0 = .ok (.iload_n 1, 1) := by decide +kernel
theorem J_MScriptRows_preset_d1 : decode J_MScriptRows_preset.2.1 1 = .ok (.tableswitch 178 66 84 #[116, 91, 93, 178, 91, 164, 178, 91, 178, 178, 178, 178, 116, 178, 175, 136, 178, 178, 109], 91) := by decide +kernel
theorem J_MScriptRows_preset_d92 : decode J_MScriptRows_preset.2.1 92 = .ok (.iconst 1, 1) := by decide +kernel
theorem J_MScriptRows_preset_d93 : decode J_MScriptRows_preset.2.1 93 = .ok (.ireturn, 1) := by decide +kernel
theorem J_MScriptRows_preset_d94 : decode J_MScriptRows_preset.2.1 94 = .ok (.iload_n 2, 1) := by decide +kernel
theorem J_MScriptRows_preset_d95 : decode J_MScriptRows_preset.2.1 95 = .ok (.iconst 1, 1) := by decide +kernel
theorem J_MScriptRows_preset_d96 : decode J_MScriptRows_preset.2.1 96 = .ok (.if_icmp .eq 8, 3) := by decide +kernel
theorem J_MScriptRows_preset_d99 : decode J_MScriptRows_preset.2.1 99 = .ok (.iload_n 2, 1) := by decide +kernel
theorem J_MScriptRows_preset_d100 : decode J_MScriptRows_preset.2.1 100 = .ok (.iconst 2, 1) := by decide +kernel
theorem J_MScriptRows_preset_d101 : decode J_MScriptRows_preset.2.1 101 = .ok (.if_icmp .ne 7, 3) := by decide +kernel
theorem J_MScriptRows_preset_d104 : decode J_MScriptRows_preset.2.1 104 = .ok (.iconst 1, 1) := by decide +kernel
theorem J_MScriptRows_preset_d105 : decode J_MScriptRows_preset.2.1 105 = .ok (.goto 4, 3) := by decide +kernel
theorem J_MScriptRows_preset_d108 : decode J_MScriptRows_preset.2.1 108 = .ok (.iconst 0, 1) := by decide +kernel
theorem J_MScriptRows_preset_d109 : decode J_MScriptRows_preset.2.1 109 = .ok (.ireturn, 1) := by decide +kernel
theorem J_MScriptRows_preset_d110 : decode J_MScriptRows_preset.2.1 110 = .ok (.aload_n 0, 1) := by decide +kernel
theorem J_MScriptRows_preset_d111 : decode J_MScriptRows_preset.2.1 111 = .ok (.getfield 38, 3) := by decide +kernel
theorem J_MScriptRows_preset_d114 : decode J_MScriptRows_preset.2.1 114 = .ok (.iload_n 2, 1) := by decide +kernel
theorem J_MScriptRows_preset_d115 : decode J_MScriptRows_preset.2.1 115 = .ok (.iaload, 1) := by decide +kernel
theorem J_MScriptRows_preset_d116 : decode J_MScriptRows_preset.2.1 116 = .ok (.ireturn, 1) := by decide +kernel
theorem J_MScriptRows_preset_d117 : decode J_MScriptRows_preset.2.1 117 = .ok (.iload_n 2, 1) := by decide +kernel
theorem J_MScriptRows_preset_d118 : decode J_MScriptRows_preset.2.1 118 = .ok (.ifCond .ne 7, 3) := by decide +kernel
theorem J_MScriptRows_preset_d121 : decode J_MScriptRows_preset.2.1 121 = .ok (.iconst 2, 1) := by decide +kernel
theorem J_MScriptRows_preset_d122 : decode J_MScriptRows_preset.2.1 122 = .ok (.goto 14, 3) := by decide +kernel
theorem J_MScriptRows_preset_d125 : decode J_MScriptRows_preset.2.1 125 = .ok (.iload_n 2, 1) := by decide +kernel
theorem J_MScriptRows_preset_d126 : decode J_MScriptRows_preset.2.1 126 = .ok (.iconst 1, 1) := by decide +kernel
theorem J_MScriptRows_preset_d127 : decode J_MScriptRows_preset.2.1 127 = .ok (.if_icmp .ne 8, 3) := by decide +kernel
theorem J_MScriptRows_preset_d130 : decode J_MScriptRows_preset.2.1 130 = .ok (.bipush 50, 2) := by decide +kernel
theorem J_MScriptRows_preset_d132 : decode J_MScriptRows_preset.2.1 132 = .ok (.goto 4, 3) := by decide +kernel
theorem J_MScriptRows_preset_d135 : decode J_MScriptRows_preset.2.1 135 = .ok (.iconst 0, 1) := by decide +kernel
theorem J_MScriptRows_preset_d136 : decode J_MScriptRows_preset.2.1 136 = .ok (.ireturn, 1) := by decide +kernel
theorem J_MScriptRows_preset_d137 : decode J_MScriptRows_preset.2.1 137 = .ok (.iload_n 2, 1) := by decide +kernel
theorem J_MScriptRows_preset_d138 : decode J_MScriptRows_preset.2.1 138 = .ok (.ifCond .ne 7, 3) := by decide +kernel
theorem J_MScriptRows_preset_d141 : decode J_MScriptRows_preset.2.1 141 = .ok (.iconst 2, 1) := by decide +kernel
theorem J_MScriptRows_preset_d142 : decode J_MScriptRows_preset.2.1 142 = .ok (.goto 22, 3) := by decide +kernel
theorem J_MScriptRows_preset_d145 : decode J_MScriptRows_preset.2.1 145 = .ok (.iload_n 2, 1) := by decide +kernel
theorem J_MScriptRows_preset_d146 : decode J_MScriptRows_preset.2.1 146 = .ok (.iconst 1, 1) := by decide +kernel
theorem J_MScriptRows_preset_d147 : decode J_MScriptRows_preset.2.1 147 = .ok (.if_icmp .ne 7, 3) := by decide +kernel
theorem J_MScriptRows_preset_d150 : decode J_MScriptRows_preset.2.1 150 = .ok (.iconst 1, 1) := by decide +kernel
theorem J_MScriptRows_preset_d151 : decode J_MScriptRows_preset.2.1 151 = .ok (.goto 13, 3) := by decide +kernel
theorem J_MScriptRows_preset_d154 : decode J_MScriptRows_preset.2.1 154 = .ok (.iload_n 2, 1) := by decide +kernel
theorem J_MScriptRows_preset_d155 : decode J_MScriptRows_preset.2.1 155 = .ok (.iconst 2, 1) := by decide +kernel
theorem J_MScriptRows_preset_d156 : decode J_MScriptRows_preset.2.1 156 = .ok (.if_icmp .ne 7, 3) := by decide +kernel
theorem J_MScriptRows_preset_d159 : decode J_MScriptRows_preset.2.1 159 = .ok (.iconst (-1), 1) := by decide +kernel
theorem J_MScriptRows_preset_d160 : decode J_MScriptRows_preset.2.1 160 = .ok (.goto 4, 3) := by decide +kernel
theorem J_MScriptRows_preset_d163 : decode J_MScriptRows_preset.2.1 163 = .ok (.iconst 0, 1) := by decide +kernel
theorem J_MScriptRows_preset_d164 : decode J_MScriptRows_preset.2.1 164 = .ok (.ireturn, 1) := by decide +kernel
theorem J_MScriptRows_preset_d165 : decode J_MScriptRows_preset.2.1 165 = .ok (.iload_n 2, 1) := by decide +kernel
theorem J_MScriptRows_preset_d166 : decode J_MScriptRows_preset.2.1 166 = .ok (.iconst 2, 1) := by decide +kernel
theorem J_MScriptRows_preset_d167 : decode J_MScriptRows_preset.2.1 167 = .ok (.if_icmp .ne 7, 3) := by decide +kernel
theorem J_MScriptRows_preset_d170 : decode J_MScriptRows_preset.2.1 170 = .ok (.iconst 1, 1) := by decide +kernel
theorem J_MScriptRows_preset_d171 : decode J_MScriptRows_preset.2.1 171 = .ok (.goto 4, 3) := by decide +kernel
theorem J_MScriptRows_preset_d174 : decode J_MScriptRows_preset.2.1 174 = .ok (.iconst 0, 1) := by decide +kernel
theorem J_MScriptRows_preset_d175 : decode J_MScriptRows_preset.2.1 175 = .ok (.ireturn, 1) := by decide +kernel
theorem J_MScriptRows_preset_d176 : decode J_MScriptRows_preset.2.1 176 = .ok (.bipush 8, 2) := by decide +kernel
theorem J_MScriptRows_preset_d178 : decode J_MScriptRows_preset.2.1 178 = .ok (.ireturn, 1) := by decide +kernel
theorem J_MScriptRows_preset_d179 : decode J_MScriptRows_preset.2.1 179 = .ok (.iconst 0, 1) := by decide +kernel
theorem J_MScriptRows_preset_d180 : decode J_MScriptRows_preset.2.1 180 = .ok (.ireturn, 1) := by decide +kernel
theorem f_MScriptRows_preset_ok {L : Nat} {xs : Nat → Int32} {dep : Nat} {w : Bool} {p0 : Int32} {p1 : Int32} {M : im_M} {Q : Int32 → Prop} (hM : lw_S w M) (h : ed (f_MScriptRows_preset p0 p1 M) Q) : ia (tb_G L xs) dep J_MScriptRows_preset (rpI M Q) (0, lv_args 0 [.ref 71, .int p0, .int p1], [], M) := by
  have hS : im_St (tb_G L xs) dep J_MScriptRows_preset (ia (tb_G L xs) dep J_MScriptRows_preset (rpI M Q)) := ia_St
  unfold f_MScriptRows_preset at h
  have l0 : im_lk (lv_args 0 [.ref 71, .int p0, .int p1]) 0 = some (.ref 71) := rfl
  have l1 : im_lk (lv_args 0 [.ref 71, .int p0, .int p1]) 1 = some (.int p0) := rfl
  have l2 : im_lk (lv_args 0 [.ref 71, .int p0, .int p1]) 2 = some (.int p1) := rfl
  refine iq_iload_n hS 1 J_MScriptRows_preset_d0 l1 rfl ?_
  by_cases q1_66 : p0 = 66 ∨ p0 = 78
  · replace h := ed_pos q1_66 h
    refine iq_tsw hS J_MScriptRows_preset_d1 (t := 117) (by rcases q1_66 with z | z <;> exact sw_v z (by decide +kernel)) ?_
    refine iq_iload_n hS 118 J_MScriptRows_preset_d117 l2 rfl ?_
    refine iq_if_ne hS 121 J_MScriptRows_preset_d118 (t := 125) rfl (fun q118 => ?_) rfl (fun q118 => ?_)
    · replace h := ed_pos q118 h
      refine iq_iload_n hS 126 J_MScriptRows_preset_d125 l2 rfl ?_
      refine iq_iconst hS 127 J_MScriptRows_preset_d126 (v := 1) (by decide +kernel) rfl ?_
      refine iq_icmp_ne hS 130 J_MScriptRows_preset_d127 (t := 135) rfl (fun q127 => ?_) rfl (fun q127 => ?_)
      · replace h := ed_pos q127 h
        refine iq_iconst hS 136 J_MScriptRows_preset_d135 (v := 0) (by decide +kernel) rfl ?_
        exact iq_iret J_MScriptRows_preset_d136 rfl rfl ⟨_, rfl, rfl, ed_some h⟩
      · replace h := ed_neg q127 h
        refine iq_bipush hS 132 J_MScriptRows_preset_d130 (v := 50) (by decide +kernel) rfl ?_
        refine iq_goto hS J_MScriptRows_preset_d132 (t := 136) rfl ?_
        exact iq_iret J_MScriptRows_preset_d136 rfl rfl ⟨_, rfl, rfl, ed_some h⟩
    · replace h := ed_neg q118 h
      refine iq_iconst hS 122 J_MScriptRows_preset_d121 (v := 2) (by decide +kernel) rfl ?_
      refine iq_goto hS J_MScriptRows_preset_d122 (t := 136) rfl ?_
      exact iq_iret J_MScriptRows_preset_d136 rfl rfl ⟨_, rfl, rfl, ed_some h⟩
  replace h := ed_neg q1_66 h
  by_cases q1_67 : p0 = 67 ∨ p0 = 70 ∨ p0 = 73
  · replace h := ed_pos q1_67 h
    refine iq_tsw hS J_MScriptRows_preset_d1 (t := 92) (by rcases q1_67 with z | z | z <;> exact sw_v z (by decide +kernel)) ?_
    refine iq_iconst hS 93 J_MScriptRows_preset_d92 (v := 1) (by decide +kernel) rfl ?_
    exact iq_iret J_MScriptRows_preset_d93 rfl rfl ⟨_, rfl, rfl, ed_some h⟩
  replace h := ed_neg q1_67 h
  by_cases q1_68 : p0 = 68
  · replace h := ed_pos q1_68 h
    refine iq_tsw hS J_MScriptRows_preset_d1 (t := 94) (sw_v q1_68 (by decide +kernel)) ?_
    refine iq_iload_n hS 95 J_MScriptRows_preset_d94 l2 rfl ?_
    refine iq_iconst hS 96 J_MScriptRows_preset_d95 (v := 1) (by decide +kernel) rfl ?_
    obtain ⟨k1, Q1, hQ1, hk1, h⟩ := jn0_ed h
    have J1 : ∀  (L' : List (Nat × Value)), Q1 () → ia (tb_G L xs) dep J_MScriptRows_preset (rpI M Q) (104, L', [], M) := by
      intro  L'  h
      replace h := hQ1  h
      refine iq_iconst hS 105 J_MScriptRows_preset_d104 (v := 1) (by decide +kernel) rfl ?_
      refine iq_goto hS J_MScriptRows_preset_d105 (t := 109) rfl ?_
      exact iq_iret J_MScriptRows_preset_d109 rfl rfl ⟨_, rfl, rfl, ed_some h⟩
    refine iq_icmp_eq hS 99 J_MScriptRows_preset_d96 (t := 104) rfl (fun q96 => ?_) rfl (fun q96 => ?_)
    · replace h := ed_pos q96 h
      exact J1  _  (hk1  h)
    · replace h := ed_neg q96 h
      refine iq_iload_n hS 100 J_MScriptRows_preset_d99 l2 rfl ?_
      refine iq_iconst hS 101 J_MScriptRows_preset_d100 (v := 2) (by decide +kernel) rfl ?_
      refine iq_icmp_ne hS 104 J_MScriptRows_preset_d101 (t := 108) rfl (fun q101 => ?_) rfl (fun q101 => ?_)
      · replace h := ed_pos q101 h
        refine iq_iconst hS 109 J_MScriptRows_preset_d108 (v := 0) (by decide +kernel) rfl ?_
        exact iq_iret J_MScriptRows_preset_d109 rfl rfl ⟨_, rfl, rfl, ed_some h⟩
      · replace h := ed_neg q101 h
        exact J1  _  (hk1  h)
  replace h := ed_neg q1_68 h
  by_cases q1_71 : p0 = 71
  · replace h := ed_pos q1_71 h
    refine iq_tsw hS J_MScriptRows_preset_d1 (t := 165) (sw_v q1_71 (by decide +kernel)) ?_
    refine iq_iload_n hS 166 J_MScriptRows_preset_d165 l2 rfl ?_
    refine iq_iconst hS 167 J_MScriptRows_preset_d166 (v := 2) (by decide +kernel) rfl ?_
    refine iq_icmp_ne hS 170 J_MScriptRows_preset_d167 (t := 174) rfl (fun q167 => ?_) rfl (fun q167 => ?_)
    · replace h := ed_pos q167 h
      refine iq_iconst hS 175 J_MScriptRows_preset_d174 (v := 0) (by decide +kernel) rfl ?_
      exact iq_iret J_MScriptRows_preset_d175 rfl rfl ⟨_, rfl, rfl, ed_some h⟩
    · replace h := ed_neg q167 h
      refine iq_iconst hS 171 J_MScriptRows_preset_d170 (v := 1) (by decide +kernel) rfl ?_
      refine iq_goto hS J_MScriptRows_preset_d171 (t := 175) rfl ?_
      exact iq_iret J_MScriptRows_preset_d175 rfl rfl ⟨_, rfl, rfl, ed_some h⟩
  replace h := ed_neg q1_71 h
  by_cases q1_80 : p0 = 80
  · replace h := ed_pos q1_80 h
    refine iq_tsw hS J_MScriptRows_preset_d1 (t := 176) (sw_v q1_80 (by decide +kernel)) ?_
    refine iq_bipush hS 178 J_MScriptRows_preset_d176 (v := 8) (by decide +kernel) rfl ?_
    exact iq_iret J_MScriptRows_preset_d178 rfl rfl ⟨_, rfl, rfl, ed_some h⟩
  replace h := ed_neg q1_80 h
  by_cases q1_81 : p0 = 81
  · replace h := ed_pos q1_81 h
    refine iq_tsw hS J_MScriptRows_preset_d1 (t := 137) (sw_v q1_81 (by decide +kernel)) ?_
    refine iq_iload_n hS 138 J_MScriptRows_preset_d137 l2 rfl ?_
    refine iq_if_ne hS 141 J_MScriptRows_preset_d138 (t := 145) rfl (fun q138 => ?_) rfl (fun q138 => ?_)
    · replace h := ed_pos q138 h
      refine iq_iload_n hS 146 J_MScriptRows_preset_d145 l2 rfl ?_
      refine iq_iconst hS 147 J_MScriptRows_preset_d146 (v := 1) (by decide +kernel) rfl ?_
      refine iq_icmp_ne hS 150 J_MScriptRows_preset_d147 (t := 154) rfl (fun q147 => ?_) rfl (fun q147 => ?_)
      · replace h := ed_pos q147 h
        refine iq_iload_n hS 155 J_MScriptRows_preset_d154 l2 rfl ?_
        refine iq_iconst hS 156 J_MScriptRows_preset_d155 (v := 2) (by decide +kernel) rfl ?_
        refine iq_icmp_ne hS 159 J_MScriptRows_preset_d156 (t := 163) rfl (fun q156 => ?_) rfl (fun q156 => ?_)
        · replace h := ed_pos q156 h
          refine iq_iconst hS 164 J_MScriptRows_preset_d163 (v := 0) (by decide +kernel) rfl ?_
          exact iq_iret J_MScriptRows_preset_d164 rfl rfl ⟨_, rfl, rfl, ed_some h⟩
        · replace h := ed_neg q156 h
          refine iq_iconst hS 160 J_MScriptRows_preset_d159 (v := (-1)) (by decide +kernel) rfl ?_
          refine iq_goto hS J_MScriptRows_preset_d160 (t := 164) rfl ?_
          exact iq_iret J_MScriptRows_preset_d164 rfl rfl ⟨_, rfl, rfl, ed_some h⟩
      · replace h := ed_neg q147 h
        refine iq_iconst hS 151 J_MScriptRows_preset_d150 (v := 1) (by decide +kernel) rfl ?_
        refine iq_goto hS J_MScriptRows_preset_d151 (t := 164) rfl ?_
        exact iq_iret J_MScriptRows_preset_d164 rfl rfl ⟨_, rfl, rfl, ed_some h⟩
    · replace h := ed_neg q138 h
      refine iq_iconst hS 142 J_MScriptRows_preset_d141 (v := 2) (by decide +kernel) rfl ?_
      refine iq_goto hS J_MScriptRows_preset_d142 (t := 164) rfl ?_
      exact iq_iret J_MScriptRows_preset_d164 rfl rfl ⟨_, rfl, rfl, ed_some h⟩
  replace h := ed_neg q1_81 h
  by_cases q1_84 : p0 = 84
  · replace h := ed_pos q1_84 h
    refine iq_tsw hS J_MScriptRows_preset_d1 (t := 110) (sw_v q1_84 (by decide +kernel)) ?_
    refine iq_aload_n hS 111 J_MScriptRows_preset_d110 l0 rfl ?_
    refine iq_getR hS 114 J_MScriptRows_preset_d111 lf_15_38 (Or.inr ⟨_, rfl⟩) (ka_71 hM) (ra_71_24 hM) rfl ?_
    refine iq_iload_n hS 115 J_MScriptRows_preset_d114 l2 rfl ?_
    obtain ⟨g115, h⟩ := ed_gd h
    refine iq_iaload hS 116 J_MScriptRows_preset_d115 ⟨(ka_80 hM).1, (ka_80 hM).2, g115.1, ix_lt (kl_80 hM) g115.2⟩ rfl ?_
    exact iq_iret J_MScriptRows_preset_d116 rfl rfl ⟨_, rfl, rfl, ed_some h⟩
  replace h := ed_neg q1_84 h
  refine iq_tsw hS J_MScriptRows_preset_d1 (t := 179) (sw_d [66, 78, 67, 70, 73, 68, 71, 80, 81, 84] (by decide) (by decide) (by decide +kernel) (sw_nc (fun z => q1_66 (Or.inl z)) (sw_nc (fun z => q1_66 (Or.inr z)) (sw_nc (fun z => q1_67 (Or.inl z)) (sw_nc (fun z => q1_67 (Or.inr (Or.inl z))) (sw_nc (fun z => q1_67 (Or.inr (Or.inr z))) (sw_nc q1_68 (sw_nc q1_71 (sw_nc q1_80 (sw_nc q1_81 (sw_nc q1_84 sw_nn))))))))))) ?_
  refine iq_iconst hS 180 J_MScriptRows_preset_d179 (v := 0) (by decide +kernel) rfl ?_
  exact iq_iret J_MScriptRows_preset_d180 rfl rfl ⟨_, rfl, rfl, ed_some h⟩
noncomputable def f_MScriptRows_isDigit (p0 : Int32) (M : im_M) : Option (Int32) := if p0 < 48 then some 0 else if 57 < p0 then some 0 else some 1
theorem J_MScriptRows_isDigit_d0 : decode J_MScriptRows_isDigit.2.1 0 = .ok (.iload_n 0, 1) := by decide +kernel
theorem J_MScriptRows_isDigit_d1 : decode J_MScriptRows_isDigit.2.1 1 = .ok (.bipush 48, 2) := by decide +kernel
theorem J_MScriptRows_isDigit_d3 : decode J_MScriptRows_isDigit.2.1 3 = .ok (.if_icmp .lt 13, 3) := by decide +kernel
theorem J_MScriptRows_isDigit_d6 : decode J_MScriptRows_isDigit.2.1 6 = .ok (.iload_n 0, 1) := by decide +kernel
theorem J_MScriptRows_isDigit_d7 : decode J_MScriptRows_isDigit.2.1 7 = .ok (.bipush 57, 2) := by decide +kernel
theorem J_MScriptRows_isDigit_d9 : decode J_MScriptRows_isDigit.2.1 9 = .ok (.if_icmp .gt 7, 3) := by decide +kernel
theorem J_MScriptRows_isDigit_d12 : decode J_MScriptRows_isDigit.2.1 12 = .ok (.iconst 1, 1) := by decide +kernel
theorem J_MScriptRows_isDigit_d13 : decode J_MScriptRows_isDigit.2.1 13 = .ok (.goto 4, 3) := by decide +kernel
theorem J_MScriptRows_isDigit_d16 : decode J_MScriptRows_isDigit.2.1 16 = .ok (.iconst 0, 1) := by decide +kernel
theorem J_MScriptRows_isDigit_d17 : decode J_MScriptRows_isDigit.2.1 17 = .ok (.ireturn, 1) := by decide +kernel
theorem f_MScriptRows_isDigit_ok {L : Nat} {xs : Nat → Int32} {dep : Nat} {w : Bool} {p0 : Int32} {M : im_M} {Q : Int32 → Prop} (hM : lw_S w M) (h : ed (f_MScriptRows_isDigit p0 M) Q) : ia (tb_G L xs) dep J_MScriptRows_isDigit (rpI M Q) (0, lv_args 0 [.int p0], [], M) := by
  have hS : im_St (tb_G L xs) dep J_MScriptRows_isDigit (ia (tb_G L xs) dep J_MScriptRows_isDigit (rpI M Q)) := ia_St
  unfold f_MScriptRows_isDigit at h
  have l0 : im_lk (lv_args 0 [.int p0]) 0 = some (.int p0) := rfl
  refine iq_iload_n hS 1 J_MScriptRows_isDigit_d0 l0 rfl ?_
  refine iq_bipush hS 3 J_MScriptRows_isDigit_d1 (v := 48) (by decide +kernel) rfl ?_
  refine iq_icmp_lt hS 6 J_MScriptRows_isDigit_d3 (t := 16) rfl (fun q3 => ?_) rfl (fun q3 => ?_)
  · replace h := ed_pos q3 h
    refine iq_iconst hS 17 J_MScriptRows_isDigit_d16 (v := 0) (by decide +kernel) rfl ?_
    exact iq_iret J_MScriptRows_isDigit_d17 rfl rfl ⟨_, rfl, rfl, ed_some h⟩
  · replace h := ed_neg q3 h
    refine iq_iload_n hS 7 J_MScriptRows_isDigit_d6 l0 rfl ?_
    refine iq_bipush hS 9 J_MScriptRows_isDigit_d7 (v := 57) (by decide +kernel) rfl ?_
    refine iq_icmp_gt hS 12 J_MScriptRows_isDigit_d9 (t := 16) rfl (fun q9 => ?_) rfl (fun q9 => ?_)
    · replace h := ed_pos q9 h
      refine iq_iconst hS 17 J_MScriptRows_isDigit_d16 (v := 0) (by decide +kernel) rfl ?_
      exact iq_iret J_MScriptRows_isDigit_d17 rfl rfl ⟨_, rfl, rfl, ed_some h⟩
    · replace h := ed_neg q9 h
      refine iq_iconst hS 13 J_MScriptRows_isDigit_d12 (v := 1) (by decide +kernel) rfl ?_
      refine iq_goto hS J_MScriptRows_isDigit_d13 (t := 17) rfl ?_
      exact iq_iret J_MScriptRows_isDigit_d17 rfl rfl ⟨_, rfl, rfl, ed_some h⟩
noncomputable def f_MScriptRows_takeNumbers_L7 (v3 : Int32) (v4 : Int32) (x5 : Int32) (M6 : im_M) : Option ((Int32 × im_M) ⊕ (im_M)) := if v4 ≤ x5 then some (.inr M6) else bd1 (f_MScriptRows_preset v3 x5 M6) fun (x7 : Int32) => gd (inb x5 4) <| some (.inl ((x5 + 1), (im_setI M6 78 (Int32.toNatClampNeg x5) x7)))
noncomputable def f_MScriptRows_takeNumbers_L81 (v27 : Int32) (v28 : Int32) (v29 : Int32) (v30 : Int32) (x31 : Int32) (x32 : Int32) (M33 : im_M) : Option ((Int32 × Int32 × im_M) ⊕ (Int32 × Int32 × im_M)) := bd1 (f_MScriptRows_peek M33) fun (x34 : Int32) => bd1 (f_MScriptRows_isDigit x34 M33) fun (x35 : Int32) => if x35 = 0 then some (.inr (x31, x32, M33)) else if 6 ≤ x31 then some (.inr (x31, x32, M33)) else bd2 (f_MScriptRows_next M33) fun (x36 : Int32) (M36 : im_M) => some (.inl ((x31 + 1), ((((10 : Int32) * x32) + x36) - 48), M36))
noncomputable def f_MScriptRows_takeNumbers_L32 (v10 : Int32) (v11 : Int32) (x12 : Int32) (M13 : im_M) : Option ((Int32 × im_M) ⊕ ((im_M) ⊕ (Int32 × im_M))) := if v11 ≤ x12 then some (.inr (.inl M13)) else bd1 (f_MScriptRows_peek M13) fun (x14 : Int32) => jn1 (fun (M20 : im_M) => bd3 (lp (uc3 (f_MScriptRows_takeNumbers_L81 v10 v11 x12 ((if ¬ x14 = 45 then 0 else 1) : Int32))) (0, 0, M20)) fun (y37 : Int32) (y38 : Int32) (M39 : im_M) => if y37 ≤ 5 then bd1 (if y37 ≤ 0 then some M39 else gd (inb x12 4) <| some (im_setI M39 78 (Int32.toNatClampNeg x12) ((if ((if ¬ x14 = 45 then 0 else 1) : Int32) = 0 then y38 else (-y38)) : Int32))) fun (M42 : im_M) => if ¬ v10 = 75 then bd1 (f_MScriptRows_peek M42) fun (x47 : Int32) => if x47 = 44 then bd2 (f_MScriptRows_next M42) fun (x48 : Int32) (M48 : im_M) => if ¬ x12 = (v11 - 1) then some (.inl ((x12 + 1), M48)) else some (.inr (.inr (4, M48))) else some (.inr (.inr (0, M42))) else bd2 (f_MScriptRows_next M42) fun (x49 : Int32) (M49 : im_M) => if ¬ x49 = 44 then some (.inr (.inr (4, M49))) else some (.inr (.inr (0, M49))) else some (.inr (.inr (4, M39)))) fun k16 => if ((if ¬ x14 = 45 then 0 else 1) : Int32) = 0 then k16 M13 else bd2 (f_MScriptRows_next M13) fun (x17 : Int32) (M17 : im_M) => bd1 (f_MScriptRows_peek M17) fun (x18 : Int32) => bd1 (f_MScriptRows_isDigit x18 M17) fun (x19 : Int32) => if ¬ x19 = 0 then k16 M17 else some (.inr (.inr (4, M17)))
noncomputable def f_MScriptRows_takeNumbers (p0 : Int32) (M : im_M) : Option (Int32 × im_M) := bd1 (f_MScriptRows_numbers p0 M) fun (x1 : Int32) => bd1 (lp (uc2 (f_MScriptRows_takeNumbers_L7 p0 x1)) (0, M)) fun (M8 : im_M) => bs1 (lp (uc2 (f_MScriptRows_takeNumbers_L32 p0 x1)) (0, M8)) (fun (M50 : im_M) => some (0, M50)) (fun t => some t)
theorem J_MScriptRows_takeNumbers_d0 : decode J_MScriptRows_takeNumbers.2.1 0 = .ok (.iload_n 1, 1) := by decide +kernel
theorem J_MScriptRows_takeNumbers_d1 : decode J_MScriptRows_takeNumbers.2.1 1 = .ok (.invokestatic 88, 3) := by decide +kernel
theorem J_MScriptRows_takeNumbers_d4 : decode J_MScriptRows_takeNumbers.2.1 4 = .ok (.istore_n 2, 1) := by decide +kernel
theorem J_MScriptRows_takeNumbers_d5 : decode J_MScriptRows_takeNumbers.2.1 5 = .ok (.iconst 0, 1) := by decide +kernel
theorem J_MScriptRows_takeNumbers_d6 : decode J_MScriptRows_takeNumbers.2.1 6 = .ok (.istore_n 3, 1) := by decide +kernel
theorem J_MScriptRows_takeNumbers_d7 : decode J_MScriptRows_takeNumbers.2.1 7 = .ok (.iload_n 3, 1) := by decide +kernel
theorem J_MScriptRows_takeNumbers_d8 : decode J_MScriptRows_takeNumbers.2.1 8 = .ok (.iload_n 2, 1) := by decide +kernel
theorem J_MScriptRows_takeNumbers_d9 : decode J_MScriptRows_takeNumbers.2.1 9 = .ok (.if_icmp .ge 21, 3) := by decide +kernel
theorem J_MScriptRows_takeNumbers_d12 : decode J_MScriptRows_takeNumbers.2.1 12 = .ok (.aload_n 0, 1) := by decide +kernel
theorem J_MScriptRows_takeNumbers_d13 : decode J_MScriptRows_takeNumbers.2.1 13 = .ok (.getfield 32, 3) := by decide +kernel
theorem J_MScriptRows_takeNumbers_d16 : decode J_MScriptRows_takeNumbers.2.1 16 = .ok (.iload_n 3, 1) := by decide +kernel
theorem J_MScriptRows_takeNumbers_d17 : decode J_MScriptRows_takeNumbers.2.1 17 = .ok (.aload_n 0, 1) := by decide +kernel
theorem J_MScriptRows_takeNumbers_d18 : decode J_MScriptRows_takeNumbers.2.1 18 = .ok (.iload_n 1, 1) := by decide +kernel
theorem J_MScriptRows_takeNumbers_d19 : decode J_MScriptRows_takeNumbers.2.1 19 = .ok (.iload_n 3, 1) := by decide +kernel
theorem J_MScriptRows_takeNumbers_d20 : decode J_MScriptRows_takeNumbers.2.1 20 = .ok (.invokevirtual 92, 3) := by decide +kernel
theorem J_MScriptRows_takeNumbers_d23 : decode J_MScriptRows_takeNumbers.2.1 23 = .ok (.iastore, 1) := by decide +kernel
theorem J_MScriptRows_takeNumbers_d24 : decode J_MScriptRows_takeNumbers.2.1 24 = .ok (.iinc 3 1, 3) := by decide +kernel
theorem J_MScriptRows_takeNumbers_d27 : decode J_MScriptRows_takeNumbers.2.1 27 = .ok (.goto (-20), 3) := by decide +kernel
theorem J_MScriptRows_takeNumbers_d30 : decode J_MScriptRows_takeNumbers.2.1 30 = .ok (.iconst 0, 1) := by decide +kernel
theorem J_MScriptRows_takeNumbers_d31 : decode J_MScriptRows_takeNumbers.2.1 31 = .ok (.istore_n 3, 1) := by decide +kernel
theorem J_MScriptRows_takeNumbers_d32 : decode J_MScriptRows_takeNumbers.2.1 32 = .ok (.iload_n 3, 1) := by decide +kernel
theorem J_MScriptRows_takeNumbers_d33 : decode J_MScriptRows_takeNumbers.2.1 33 = .ok (.iload_n 2, 1) := by decide +kernel
theorem J_MScriptRows_takeNumbers_d34 : decode J_MScriptRows_takeNumbers.2.1 34 = .ok (.if_icmp .ge 169, 3) := by decide +kernel
theorem J_MScriptRows_takeNumbers_d37 : decode J_MScriptRows_takeNumbers.2.1 37 = .ok (.aload_n 0, 1) := by decide +kernel
theorem J_MScriptRows_takeNumbers_d38 : decode J_MScriptRows_takeNumbers.2.1 38 = .ok (.invokevirtual 76, 3) := by decide +kernel
theorem J_MScriptRows_takeNumbers_d41 : decode J_MScriptRows_takeNumbers.2.1 41 = .ok (.bipush 45, 2) := by decide +kernel
theorem J_MScriptRows_takeNumbers_d43 : decode J_MScriptRows_takeNumbers.2.1 43 = .ok (.if_icmp .ne 7, 3) := by decide +kernel
theorem J_MScriptRows_takeNumbers_d46 : decode J_MScriptRows_takeNumbers.2.1 46 = .ok (.iconst 1, 1) := by decide +kernel
theorem J_MScriptRows_takeNumbers_d47 : decode J_MScriptRows_takeNumbers.2.1 47 = .ok (.goto 4, 3) := by decide +kernel
theorem J_MScriptRows_takeNumbers_d50 : decode J_MScriptRows_takeNumbers.2.1 50 = .ok (.iconst 0, 1) := by decide +kernel
theorem J_MScriptRows_takeNumbers_d51 : decode J_MScriptRows_takeNumbers.2.1 51 = .ok (.istore 4, 2) := by decide +kernel
theorem J_MScriptRows_takeNumbers_d53 : decode J_MScriptRows_takeNumbers.2.1 53 = .ok (.iload 4, 2) := by decide +kernel
theorem J_MScriptRows_takeNumbers_d55 : decode J_MScriptRows_takeNumbers.2.1 55 = .ok (.ifCond .eq 20, 3) := by decide +kernel
theorem J_MScriptRows_takeNumbers_d58 : decode J_MScriptRows_takeNumbers.2.1 58 = .ok (.aload_n 0, 1) := by decide +kernel
theorem J_MScriptRows_takeNumbers_d59 : decode J_MScriptRows_takeNumbers.2.1 59 = .ok (.invokevirtual 95, 3) := by decide +kernel
theorem J_MScriptRows_takeNumbers_d62 : decode J_MScriptRows_takeNumbers.2.1 62 = .ok (.pop, 1) := by decide +kernel
theorem J_MScriptRows_takeNumbers_d63 : decode J_MScriptRows_takeNumbers.2.1 63 = .ok (.aload_n 0, 1) := by decide +kernel
theorem J_MScriptRows_takeNumbers_d64 : decode J_MScriptRows_takeNumbers.2.1 64 = .ok (.invokevirtual 76, 3) := by decide +kernel
theorem J_MScriptRows_takeNumbers_d67 : decode J_MScriptRows_takeNumbers.2.1 67 = .ok (.invokestatic 80, 3) := by decide +kernel
theorem J_MScriptRows_takeNumbers_d70 : decode J_MScriptRows_takeNumbers.2.1 70 = .ok (.ifCond .ne 5, 3) := by decide +kernel
theorem J_MScriptRows_takeNumbers_d73 : decode J_MScriptRows_takeNumbers.2.1 73 = .ok (.iconst 4, 1) := by decide +kernel
theorem J_MScriptRows_takeNumbers_d74 : decode J_MScriptRows_takeNumbers.2.1 74 = .ok (.ireturn, 1) := by decide +kernel
theorem J_MScriptRows_takeNumbers_d75 : decode J_MScriptRows_takeNumbers.2.1 75 = .ok (.iconst 0, 1) := by decide +kernel
theorem J_MScriptRows_takeNumbers_d76 : decode J_MScriptRows_takeNumbers.2.1 76 = .ok (.istore 5, 2) := by decide +kernel
theorem J_MScriptRows_takeNumbers_d78 : decode J_MScriptRows_takeNumbers.2.1 78 = .ok (.iconst 0, 1) := by decide +kernel
theorem J_MScriptRows_takeNumbers_d79 : decode J_MScriptRows_takeNumbers.2.1 79 = .ok (.istore 6, 2) := by decide +kernel
theorem J_MScriptRows_takeNumbers_d81 : decode J_MScriptRows_takeNumbers.2.1 81 = .ok (.aload_n 0, 1) := by decide +kernel
theorem J_MScriptRows_takeNumbers_d82 : decode J_MScriptRows_takeNumbers.2.1 82 = .ok (.invokevirtual 76, 3) := by decide +kernel
theorem J_MScriptRows_takeNumbers_d85 : decode J_MScriptRows_takeNumbers.2.1 85 = .ok (.invokestatic 80, 3) := by decide +kernel
theorem J_MScriptRows_takeNumbers_d88 : decode J_MScriptRows_takeNumbers.2.1 88 = .ok (.ifCond .eq 31, 3) := by decide +kernel
theorem J_MScriptRows_takeNumbers_d91 : decode J_MScriptRows_takeNumbers.2.1 91 = .ok (.iload 5, 2) := by decide +kernel
theorem J_MScriptRows_takeNumbers_d93 : decode J_MScriptRows_takeNumbers.2.1 93 = .ok (.bipush 6, 2) := by decide +kernel
theorem J_MScriptRows_takeNumbers_d95 : decode J_MScriptRows_takeNumbers.2.1 95 = .ok (.if_icmp .ge 24, 3) := by decide +kernel
theorem J_MScriptRows_takeNumbers_d98 : decode J_MScriptRows_takeNumbers.2.1 98 = .ok (.bipush 10, 2) := by decide +kernel
theorem J_MScriptRows_takeNumbers_d100 : decode J_MScriptRows_takeNumbers.2.1 100 = .ok (.iload 6, 2) := by decide +kernel
theorem J_MScriptRows_takeNumbers_d102 : decode J_MScriptRows_takeNumbers.2.1 102 = .ok (.imul, 1) := by decide +kernel
theorem J_MScriptRows_takeNumbers_d103 : decode J_MScriptRows_takeNumbers.2.1 103 = .ok (.aload_n 0, 1) := by decide +kernel
theorem J_MScriptRows_takeNumbers_d104 : decode J_MScriptRows_takeNumbers.2.1 104 = .ok (.invokevirtual 95, 3) := by decide +kernel
theorem J_MScriptRows_takeNumbers_d107 : decode J_MScriptRows_takeNumbers.2.1 107 = .ok (.iadd, 1) := by decide +kernel
theorem J_MScriptRows_takeNumbers_d108 : decode J_MScriptRows_takeNumbers.2.1 108 = .ok (.bipush 48, 2) := by decide +kernel
theorem J_MScriptRows_takeNumbers_d110 : decode J_MScriptRows_takeNumbers.2.1 110 = .ok (.isub, 1) := by decide +kernel
theorem J_MScriptRows_takeNumbers_d111 : decode J_MScriptRows_takeNumbers.2.1 111 = .ok (.istore 6, 2) := by decide +kernel
theorem J_MScriptRows_takeNumbers_d113 : decode J_MScriptRows_takeNumbers.2.1 113 = .ok (.iinc 5 1, 3) := by decide +kernel
theorem J_MScriptRows_takeNumbers_d116 : decode J_MScriptRows_takeNumbers.2.1 116 = .ok (.goto (-35), 3) := by decide +kernel
theorem J_MScriptRows_takeNumbers_d119 : decode J_MScriptRows_takeNumbers.2.1 119 = .ok (.iload 5, 2) := by decide +kernel
theorem J_MScriptRows_takeNumbers_d121 : decode J_MScriptRows_takeNumbers.2.1 121 = .ok (.iconst 5, 1) := by decide +kernel
theorem J_MScriptRows_takeNumbers_d122 : decode J_MScriptRows_takeNumbers.2.1 122 = .ok (.if_icmp .le 5, 3) := by decide +kernel
theorem J_MScriptRows_takeNumbers_d125 : decode J_MScriptRows_takeNumbers.2.1 125 = .ok (.iconst 4, 1) := by decide +kernel
theorem J_MScriptRows_takeNumbers_d126 : decode J_MScriptRows_takeNumbers.2.1 126 = .ok (.ireturn, 1) := by decide +kernel
theorem J_MScriptRows_takeNumbers_d127 : decode J_MScriptRows_takeNumbers.2.1 127 = .ok (.iload 5, 2) := by decide +kernel
theorem J_MScriptRows_takeNumbers_d129 : decode J_MScriptRows_takeNumbers.2.1 129 = .ok (.ifCond .le 22, 3) := by decide +kernel
theorem J_MScriptRows_takeNumbers_d132 : decode J_MScriptRows_takeNumbers.2.1 132 = .ok (.aload_n 0, 1) := by decide +kernel
theorem J_MScriptRows_takeNumbers_d133 : decode J_MScriptRows_takeNumbers.2.1 133 = .ok (.getfield 32, 3) := by decide +kernel
theorem J_MScriptRows_takeNumbers_d136 : decode J_MScriptRows_takeNumbers.2.1 136 = .ok (.iload_n 3, 1) := by decide +kernel
theorem J_MScriptRows_takeNumbers_d137 : decode J_MScriptRows_takeNumbers.2.1 137 = .ok (.iload 4, 2) := by decide +kernel
theorem J_MScriptRows_takeNumbers_d139 : decode J_MScriptRows_takeNumbers.2.1 139 = .ok (.ifCond .eq 9, 3) := by decide +kernel
theorem J_MScriptRows_takeNumbers_d142 : decode J_MScriptRows_takeNumbers.2.1 142 = .ok (.iload 6, 2) := by decide +kernel
theorem J_MScriptRows_takeNumbers_d144 : decode J_MScriptRows_takeNumbers.2.1 144 = .ok (.ineg, 1) := by decide +kernel
theorem J_MScriptRows_takeNumbers_d145 : decode J_MScriptRows_takeNumbers.2.1 145 = .ok (.goto 5, 3) := by decide +kernel
theorem J_MScriptRows_takeNumbers_d148 : decode J_MScriptRows_takeNumbers.2.1 148 = .ok (.iload 6, 2) := by decide +kernel
theorem J_MScriptRows_takeNumbers_d150 : decode J_MScriptRows_takeNumbers.2.1 150 = .ok (.iastore, 1) := by decide +kernel
theorem J_MScriptRows_takeNumbers_d151 : decode J_MScriptRows_takeNumbers.2.1 151 = .ok (.iload_n 1, 1) := by decide +kernel
theorem J_MScriptRows_takeNumbers_d152 : decode J_MScriptRows_takeNumbers.2.1 152 = .ok (.bipush 75, 2) := by decide +kernel
theorem J_MScriptRows_takeNumbers_d154 : decode J_MScriptRows_takeNumbers.2.1 154 = .ok (.if_icmp .ne 18, 3) := by decide +kernel
theorem J_MScriptRows_takeNumbers_d157 : decode J_MScriptRows_takeNumbers.2.1 157 = .ok (.aload_n 0, 1) := by decide +kernel
theorem J_MScriptRows_takeNumbers_d158 : decode J_MScriptRows_takeNumbers.2.1 158 = .ok (.invokevirtual 95, 3) := by decide +kernel
theorem J_MScriptRows_takeNumbers_d161 : decode J_MScriptRows_takeNumbers.2.1 161 = .ok (.bipush 44, 2) := by decide +kernel
theorem J_MScriptRows_takeNumbers_d163 : decode J_MScriptRows_takeNumbers.2.1 163 = .ok (.if_icmp .ne 7, 3) := by decide +kernel
theorem J_MScriptRows_takeNumbers_d166 : decode J_MScriptRows_takeNumbers.2.1 166 = .ok (.iconst 0, 1) := by decide +kernel
theorem J_MScriptRows_takeNumbers_d167 : decode J_MScriptRows_takeNumbers.2.1 167 = .ok (.goto 4, 3) := by decide +kernel
theorem J_MScriptRows_takeNumbers_d170 : decode J_MScriptRows_takeNumbers.2.1 170 = .ok (.iconst 4, 1) := by decide +kernel
theorem J_MScriptRows_takeNumbers_d171 : decode J_MScriptRows_takeNumbers.2.1 171 = .ok (.ireturn, 1) := by decide +kernel
theorem J_MScriptRows_takeNumbers_d172 : decode J_MScriptRows_takeNumbers.2.1 172 = .ok (.aload_n 0, 1) := by decide +kernel
theorem J_MScriptRows_takeNumbers_d173 : decode J_MScriptRows_takeNumbers.2.1 173 = .ok (.invokevirtual 76, 3) := by decide +kernel
theorem J_MScriptRows_takeNumbers_d176 : decode J_MScriptRows_takeNumbers.2.1 176 = .ok (.bipush 44, 2) := by decide +kernel
theorem J_MScriptRows_takeNumbers_d178 : decode J_MScriptRows_takeNumbers.2.1 178 = .ok (.if_icmp .eq 5, 3) := by decide +kernel
theorem J_MScriptRows_takeNumbers_d181 : decode J_MScriptRows_takeNumbers.2.1 181 = .ok (.iconst 0, 1) := by decide +kernel
theorem J_MScriptRows_takeNumbers_d182 : decode J_MScriptRows_takeNumbers.2.1 182 = .ok (.ireturn, 1) := by decide +kernel
theorem J_MScriptRows_takeNumbers_d183 : decode J_MScriptRows_takeNumbers.2.1 183 = .ok (.aload_n 0, 1) := by decide +kernel
theorem J_MScriptRows_takeNumbers_d184 : decode J_MScriptRows_takeNumbers.2.1 184 = .ok (.invokevirtual 95, 3) := by decide +kernel
theorem J_MScriptRows_takeNumbers_d187 : decode J_MScriptRows_takeNumbers.2.1 187 = .ok (.pop, 1) := by decide +kernel
theorem J_MScriptRows_takeNumbers_d188 : decode J_MScriptRows_takeNumbers.2.1 188 = .ok (.iload_n 3, 1) := by decide +kernel
theorem J_MScriptRows_takeNumbers_d189 : decode J_MScriptRows_takeNumbers.2.1 189 = .ok (.iload_n 2, 1) := by decide +kernel
theorem J_MScriptRows_takeNumbers_d190 : decode J_MScriptRows_takeNumbers.2.1 190 = .ok (.iconst 1, 1) := by decide +kernel
theorem J_MScriptRows_takeNumbers_d191 : decode J_MScriptRows_takeNumbers.2.1 191 = .ok (.isub, 1) := by decide +kernel
theorem J_MScriptRows_takeNumbers_d192 : decode J_MScriptRows_takeNumbers.2.1 192 = .ok (.if_icmp .ne 5, 3) := by decide +kernel
theorem J_MScriptRows_takeNumbers_d195 : decode J_MScriptRows_takeNumbers.2.1 195 = .ok (.iconst 4, 1) := by decide +kernel
theorem J_MScriptRows_takeNumbers_d196 : decode J_MScriptRows_takeNumbers.2.1 196 = .ok (.ireturn, 1) := by decide +kernel
theorem J_MScriptRows_takeNumbers_d197 : decode J_MScriptRows_takeNumbers.2.1 197 = .ok (.iinc 3 1, 3) := by decide +kernel
theorem J_MScriptRows_takeNumbers_d200 : decode J_MScriptRows_takeNumbers.2.1 200 = .ok (.goto (-168), 3) := by decide +kernel
theorem J_MScriptRows_takeNumbers_d203 : decode J_MScriptRows_takeNumbers.2.1 203 = .ok (.iconst 0, 1) := by decide +kernel
theorem J_MScriptRows_takeNumbers_d204 : decode J_MScriptRows_takeNumbers.2.1 204 = .ok (.ireturn, 1) := by decide +kernel
theorem f_MScriptRows_takeNumbers_ok {L : Nat} {xs : Nat → Int32} {dep : Nat} {w : Bool} {p0 : Int32} {M : im_M} {Q : Int32 × im_M → Prop} (hM : lw_S w M) (h : ed (f_MScriptRows_takeNumbers p0 M) Q) : ia (tb_G L xs) (dep + 2) J_MScriptRows_takeNumbers (rwI w Q) (0, lv_args 0 [.ref 71, .int p0], [], M) := by
  have hS : im_St (tb_G L xs) (dep + 2) J_MScriptRows_takeNumbers (ia (tb_G L xs) (dep + 2) J_MScriptRows_takeNumbers (rwI w Q)) := ia_St
  unfold f_MScriptRows_takeNumbers at h
  have l0 : im_lk (lv_args 0 [.ref 71, .int p0]) 0 = some (.ref 71) := rfl
  have l1 : im_lk (lv_args 0 [.ref 71, .int p0]) 1 = some (.int p0) := rfl
  refine iq_iload_n hS 1 J_MScriptRows_takeNumbers_d0 l1 rfl ?_
  obtain ⟨Q1, hQ1, h⟩ := bd1_ed h
  refine iq_cpI hS 4 J_MScriptRows_takeNumbers_d1 rfl (pr_stat (vs := [_]) lc_15_88 lT_285 rfl rfl (by decide) rfl (Nat.le_of_ble_eq_true rfl) (Nat.le_of_ble_eq_true rfl)) (f_MScriptRows_numbers_ok (dep := dep + 1) hM h) rfl ?_
  intro x1 h
  replace h := hQ1 _ h
  refine iq_istore_n hS 5 J_MScriptRows_takeNumbers_d4 (by decide) rfl ?_
  refine iq_iconst hS 6 J_MScriptRows_takeNumbers_d5 (v := 0) (by decide +kernel) rfl ?_
  refine iq_istore_n hS 7 J_MScriptRows_takeNumbers_d6 (by decide) rfl ?_
  obtain ⟨Q2, hQ2, h⟩ := bd1_ed h
  have K2 : ∀ (M3 : im_M) (L' : List (Nat × Value)), lw_S w M3 → im_lk L' 0 = some (.ref 71) → im_lk L' 1 = some (.int p0) → im_lk L' 2 = some (.int x1) → Q2 M3 → ia (tb_G L xs) (dep + 2) J_MScriptRows_takeNumbers (rwI w Q) (30, L', [], M3) := by
    intro M3 L' hM3 l4 l5 l6 h
    replace h := hQ2 _ h
    refine iq_iconst hS 31 J_MScriptRows_takeNumbers_d30 (v := 0) (by decide +kernel) rfl ?_
    refine iq_istore_n hS 32 J_MScriptRows_takeNumbers_d31 (by decide) rfl ?_
    obtain ⟨Q7, hQ7, hR7, h⟩ := bs1_ed h
    have K7 : ∀ (M8 : im_M) (L' : List (Nat × Value)), lw_S w M8 → Q7 (.inl M8) → ia (tb_G L xs) (dep + 2) J_MScriptRows_takeNumbers (rwI w Q) (203, L', [], M8) := by
      intro M8 L' hM8  h
      replace h := hQ7 _ h
      refine iq_iconst hS 204 J_MScriptRows_takeNumbers_d203 (v := 0) (by decide +kernel) rfl ?_
      exact iq_iret J_MScriptRows_takeNumbers_d204 rfl rfl ⟨_, rfl, hM8, ed_some h⟩
    obtain ⟨r7, hr7, hq7⟩ := h
    obtain ⟨n7, hn7⟩ := lp_n hr7
    have I7 : ∀ (n : Nat) (x9 : Int32) (M10 : im_M) (L' : List (Nat × Value)), lw_S w M10 → im_lk L' 0 = some (.ref 71) → im_lk L' 1 = some (.int p0) → im_lk L' 2 = some (.int x1) → im_lk L' 3 = some (.int x9) → lpn (uc2 (f_MScriptRows_takeNumbers_L32 p0 x1)) n (x9, M10) = some r7 → ia (tb_G L xs) (dep + 2) J_MScriptRows_takeNumbers (rwI w Q) (32, L', [], M10) := by
      intro n
      induction n with
      | zero => intro x9 M10 L' hM10 l11 l12 l13 l14 hn; exact (lpn_0 hn).elim
      | succ n ih =>
        intro x9 M10 L' hM10 l11 l12 l13 l14 hn
        have h := lpn_ed2 hn
        unfold f_MScriptRows_takeNumbers_L32 at h
        refine iq_iload_n hS 33 J_MScriptRows_takeNumbers_d32 l14 rfl ?_
        refine iq_iload_n hS 34 J_MScriptRows_takeNumbers_d33 l13 rfl ?_
        refine iq_icmp_ge hS 37 J_MScriptRows_takeNumbers_d34 (t := 203) rfl (fun q34 => ?_) rfl (fun q34 => ?_)
        · replace h := ed_pos q34 h
          exact K7 _ _ hM10  (lq_r h hq7)
        · replace h := ed_neg q34 h
          refine iq_aload_n hS 38 J_MScriptRows_takeNumbers_d37 l11 rfl ?_
          obtain ⟨Q15, hQ15, h⟩ := bd1_ed h
          refine iq_cpI hS 41 J_MScriptRows_takeNumbers_d38 rfl (pr_inst (vs := []) lc_15_76 lT_282 rfl rfl (by decide) (by decide) rfl (Nat.le_of_ble_eq_true rfl) (Nat.le_of_ble_eq_true rfl) (fun _ => Or.inl (pr_b (ka_71 hM10) (by decide) rfl))) (f_MScriptRows_peek_ok (dep := dep + 1) hM10 h) rfl ?_
          intro x15 h
          replace h := hQ15 _ h
          refine iq_bipush hS 43 J_MScriptRows_takeNumbers_d41 (v := 45) (by decide +kernel) rfl ?_
          have J16 : ∀ (z17 : Int32) (L' : List (Nat × Value)), z17 = ((if ¬ x15 = 45 then 0 else 1) : Int32) → im_lk L' 0 = some (.ref 71) → im_lk L' 1 = some (.int p0) → im_lk L' 2 = some (.int x1) → im_lk L' 3 = some (.int x9) → ia (tb_G L xs) (dep + 2) J_MScriptRows_takeNumbers (rwI w Q) (51, L', [.int z17], M10) := by
            intro z17 L' e18 l19 l20 l21 l22
            subst e18
            refine iq_istore hS 53 J_MScriptRows_takeNumbers_d51 (by decide) rfl ?_
            refine iq_iload hS 55 J_MScriptRows_takeNumbers_d53 lk_1s rfl ?_
            obtain ⟨k23, Q23, hQ23, hk23, h⟩ := jn1_ed h
            have J23 : ∀ (M27 : im_M) (L' : List (Nat × Value)), lw_S w M27 → im_lk L' 0 = some (.ref 71) → im_lk L' 1 = some (.int p0) → im_lk L' 2 = some (.int x1) → im_lk L' 3 = some (.int x9) → im_lk L' 4 = some (.int ((if ¬ x15 = 45 then 0 else 1) : Int32)) → Q23 M27 → ia (tb_G L xs) (dep + 2) J_MScriptRows_takeNumbers (rwI w Q) (75, L', [], M27) := by
              intro M27 L' hM27 l28 l29 l30 l31 l32 h
              replace h := hQ23 _ h
              refine iq_iconst hS 76 J_MScriptRows_takeNumbers_d75 (v := 0) (by decide +kernel) rfl ?_
              refine iq_istore hS 78 J_MScriptRows_takeNumbers_d76 (by decide) rfl ?_
              refine iq_iconst hS 79 J_MScriptRows_takeNumbers_d78 (v := 0) (by decide +kernel) rfl ?_
              refine iq_istore hS 81 J_MScriptRows_takeNumbers_d79 (by decide) rfl ?_
              obtain ⟨Q33, hQ33, h⟩ := bd3_ed h
              have K33 : ∀ (y34 : Int32) (y35 : Int32) (M36 : im_M) (L' : List (Nat × Value)), lw_S w M36 → im_lk L' 0 = some (.ref 71) → im_lk L' 1 = some (.int p0) → im_lk L' 2 = some (.int x1) → im_lk L' 3 = some (.int x9) → im_lk L' 4 = some (.int ((if ¬ x15 = 45 then 0 else 1) : Int32)) → im_lk L' 5 = some (.int y34) → im_lk L' 6 = some (.int y35) → Q33 (y34, y35, M36) → ia (tb_G L xs) (dep + 2) J_MScriptRows_takeNumbers (rwI w Q) (119, L', [], M36) := by
                intro y34 y35 M36 L' hM36 l37 l38 l39 l40 l41 l42 l43 h
                replace h := hQ33 _ _ _ h
                refine iq_iload hS 121 J_MScriptRows_takeNumbers_d119 l42 rfl ?_
                refine iq_iconst hS 122 J_MScriptRows_takeNumbers_d121 (v := 5) (by decide +kernel) rfl ?_
                refine iq_icmp_le hS 125 J_MScriptRows_takeNumbers_d122 (t := 127) rfl (fun q122 => ?_) rfl (fun q122 => ?_)
                · replace h := ed_pos q122 h
                  refine iq_iload hS 129 J_MScriptRows_takeNumbers_d127 l42 rfl ?_
                  obtain ⟨Q44, hQ44, h⟩ := bd1_ed h
                  have J44 : ∀ (M52 : im_M) (L' : List (Nat × Value)), lw_S w M52 → im_lk L' 0 = some (.ref 71) → im_lk L' 1 = some (.int p0) → im_lk L' 2 = some (.int x1) → im_lk L' 3 = some (.int x9) → Q44 M52 → ia (tb_G L xs) (dep + 2) J_MScriptRows_takeNumbers (rwI w Q) (151, L', [], M52) := by
                    intro M52 L' hM52 l53 l54 l55 l56 h
                    replace h := hQ44 _ h
                    refine iq_iload_n hS 152 J_MScriptRows_takeNumbers_d151 l54 rfl ?_
                    refine iq_bipush hS 154 J_MScriptRows_takeNumbers_d152 (v := 75) (by decide +kernel) rfl ?_
                    refine iq_icmp_ne hS 157 J_MScriptRows_takeNumbers_d154 (t := 172) rfl (fun q154 => ?_) rfl (fun q154 => ?_)
                    · replace h := ed_pos q154 h
                      refine iq_aload_n hS 173 J_MScriptRows_takeNumbers_d172 l53 rfl ?_
                      obtain ⟨Q57, hQ57, h⟩ := bd1_ed h
                      refine iq_cpI hS 176 J_MScriptRows_takeNumbers_d173 rfl (pr_inst (vs := []) lc_15_76 lT_282 rfl rfl (by decide) (by decide) rfl (Nat.le_of_ble_eq_true rfl) (Nat.le_of_ble_eq_true rfl) (fun _ => Or.inl (pr_b (ka_71 hM52) (by decide) rfl))) (f_MScriptRows_peek_ok (dep := dep + 1) hM52 h) rfl ?_
                      intro x57 h
                      replace h := hQ57 _ h
                      refine iq_bipush hS 178 J_MScriptRows_takeNumbers_d176 (v := 44) (by decide +kernel) rfl ?_
                      refine iq_icmp_eq hS 181 J_MScriptRows_takeNumbers_d178 (t := 183) rfl (fun q178 => ?_) rfl (fun q178 => ?_)
                      · replace h := ed_pos q178 h
                        refine iq_aload_n hS 184 J_MScriptRows_takeNumbers_d183 l53 rfl ?_
                        obtain ⟨Q58, hQ58, h⟩ := bd2_ed h
                        refine iq_cwI hS 187 J_MScriptRows_takeNumbers_d184 rfl (pr_inst (vs := []) lc_15_95 lT_283 rfl rfl (by decide) (by decide) rfl (Nat.le_of_ble_eq_true rfl) (Nat.le_of_ble_eq_true rfl) (fun _ => Or.inl (pr_b (ka_71 hM52) (by decide) rfl))) (f_MScriptRows_next_ok (dep := dep + 0) hM52 h) rfl ?_
                        intro x58 M58 hM58 h
                        replace h := hQ58 _ _ h
                        refine iq_pop hS 188 J_MScriptRows_takeNumbers_d187 rfl rfl ?_
                        refine iq_iload_n hS 189 J_MScriptRows_takeNumbers_d188 l56 rfl ?_
                        refine iq_iload_n hS 190 J_MScriptRows_takeNumbers_d189 l55 rfl ?_
                        refine iq_iconst hS 191 J_MScriptRows_takeNumbers_d190 (v := 1) (by decide +kernel) rfl ?_
                        refine iq_isub hS 192 J_MScriptRows_takeNumbers_d191 rfl ?_
                        refine iq_icmp_ne hS 195 J_MScriptRows_takeNumbers_d192 (t := 197) rfl (fun q192 => ?_) rfl (fun q192 => ?_)
                        · replace h := ed_pos q192 h
                          refine iq_iincv hS 200 J_MScriptRows_takeNumbers_d197 (c := 1) (by decide +kernel) l56 (by decide) rfl ?_
                          refine iq_goto hS J_MScriptRows_takeNumbers_d200 (t := 32) rfl ?_
                          exact ih _ _ _ hM58 (lk_1r l53 (by decide)) (lk_1i l54 (by decide)) (lk_1i l55 (by decide)) lk_1s (lq_l h)
                        · replace h := ed_neg q192 h
                          refine iq_iconst hS 196 J_MScriptRows_takeNumbers_d195 (v := 4) (by decide +kernel) rfl ?_
                          exact iq_iret J_MScriptRows_takeNumbers_d196 rfl rfl ⟨_, rfl, hM58, ed_some (hR7 _ (lq_r h hq7))⟩
                      · replace h := ed_neg q178 h
                        refine iq_iconst hS 182 J_MScriptRows_takeNumbers_d181 (v := 0) (by decide +kernel) rfl ?_
                        exact iq_iret J_MScriptRows_takeNumbers_d182 rfl rfl ⟨_, rfl, hM52, ed_some (hR7 _ (lq_r h hq7))⟩
                    · replace h := ed_neg q154 h
                      refine iq_aload_n hS 158 J_MScriptRows_takeNumbers_d157 l53 rfl ?_
                      obtain ⟨Q59, hQ59, h⟩ := bd2_ed h
                      refine iq_cwI hS 161 J_MScriptRows_takeNumbers_d158 rfl (pr_inst (vs := []) lc_15_95 lT_283 rfl rfl (by decide) (by decide) rfl (Nat.le_of_ble_eq_true rfl) (Nat.le_of_ble_eq_true rfl) (fun _ => Or.inl (pr_b (ka_71 hM52) (by decide) rfl))) (f_MScriptRows_next_ok (dep := dep + 0) hM52 h) rfl ?_
                      intro x59 M59 hM59 h
                      replace h := hQ59 _ _ h
                      refine iq_bipush hS 163 J_MScriptRows_takeNumbers_d161 (v := 44) (by decide +kernel) rfl ?_
                      refine iq_icmp_ne hS 166 J_MScriptRows_takeNumbers_d163 (t := 170) rfl (fun q163 => ?_) rfl (fun q163 => ?_)
                      · replace h := ed_pos q163 h
                        refine iq_iconst hS 171 J_MScriptRows_takeNumbers_d170 (v := 4) (by decide +kernel) rfl ?_
                        exact iq_iret J_MScriptRows_takeNumbers_d171 rfl rfl ⟨_, rfl, hM59, ed_some (hR7 _ (lq_r h hq7))⟩
                      · replace h := ed_neg q163 h
                        refine iq_iconst hS 167 J_MScriptRows_takeNumbers_d166 (v := 0) (by decide +kernel) rfl ?_
                        refine iq_goto hS J_MScriptRows_takeNumbers_d167 (t := 171) rfl ?_
                        exact iq_iret J_MScriptRows_takeNumbers_d171 rfl rfl ⟨_, rfl, hM59, ed_some (hR7 _ (lq_r h hq7))⟩
                  refine iq_if_le hS 132 J_MScriptRows_takeNumbers_d129 (t := 151) rfl (fun q129 => ?_) rfl (fun q129 => ?_)
                  · replace h := ed_pos q129 h
                    exact J44 _ _ hM36 l37 l38 l39 l40 (ed_some h)
                  · replace h := ed_neg q129 h
                    refine iq_aload_n hS 133 J_MScriptRows_takeNumbers_d132 l37 rfl ?_
                    refine iq_getR hS 136 J_MScriptRows_takeNumbers_d133 lf_15_32 (Or.inr ⟨_, rfl⟩) (ka_71 hM36) (ra_71_15 hM36) rfl ?_
                    refine iq_iload_n hS 137 J_MScriptRows_takeNumbers_d136 l40 rfl ?_
                    refine iq_iload hS 139 J_MScriptRows_takeNumbers_d137 l41 rfl ?_
                    have J45 : ∀ (z46 : Int32) (L' : List (Nat × Value)), z46 = ((if ((if ¬ x15 = 45 then 0 else 1) : Int32) = 0 then y35 else (-y35)) : Int32) → im_lk L' 0 = some (.ref 71) → im_lk L' 1 = some (.int p0) → im_lk L' 2 = some (.int x1) → im_lk L' 3 = some (.int x9) → ia (tb_G L xs) (dep + 2) J_MScriptRows_takeNumbers (rwI w Q) (150, L', [.int z46, .int x9, .ref 78], M36) := by
                      intro z46 L' e47 l48 l49 l50 l51
                      subst e47
                      obtain ⟨g150, h⟩ := ed_gd h
                      refine iq_iastore hS 151 J_MScriptRows_takeNumbers_d150 ⟨(ka_78 hM36).1, (ka_78 hM36).2, g150.1, ix_lt (kl_78 hM36) g150.2⟩ rfl ?_
                      exact J44 _ _ (lw_sI hM36) l48 l49 l50 l51 (ed_some h)
                    refine iq_if_eq hS 142 J_MScriptRows_takeNumbers_d139 (t := 148) rfl (fun q139 => ?_) rfl (fun q139 => ?_)
                    · refine iq_iload hS 150 J_MScriptRows_takeNumbers_d148 l43 rfl ?_
                      exact J45 _ _ (by simp only [if_pos q139]) l37 l38 l39 l40
                    · refine iq_iload hS 144 J_MScriptRows_takeNumbers_d142 l43 rfl ?_
                      refine iq_ineg hS 145 J_MScriptRows_takeNumbers_d144 rfl ?_
                      refine iq_goto hS J_MScriptRows_takeNumbers_d145 (t := 150) rfl ?_
                      exact J45 _ _ (by simp only [if_neg q139]) l37 l38 l39 l40
                · replace h := ed_neg q122 h
                  refine iq_iconst hS 126 J_MScriptRows_takeNumbers_d125 (v := 4) (by decide +kernel) rfl ?_
                  exact iq_iret J_MScriptRows_takeNumbers_d126 rfl rfl ⟨_, rfl, hM36, ed_some (hR7 _ (lq_r h hq7))⟩
              obtain ⟨r33, hr33, hq33⟩ := h
              obtain ⟨n33, hn33⟩ := lp_n hr33
              have I33 : ∀ (n : Nat) (x60 : Int32) (x61 : Int32) (M62 : im_M) (L' : List (Nat × Value)), lw_S w M62 → im_lk L' 0 = some (.ref 71) → im_lk L' 1 = some (.int p0) → im_lk L' 2 = some (.int x1) → im_lk L' 3 = some (.int x9) → im_lk L' 4 = some (.int ((if ¬ x15 = 45 then 0 else 1) : Int32)) → im_lk L' 5 = some (.int x60) → im_lk L' 6 = some (.int x61) → lpn (uc3 (f_MScriptRows_takeNumbers_L81 p0 x1 x9 ((if ¬ x15 = 45 then 0 else 1) : Int32))) n (x60, x61, M62) = some r33 → ia (tb_G L xs) (dep + 2) J_MScriptRows_takeNumbers (rwI w Q) (81, L', [], M62) := by
                intro n
                induction n with
                | zero => intro x60 x61 M62 L' hM62 l63 l64 l65 l66 l67 l68 l69 hn; exact (lpn_0 hn).elim
                | succ n ih =>
                  intro x60 x61 M62 L' hM62 l63 l64 l65 l66 l67 l68 l69 hn
                  have h := lpn_ed3 hn
                  unfold f_MScriptRows_takeNumbers_L81 at h
                  refine iq_aload_n hS 82 J_MScriptRows_takeNumbers_d81 l63 rfl ?_
                  obtain ⟨Q70, hQ70, h⟩ := bd1_ed h
                  refine iq_cpI hS 85 J_MScriptRows_takeNumbers_d82 rfl (pr_inst (vs := []) lc_15_76 lT_282 rfl rfl (by decide) (by decide) rfl (Nat.le_of_ble_eq_true rfl) (Nat.le_of_ble_eq_true rfl) (fun _ => Or.inl (pr_b (ka_71 hM62) (by decide) rfl))) (f_MScriptRows_peek_ok (dep := dep + 1) hM62 h) rfl ?_
                  intro x70 h
                  replace h := hQ70 _ h
                  obtain ⟨Q71, hQ71, h⟩ := bd1_ed h
                  refine iq_cpI hS 88 J_MScriptRows_takeNumbers_d85 rfl (pr_stat (vs := [_]) lc_15_80 lT_289 rfl rfl (by decide) rfl (Nat.le_of_ble_eq_true rfl) (Nat.le_of_ble_eq_true rfl)) (f_MScriptRows_isDigit_ok (dep := dep + 1) hM62 h) rfl ?_
                  intro x71 h
                  replace h := hQ71 _ h
                  refine iq_if_eq hS 91 J_MScriptRows_takeNumbers_d88 (t := 119) rfl (fun q88 => ?_) rfl (fun q88 => ?_)
                  · replace h := ed_pos q88 h
                    exact K33 _ _ _ _ hM62 l63 l64 l65 l66 l67 l68 l69 (lq_r h hq33)
                  · replace h := ed_neg q88 h
                    refine iq_iload hS 93 J_MScriptRows_takeNumbers_d91 l68 rfl ?_
                    refine iq_bipush hS 95 J_MScriptRows_takeNumbers_d93 (v := 6) (by decide +kernel) rfl ?_
                    refine iq_icmp_ge hS 98 J_MScriptRows_takeNumbers_d95 (t := 119) rfl (fun q95 => ?_) rfl (fun q95 => ?_)
                    · replace h := ed_pos q95 h
                      exact K33 _ _ _ _ hM62 l63 l64 l65 l66 l67 l68 l69 (lq_r h hq33)
                    · replace h := ed_neg q95 h
                      refine iq_bipush hS 100 J_MScriptRows_takeNumbers_d98 (v := 10) (by decide +kernel) rfl ?_
                      refine iq_iload hS 102 J_MScriptRows_takeNumbers_d100 l69 rfl ?_
                      refine iq_imul hS 103 J_MScriptRows_takeNumbers_d102 rfl ?_
                      refine iq_aload_n hS 104 J_MScriptRows_takeNumbers_d103 l63 rfl ?_
                      obtain ⟨Q72, hQ72, h⟩ := bd2_ed h
                      refine iq_cwI hS 107 J_MScriptRows_takeNumbers_d104 rfl (pr_inst (vs := []) lc_15_95 lT_283 rfl rfl (by decide) (by decide) rfl (Nat.le_of_ble_eq_true rfl) (Nat.le_of_ble_eq_true rfl) (fun _ => Or.inl (pr_b (ka_71 hM62) (by decide) rfl))) (f_MScriptRows_next_ok (dep := dep + 0) hM62 h) rfl ?_
                      intro x72 M72 hM72 h
                      replace h := hQ72 _ _ h
                      refine iq_iadd hS 108 J_MScriptRows_takeNumbers_d107 rfl ?_
                      refine iq_bipush hS 110 J_MScriptRows_takeNumbers_d108 (v := 48) (by decide +kernel) rfl ?_
                      refine iq_isub hS 111 J_MScriptRows_takeNumbers_d110 rfl ?_
                      refine iq_istore hS 113 J_MScriptRows_takeNumbers_d111 (by decide) rfl ?_
                      refine iq_iincv hS 116 J_MScriptRows_takeNumbers_d113 (c := 1) (by decide +kernel) (lk_1i l68 (by decide)) (by decide) rfl ?_
                      refine iq_goto hS J_MScriptRows_takeNumbers_d116 (t := 81) rfl ?_
                      exact ih _ _ _ _ hM72 (lk_1r (lk_1r l63 (by decide)) (by decide)) (lk_1i (lk_1i l64 (by decide)) (by decide)) (lk_1i (lk_1i l65 (by decide)) (by decide)) (lk_1i (lk_1i l66 (by decide)) (by decide)) (lk_1i (lk_1i l67 (by decide)) (by decide)) lk_1s (lk_1i lk_1s (by decide)) (lq_l h)
              exact I33 n33 _ _ _ _ hM27 (lk_1r (lk_1r l28 (by decide)) (by decide)) (lk_1i (lk_1i l29 (by decide)) (by decide)) (lk_1i (lk_1i l30 (by decide)) (by decide)) (lk_1i (lk_1i l31 (by decide)) (by decide)) (lk_1i (lk_1i l32 (by decide)) (by decide)) (lk_1i lk_1s (by decide)) lk_1s hn33
            refine iq_if_eq hS 58 J_MScriptRows_takeNumbers_d55 (t := 75) rfl (fun q55 => ?_) rfl (fun q55 => ?_)
            · replace h := ed_pos q55 h
              exact J23 _ _ hM10 (lk_1r l19 (by decide)) (lk_1i l20 (by decide)) (lk_1i l21 (by decide)) (lk_1i l22 (by decide)) lk_1s (hk23 _ h)
            · replace h := ed_neg q55 h
              refine iq_aload_n hS 59 J_MScriptRows_takeNumbers_d58 (lk_1r l19 (by decide)) rfl ?_
              obtain ⟨Q24, hQ24, h⟩ := bd2_ed h
              refine iq_cwI hS 62 J_MScriptRows_takeNumbers_d59 rfl (pr_inst (vs := []) lc_15_95 lT_283 rfl rfl (by decide) (by decide) rfl (Nat.le_of_ble_eq_true rfl) (Nat.le_of_ble_eq_true rfl) (fun _ => Or.inl (pr_b (ka_71 hM10) (by decide) rfl))) (f_MScriptRows_next_ok (dep := dep + 0) hM10 h) rfl ?_
              intro x24 M24 hM24 h
              replace h := hQ24 _ _ h
              refine iq_pop hS 63 J_MScriptRows_takeNumbers_d62 rfl rfl ?_
              refine iq_aload_n hS 64 J_MScriptRows_takeNumbers_d63 (lk_1r l19 (by decide)) rfl ?_
              obtain ⟨Q25, hQ25, h⟩ := bd1_ed h
              refine iq_cpI hS 67 J_MScriptRows_takeNumbers_d64 rfl (pr_inst (vs := []) lc_15_76 lT_282 rfl rfl (by decide) (by decide) rfl (Nat.le_of_ble_eq_true rfl) (Nat.le_of_ble_eq_true rfl) (fun _ => Or.inl (pr_b (ka_71 hM24) (by decide) rfl))) (f_MScriptRows_peek_ok (dep := dep + 1) hM24 h) rfl ?_
              intro x25 h
              replace h := hQ25 _ h
              obtain ⟨Q26, hQ26, h⟩ := bd1_ed h
              refine iq_cpI hS 70 J_MScriptRows_takeNumbers_d67 rfl (pr_stat (vs := [_]) lc_15_80 lT_289 rfl rfl (by decide) rfl (Nat.le_of_ble_eq_true rfl) (Nat.le_of_ble_eq_true rfl)) (f_MScriptRows_isDigit_ok (dep := dep + 1) hM24 h) rfl ?_
              intro x26 h
              replace h := hQ26 _ h
              refine iq_if_ne hS 73 J_MScriptRows_takeNumbers_d70 (t := 75) rfl (fun q70 => ?_) rfl (fun q70 => ?_)
              · replace h := ed_pos q70 h
                exact J23 _ _ hM24 (lk_1r l19 (by decide)) (lk_1i l20 (by decide)) (lk_1i l21 (by decide)) (lk_1i l22 (by decide)) lk_1s (hk23 _ h)
              · replace h := ed_neg q70 h
                refine iq_iconst hS 74 J_MScriptRows_takeNumbers_d73 (v := 4) (by decide +kernel) rfl ?_
                exact iq_iret J_MScriptRows_takeNumbers_d74 rfl rfl ⟨_, rfl, hM24, ed_some (hR7 _ (lq_r h hq7))⟩
          refine iq_icmp_ne hS 46 J_MScriptRows_takeNumbers_d43 (t := 50) rfl (fun q43 => ?_) rfl (fun q43 => ?_)
          · refine iq_iconst hS 51 J_MScriptRows_takeNumbers_d50 (v := 0) (by decide +kernel) rfl ?_
            exact J16 _ _ (by simp only [if_pos q43]) l11 l12 l13 l14
          · refine iq_iconst hS 47 J_MScriptRows_takeNumbers_d46 (v := 1) (by decide +kernel) rfl ?_
            refine iq_goto hS J_MScriptRows_takeNumbers_d47 (t := 51) rfl ?_
            exact J16 _ _ (by simp only [if_neg q43]) l11 l12 l13 l14
    exact I7 n7 _ _ _ hM3 (lk_1r l4 (by decide)) (lk_1i l5 (by decide)) (lk_1i l6 (by decide)) lk_1s hn7
  obtain ⟨r2, hr2, hq2⟩ := h
  obtain ⟨n2, hn2⟩ := lp_n hr2
  have I2 : ∀ (n : Nat) (x73 : Int32) (M74 : im_M) (L' : List (Nat × Value)), lw_S w M74 → im_lk L' 0 = some (.ref 71) → im_lk L' 1 = some (.int p0) → im_lk L' 2 = some (.int x1) → im_lk L' 3 = some (.int x73) → lpn (uc2 (f_MScriptRows_takeNumbers_L7 p0 x1)) n (x73, M74) = some r2 → ia (tb_G L xs) (dep + 2) J_MScriptRows_takeNumbers (rwI w Q) (7, L', [], M74) := by
    intro n
    induction n with
    | zero => intro x73 M74 L' hM74 l75 l76 l77 l78 hn; exact (lpn_0 hn).elim
    | succ n ih =>
      intro x73 M74 L' hM74 l75 l76 l77 l78 hn
      have h := lpn_ed2 hn
      unfold f_MScriptRows_takeNumbers_L7 at h
      refine iq_iload_n hS 8 J_MScriptRows_takeNumbers_d7 l78 rfl ?_
      refine iq_iload_n hS 9 J_MScriptRows_takeNumbers_d8 l77 rfl ?_
      refine iq_icmp_ge hS 12 J_MScriptRows_takeNumbers_d9 (t := 30) rfl (fun q9 => ?_) rfl (fun q9 => ?_)
      · replace h := ed_pos q9 h
        exact K2 _ _ hM74 l75 l76 l77 (lq_r h hq2)
      · replace h := ed_neg q9 h
        refine iq_aload_n hS 13 J_MScriptRows_takeNumbers_d12 l75 rfl ?_
        refine iq_getR hS 16 J_MScriptRows_takeNumbers_d13 lf_15_32 (Or.inr ⟨_, rfl⟩) (ka_71 hM74) (ra_71_15 hM74) rfl ?_
        refine iq_iload_n hS 17 J_MScriptRows_takeNumbers_d16 l78 rfl ?_
        refine iq_aload_n hS 18 J_MScriptRows_takeNumbers_d17 l75 rfl ?_
        refine iq_iload_n hS 19 J_MScriptRows_takeNumbers_d18 l76 rfl ?_
        refine iq_iload_n hS 20 J_MScriptRows_takeNumbers_d19 l78 rfl ?_
        obtain ⟨Q79, hQ79, h⟩ := bd1_ed h
        refine iq_cpI hS 23 J_MScriptRows_takeNumbers_d20 rfl (pr_inst (vs := [_, _]) lc_15_92 lT_288 rfl rfl (by decide) (by decide) rfl (Nat.le_of_ble_eq_true rfl) (Nat.le_of_ble_eq_true rfl) (fun _ => Or.inl (pr_b (ka_71 hM74) (by decide) rfl))) (f_MScriptRows_preset_ok (dep := dep + 1) hM74 h) rfl ?_
        intro x79 h
        replace h := hQ79 _ h
        obtain ⟨g23, h⟩ := ed_gd h
        refine iq_iastore hS 24 J_MScriptRows_takeNumbers_d23 ⟨(ka_78 hM74).1, (ka_78 hM74).2, g23.1, ix_lt (kl_78 hM74) g23.2⟩ rfl ?_
        refine iq_iincv hS 27 J_MScriptRows_takeNumbers_d24 (c := 1) (by decide +kernel) l78 (by decide) rfl ?_
        refine iq_goto hS J_MScriptRows_takeNumbers_d27 (t := 7) rfl ?_
        exact ih _ _ _ (lw_sI hM74) (lk_1r l75 (by decide)) (lk_1i l76 (by decide)) (lk_1i l77 (by decide)) lk_1s (lq_l h)
  exact I2 n2 _ _ _ hM (lk_1r (lk_1r l0 (by decide)) (by decide)) (lk_1i (lk_1i l1 (by decide)) (by decide)) (lk_1i lk_1s (by decide)) lk_1s hn2
theorem f_MScriptRows_takeNumbers_fr {p0 : Int32} {M : im_M} {r : Int32 × im_M} (h : f_MScriptRows_takeNumbers p0 M = some r) : fr 302231454903657293676544 [(71, 8)] M r.2 := by
  replace h : ed (f_MScriptRows_takeNumbers p0 M) (fun x => x = r) := ⟨r, h, rfl⟩
  unfold f_MScriptRows_takeNumbers at h
  obtain ⟨Q1, hQ1, h⟩ := bd1_ed h
  obtain ⟨x1, e1, h⟩ := h
  replace h := hQ1 _ h
  obtain ⟨Q2, hQ2, h⟩ := bd1_ed h
  have K2 : ∀ (M3 : im_M), fr 302231454903657293676544 [(71, 8)] M M3 → Q2 M3 → fr 302231454903657293676544 [(71, 8)] M r.2 := by
    intro M3 hM3 h
    replace h := hQ2 _ h
    obtain ⟨Q4, hQ4, hR4, h⟩ := bs1_ed h
    have K4 : ∀ (M5 : im_M), fr 302231454903657293676544 [(71, 8)] M M5 → Q4 (.inl M5) → fr 302231454903657293676544 [(71, 8)] M r.2 := by
      intro M5 hM5 h
      replace h := hQ4 _ h
      exact fr_ret h hM5
    obtain ⟨r4, hr4, hq4⟩ := h
    obtain ⟨n4, hn4⟩ := lp_n hr4
    have I4 : ∀ (n : Nat) (x6 : Int32) (M7 : im_M), fr 302231454903657293676544 [(71, 8)] M M7 → lpn (uc2 (f_MScriptRows_takeNumbers_L32 p0 x1)) n (x6, M7) = some r4 → fr 302231454903657293676544 [(71, 8)] M r.2 := by
      intro n
      induction n with
      | zero => intro x6 M7 hM7 hn; exact (lpn_0 hn).elim
      | succ n ih =>
        intro x6 M7 hM7 hn
        have h := lpn_ed2 hn
        unfold f_MScriptRows_takeNumbers_L32 at h
        by_cases q34 : x1 ≤ x6
        · replace h := ed_pos q34 h
          exact K4 _ hM7 (lq_r h hq4)
        · replace h := ed_neg q34 h
          obtain ⟨Q8, hQ8, h⟩ := bd1_ed h
          obtain ⟨x8, e8, h⟩ := h
          replace h := hQ8 _ h
          obtain ⟨k10, Q10, hQ10, hk10, h⟩ := jn1_ed h
          have J10 : ∀ (M14 : im_M), fr 302231454903657293676544 [(71, 8)] M M14 → Q10 M14 → fr 302231454903657293676544 [(71, 8)] M r.2 := by
            intro M14 hM14 h
            replace h := hQ10 _ h
            obtain ⟨Q20, hQ20, h⟩ := bd3_ed h
            have K20 : ∀ (y21 : Int32) (y22 : Int32) (M23 : im_M), fr 302231454903657293676544 [(71, 8)] M M23 → Q20 (y21, y22, M23) → fr 302231454903657293676544 [(71, 8)] M r.2 := by
              intro y21 y22 M23 hM23 h
              replace h := hQ20 _ _ _ h
              by_cases q122 : y21 ≤ 5
              · replace h := ed_pos q122 h
                obtain ⟨Q24, hQ24, h⟩ := bd1_ed h
                have J24 : ∀ (M26 : im_M), fr 302231454903657293676544 [(71, 8)] M M26 → Q24 M26 → fr 302231454903657293676544 [(71, 8)] M r.2 := by
                  intro M26 hM26 h
                  replace h := hQ24 _ h
                  by_cases q154 : ¬ p0 = 75
                  · replace h := ed_pos q154 h
                    obtain ⟨Q31, hQ31, h⟩ := bd1_ed h
                    obtain ⟨x31, e31, h⟩ := h
                    replace h := hQ31 _ h
                    by_cases q178 : x31 = 44
                    · replace h := ed_pos q178 h
                      obtain ⟨Q32, hQ32, h⟩ := bd2_ed h
                      obtain ⟨⟨x32, M32⟩, e32, h⟩ := h
                      replace h := hQ32 _ _ h
                      by_cases q192 : ¬ x6 = (x1 - 1)
                      · replace h := ed_pos q192 h
                        exact ih _ _ (fr_tr (fr_mono (by decide) (by decide +kernel) (f_MScriptRows_next_fr e32)) hM26) (lq_l h)
                      · replace h := ed_neg q192 h
                        exact fr_ret (hR4 _ (lq_r h hq4)) (fr_tr (fr_mono (by decide) (by decide +kernel) (f_MScriptRows_next_fr e32)) hM26)
                    · replace h := ed_neg q178 h
                      exact fr_ret (hR4 _ (lq_r h hq4)) hM26
                  · replace h := ed_neg q154 h
                    obtain ⟨Q33, hQ33, h⟩ := bd2_ed h
                    obtain ⟨⟨x33, M33⟩, e33, h⟩ := h
                    replace h := hQ33 _ _ h
                    by_cases q163 : ¬ x33 = 44
                    · replace h := ed_pos q163 h
                      exact fr_ret (hR4 _ (lq_r h hq4)) (fr_tr (fr_mono (by decide) (by decide +kernel) (f_MScriptRows_next_fr e33)) hM26)
                    · replace h := ed_neg q163 h
                      exact fr_ret (hR4 _ (lq_r h hq4)) (fr_tr (fr_mono (by decide) (by decide +kernel) (f_MScriptRows_next_fr e33)) hM26)
                by_cases q129 : y21 ≤ 0
                · replace h := ed_pos q129 h
                  exact J24 _ hM23 (ed_some h)
                · replace h := ed_neg q129 h
                  obtain ⟨g150, h⟩ := ed_gd h
                  exact J24 _ (fr_I (by decide) hM23) (ed_some h)
              · replace h := ed_neg q122 h
                exact fr_ret (hR4 _ (lq_r h hq4)) hM23
            obtain ⟨r20, hr20, hq20⟩ := h
            obtain ⟨n20, hn20⟩ := lp_n hr20
            have I20 : ∀ (n : Nat) (x34 : Int32) (x35 : Int32) (M36 : im_M), fr 302231454903657293676544 [(71, 8)] M M36 → lpn (uc3 (f_MScriptRows_takeNumbers_L81 p0 x1 x6 ((if ¬ x8 = 45 then 0 else 1) : Int32))) n (x34, x35, M36) = some r20 → fr 302231454903657293676544 [(71, 8)] M r.2 := by
              intro n
              induction n with
              | zero => intro x34 x35 M36 hM36 hn; exact (lpn_0 hn).elim
              | succ n ih =>
                intro x34 x35 M36 hM36 hn
                have h := lpn_ed3 hn
                unfold f_MScriptRows_takeNumbers_L81 at h
                obtain ⟨Q37, hQ37, h⟩ := bd1_ed h
                obtain ⟨x37, e37, h⟩ := h
                replace h := hQ37 _ h
                obtain ⟨Q38, hQ38, h⟩ := bd1_ed h
                obtain ⟨x38, e38, h⟩ := h
                replace h := hQ38 _ h
                by_cases q88 : x38 = 0
                · replace h := ed_pos q88 h
                  exact K20 _ _ _ hM36 (lq_r h hq20)
                · replace h := ed_neg q88 h
                  by_cases q95 : 6 ≤ x34
                  · replace h := ed_pos q95 h
                    exact K20 _ _ _ hM36 (lq_r h hq20)
                  · replace h := ed_neg q95 h
                    obtain ⟨Q39, hQ39, h⟩ := bd2_ed h
                    obtain ⟨⟨x39, M39⟩, e39, h⟩ := h
                    replace h := hQ39 _ _ h
                    exact ih _ _ _ (fr_tr (fr_mono (by decide) (by decide +kernel) (f_MScriptRows_next_fr e39)) hM36) (lq_l h)
            exact I20 n20 _ _ _ hM14 hn20
          by_cases q55 : ((if ¬ x8 = 45 then 0 else 1) : Int32) = 0
          · replace h := ed_pos q55 h
            exact J10 _ hM7 (hk10 _ h)
          · replace h := ed_neg q55 h
            obtain ⟨Q11, hQ11, h⟩ := bd2_ed h
            obtain ⟨⟨x11, M11⟩, e11, h⟩ := h
            replace h := hQ11 _ _ h
            obtain ⟨Q12, hQ12, h⟩ := bd1_ed h
            obtain ⟨x12, e12, h⟩ := h
            replace h := hQ12 _ h
            obtain ⟨Q13, hQ13, h⟩ := bd1_ed h
            obtain ⟨x13, e13, h⟩ := h
            replace h := hQ13 _ h
            by_cases q70 : ¬ x13 = 0
            · replace h := ed_pos q70 h
              exact J10 _ (fr_tr (fr_mono (by decide) (by decide +kernel) (f_MScriptRows_next_fr e11)) hM7) (hk10 _ h)
            · replace h := ed_neg q70 h
              exact fr_ret (hR4 _ (lq_r h hq4)) (fr_tr (fr_mono (by decide) (by decide +kernel) (f_MScriptRows_next_fr e11)) hM7)
    exact I4 n4 _ _ hM3 hn4
  obtain ⟨r2, hr2, hq2⟩ := h
  obtain ⟨n2, hn2⟩ := lp_n hr2
  have I2 : ∀ (n : Nat) (x40 : Int32) (M41 : im_M), fr 302231454903657293676544 [(71, 8)] M M41 → lpn (uc2 (f_MScriptRows_takeNumbers_L7 p0 x1)) n (x40, M41) = some r2 → fr 302231454903657293676544 [(71, 8)] M r.2 := by
    intro n
    induction n with
    | zero => intro x40 M41 hM41 hn; exact (lpn_0 hn).elim
    | succ n ih =>
      intro x40 M41 hM41 hn
      have h := lpn_ed2 hn
      unfold f_MScriptRows_takeNumbers_L7 at h
      by_cases q9 : x1 ≤ x40
      · replace h := ed_pos q9 h
        exact K2 _ hM41 (lq_r h hq2)
      · replace h := ed_neg q9 h
        obtain ⟨Q42, hQ42, h⟩ := bd1_ed h
        obtain ⟨x42, e42, h⟩ := h
        replace h := hQ42 _ h
        obtain ⟨g23, h⟩ := ed_gd h
        exact ih _ _ (fr_I (by decide) hM41) (lq_l h)
  exact I2 n2 _ _ fr_refl hn2
noncomputable def f_MScriptRows_picture (p0 : Int32) (p1 : Int32) (M : im_M) : Option (Int32) := jn0 (fun (_ : Unit) => if ¬ (p1 - p1 / 2 * 2) = 0 then if ¬ p1 = 5 then some 2048 else some 200 else some 1) fun k1 => if p0 = 70 then k1 () else if ¬ p0 = 73 then if ¬ p0 = 71 then if 2 ≤ p1 then if ¬ p0 = 81 then if ¬ p1 = 2 then if ¬ p1 = 3 then if ¬ (p1 - p1 / 2 * 2) = 0 then if ¬ p1 = 5 then some 1 else some 3 else some 0 else some 2048 else some 1 else jn0 (fun (_ : Unit) => some 0) fun k2 => if p1 = 2 then k2 () else if ¬ p1 = 6 then if ¬ p1 = 4 then if ¬ p1 = 5 then some 3 else some 7 else some (-1) else k2 () else if ¬ p1 = 0 then some 50 else some 1 else if ¬ p1 = 4 then if ¬ p1 = 5 then if ¬ (p1 - p1 / 2 * 2) = 0 then some 4096 else some (-4096) else some 200 else some 1 else k1 ()
theorem J_MScriptRows_picture_d0 : decode J_MScriptRows_picture.2.1 0 = .ok (.iload_n 0, 1) := by decide +kernel
theorem J_MScriptRows_picture_d1 : decode J_MScriptRows_picture.2.1 1 = .ok (.bipush 70, 2) := by decide +kernel
theorem J_MScriptRows_picture_d3 : decode J_MScriptRows_picture.2.1 3 = .ok (.if_icmp .eq 9, 3) := by decide +kernel
theorem J_MScriptRows_picture_d6 : decode J_MScriptRows_picture.2.1 6 = .ok (.iload_n 0, 1) := by decide +kernel
theorem J_MScriptRows_picture_d7 : decode J_MScriptRows_picture.2.1 7 = .ok (.bipush 73, 2) := by decide +kernel
theorem J_MScriptRows_picture_d9 : decode J_MScriptRows_picture.2.1 9 = .ok (.if_icmp .ne 28, 3) := by decide +kernel
theorem J_MScriptRows_picture_d12 : decode J_MScriptRows_picture.2.1 12 = .ok (.iload_n 1, 1) := by decide +kernel
theorem J_MScriptRows_picture_d13 : decode J_MScriptRows_picture.2.1 13 = .ok (.iconst 2, 1) := by decide +kernel
theorem J_MScriptRows_picture_d14 : decode J_MScriptRows_picture.2.1 14 = .ok (.irem, 1) := by decide +kernel
theorem J_MScriptRows_picture_d15 : decode J_MScriptRows_picture.2.1 15 = .ok (.ifCond .ne 7, 3) := by decide +kernel
theorem J_MScriptRows_picture_d18 : decode J_MScriptRows_picture.2.1 18 = .ok (.iconst 1, 1) := by decide +kernel
theorem J_MScriptRows_picture_d19 : decode J_MScriptRows_picture.2.1 19 = .ok (.goto 17, 3) := by decide +kernel
theorem J_MScriptRows_picture_d22 : decode J_MScriptRows_picture.2.1 22 = .ok (.iload_n 1, 1) := by decide +kernel
theorem J_MScriptRows_picture_d23 : decode J_MScriptRows_picture.2.1 23 = .ok (.iconst 5, 1) := by decide +kernel
theorem J_MScriptRows_picture_d24 : decode J_MScriptRows_picture.2.1 24 = .ok (.if_icmp .ne 9, 3) := by decide +kernel
theorem J_MScriptRows_picture_d27 : decode J_MScriptRows_picture.2.1 27 = .ok (.sipush 200, 3) := by decide +kernel
theorem J_MScriptRows_picture_d30 : decode J_MScriptRows_picture.2.1 30 = .ok (.goto 6, 3) := by decide +kernel
theorem J_MScriptRows_picture_d33 : decode J_MScriptRows_picture.2.1 33 = .ok (.sipush 2048, 3) := by decide +kernel
theorem J_MScriptRows_picture_d36 : decode J_MScriptRows_picture.2.1 36 = .ok (.ireturn, 1) := by decide +kernel
theorem J_MScriptRows_picture_d37 : decode J_MScriptRows_picture.2.1 37 = .ok (.iload_n 0, 1) := by decide +kernel
theorem J_MScriptRows_picture_d38 : decode J_MScriptRows_picture.2.1 38 = .ok (.bipush 71, 2) := by decide +kernel
theorem J_MScriptRows_picture_d40 : decode J_MScriptRows_picture.2.1 40 = .ok (.if_icmp .ne 39, 3) := by decide +kernel
theorem J_MScriptRows_picture_d43 : decode J_MScriptRows_picture.2.1 43 = .ok (.iload_n 1, 1) := by decide +kernel
theorem J_MScriptRows_picture_d44 : decode J_MScriptRows_picture.2.1 44 = .ok (.iconst 4, 1) := by decide +kernel
theorem J_MScriptRows_picture_d45 : decode J_MScriptRows_picture.2.1 45 = .ok (.if_icmp .ne 7, 3) := by decide +kernel
theorem J_MScriptRows_picture_d48 : decode J_MScriptRows_picture.2.1 48 = .ok (.iconst 1, 1) := by decide +kernel
theorem J_MScriptRows_picture_d49 : decode J_MScriptRows_picture.2.1 49 = .ok (.goto 29, 3) := by decide +kernel
theorem J_MScriptRows_picture_d52 : decode J_MScriptRows_picture.2.1 52 = .ok (.iload_n 1, 1) := by decide +kernel
theorem J_MScriptRows_picture_d53 : decode J_MScriptRows_picture.2.1 53 = .ok (.iconst 5, 1) := by decide +kernel
theorem J_MScriptRows_picture_d54 : decode J_MScriptRows_picture.2.1 54 = .ok (.if_icmp .ne 9, 3) := by decide +kernel
theorem J_MScriptRows_picture_d57 : decode J_MScriptRows_picture.2.1 57 = .ok (.sipush 200, 3) := by decide +kernel
theorem J_MScriptRows_picture_d60 : decode J_MScriptRows_picture.2.1 60 = .ok (.goto 18, 3) := by decide +kernel
theorem J_MScriptRows_picture_d63 : decode J_MScriptRows_picture.2.1 63 = .ok (.iload_n 1, 1) := by decide +kernel
theorem J_MScriptRows_picture_d64 : decode J_MScriptRows_picture.2.1 64 = .ok (.iconst 2, 1) := by decide +kernel
theorem J_MScriptRows_picture_d65 : decode J_MScriptRows_picture.2.1 65 = .ok (.irem, 1) := by decide +kernel
theorem J_MScriptRows_picture_d66 : decode J_MScriptRows_picture.2.1 66 = .ok (.ifCond .ne 9, 3) := by decide +kernel
theorem J_MScriptRows_picture_d69 : decode J_MScriptRows_picture.2.1 69 = .ok (.sipush (-4096), 3) := by decide +kernel
theorem J_MScriptRows_picture_d72 : decode J_MScriptRows_picture.2.1 72 = .ok (.goto 6, 3) := by decide +kernel
theorem J_MScriptRows_picture_d75 : decode J_MScriptRows_picture.2.1 75 = .ok (.sipush 4096, 3) := by decide +kernel
theorem J_MScriptRows_picture_d78 : decode J_MScriptRows_picture.2.1 78 = .ok (.ireturn, 1) := by decide +kernel
theorem J_MScriptRows_picture_d79 : decode J_MScriptRows_picture.2.1 79 = .ok (.iload_n 1, 1) := by decide +kernel
theorem J_MScriptRows_picture_d80 : decode J_MScriptRows_picture.2.1 80 = .ok (.iconst 2, 1) := by decide +kernel
theorem J_MScriptRows_picture_d81 : decode J_MScriptRows_picture.2.1 81 = .ok (.if_icmp .ge 14, 3) := by decide +kernel
theorem J_MScriptRows_picture_d84 : decode J_MScriptRows_picture.2.1 84 = .ok (.iload_n 1, 1) := by decide +kernel
theorem J_MScriptRows_picture_d85 : decode J_MScriptRows_picture.2.1 85 = .ok (.ifCond .ne 7, 3) := by decide +kernel
theorem J_MScriptRows_picture_d88 : decode J_MScriptRows_picture.2.1 88 = .ok (.iconst 1, 1) := by decide +kernel
theorem J_MScriptRows_picture_d89 : decode J_MScriptRows_picture.2.1 89 = .ok (.goto 5, 3) := by decide +kernel
theorem J_MScriptRows_picture_d92 : decode J_MScriptRows_picture.2.1 92 = .ok (.bipush 50, 2) := by decide +kernel
theorem J_MScriptRows_picture_d94 : decode J_MScriptRows_picture.2.1 94 = .ok (.ireturn, 1) := by decide +kernel
theorem J_MScriptRows_picture_d95 : decode J_MScriptRows_picture.2.1 95 = .ok (.iload_n 0, 1) := by decide +kernel
theorem J_MScriptRows_picture_d96 : decode J_MScriptRows_picture.2.1 96 = .ok (.bipush 81, 2) := by decide +kernel
theorem J_MScriptRows_picture_d98 : decode J_MScriptRows_picture.2.1 98 = .ok (.if_icmp .ne 39, 3) := by decide +kernel
theorem J_MScriptRows_picture_d101 : decode J_MScriptRows_picture.2.1 101 = .ok (.iload_n 1, 1) := by decide +kernel
theorem J_MScriptRows_picture_d102 : decode J_MScriptRows_picture.2.1 102 = .ok (.iconst 2, 1) := by decide +kernel
theorem J_MScriptRows_picture_d103 : decode J_MScriptRows_picture.2.1 103 = .ok (.if_icmp .eq 9, 3) := by decide +kernel
theorem J_MScriptRows_picture_d106 : decode J_MScriptRows_picture.2.1 106 = .ok (.iload_n 1, 1) := by decide +kernel
theorem J_MScriptRows_picture_d107 : decode J_MScriptRows_picture.2.1 107 = .ok (.bipush 6, 2) := by decide +kernel
theorem J_MScriptRows_picture_d109 : decode J_MScriptRows_picture.2.1 109 = .ok (.if_icmp .ne 7, 3) := by decide +kernel
theorem J_MScriptRows_picture_d112 : decode J_MScriptRows_picture.2.1 112 = .ok (.iconst 0, 1) := by decide +kernel
theorem J_MScriptRows_picture_d113 : decode J_MScriptRows_picture.2.1 113 = .ok (.goto 23, 3) := by decide +kernel
theorem J_MScriptRows_picture_d116 : decode J_MScriptRows_picture.2.1 116 = .ok (.iload_n 1, 1) := by decide +kernel
theorem J_MScriptRows_picture_d117 : decode J_MScriptRows_picture.2.1 117 = .ok (.iconst 4, 1) := by decide +kernel
theorem J_MScriptRows_picture_d118 : decode J_MScriptRows_picture.2.1 118 = .ok (.if_icmp .ne 7, 3) := by decide +kernel
theorem J_MScriptRows_picture_d121 : decode J_MScriptRows_picture.2.1 121 = .ok (.iconst (-1), 1) := by decide +kernel
theorem J_MScriptRows_picture_d122 : decode J_MScriptRows_picture.2.1 122 = .ok (.goto 14, 3) := by decide +kernel
theorem J_MScriptRows_picture_d125 : decode J_MScriptRows_picture.2.1 125 = .ok (.iload_n 1, 1) := by decide +kernel
theorem J_MScriptRows_picture_d126 : decode J_MScriptRows_picture.2.1 126 = .ok (.iconst 5, 1) := by decide +kernel
theorem J_MScriptRows_picture_d127 : decode J_MScriptRows_picture.2.1 127 = .ok (.if_icmp .ne 8, 3) := by decide +kernel
theorem J_MScriptRows_picture_d130 : decode J_MScriptRows_picture.2.1 130 = .ok (.bipush 7, 2) := by decide +kernel
theorem J_MScriptRows_picture_d132 : decode J_MScriptRows_picture.2.1 132 = .ok (.goto 4, 3) := by decide +kernel
theorem J_MScriptRows_picture_d135 : decode J_MScriptRows_picture.2.1 135 = .ok (.iconst 3, 1) := by decide +kernel
theorem J_MScriptRows_picture_d136 : decode J_MScriptRows_picture.2.1 136 = .ok (.ireturn, 1) := by decide +kernel
theorem J_MScriptRows_picture_d137 : decode J_MScriptRows_picture.2.1 137 = .ok (.iload_n 1, 1) := by decide +kernel
theorem J_MScriptRows_picture_d138 : decode J_MScriptRows_picture.2.1 138 = .ok (.iconst 2, 1) := by decide +kernel
theorem J_MScriptRows_picture_d139 : decode J_MScriptRows_picture.2.1 139 = .ok (.if_icmp .ne 7, 3) := by decide +kernel
theorem J_MScriptRows_picture_d142 : decode J_MScriptRows_picture.2.1 142 = .ok (.iconst 1, 1) := by decide +kernel
theorem J_MScriptRows_picture_d143 : decode J_MScriptRows_picture.2.1 143 = .ok (.goto 34, 3) := by decide +kernel
theorem J_MScriptRows_picture_d146 : decode J_MScriptRows_picture.2.1 146 = .ok (.iload_n 1, 1) := by decide +kernel
theorem J_MScriptRows_picture_d147 : decode J_MScriptRows_picture.2.1 147 = .ok (.iconst 3, 1) := by decide +kernel
theorem J_MScriptRows_picture_d148 : decode J_MScriptRows_picture.2.1 148 = .ok (.if_icmp .ne 9, 3) := by decide +kernel
theorem J_MScriptRows_picture_d151 : decode J_MScriptRows_picture.2.1 151 = .ok (.sipush 2048, 3) := by decide +kernel
theorem J_MScriptRows_picture_d154 : decode J_MScriptRows_picture.2.1 154 = .ok (.goto 23, 3) := by decide +kernel
theorem J_MScriptRows_picture_d157 : decode J_MScriptRows_picture.2.1 157 = .ok (.iload_n 1, 1) := by decide +kernel
theorem J_MScriptRows_picture_d158 : decode J_MScriptRows_picture.2.1 158 = .ok (.iconst 2, 1) := by decide +kernel
theorem J_MScriptRows_picture_d159 : decode J_MScriptRows_picture.2.1 159 = .ok (.irem, 1) := by decide +kernel
theorem J_MScriptRows_picture_d160 : decode J_MScriptRows_picture.2.1 160 = .ok (.ifCond .ne 7, 3) := by decide +kernel
theorem J_MScriptRows_picture_d163 : decode J_MScriptRows_picture.2.1 163 = .ok (.iconst 0, 1) := by decide +kernel
theorem J_MScriptRows_picture_d164 : decode J_MScriptRows_picture.2.1 164 = .ok (.goto 13, 3) := by decide +kernel
theorem J_MScriptRows_picture_d167 : decode J_MScriptRows_picture.2.1 167 = .ok (.iload_n 1, 1) := by decide +kernel
theorem J_MScriptRows_picture_d168 : decode J_MScriptRows_picture.2.1 168 = .ok (.iconst 5, 1) := by decide +kernel
theorem J_MScriptRows_picture_d169 : decode J_MScriptRows_picture.2.1 169 = .ok (.if_icmp .ne 7, 3) := by decide +kernel
theorem J_MScriptRows_picture_d172 : decode J_MScriptRows_picture.2.1 172 = .ok (.iconst 3, 1) := by decide +kernel
theorem J_MScriptRows_picture_d173 : decode J_MScriptRows_picture.2.1 173 = .ok (.goto 4, 3) := by decide +kernel
theorem J_MScriptRows_picture_d176 : decode J_MScriptRows_picture.2.1 176 = .ok (.iconst 1, 1) := by decide +kernel
theorem J_MScriptRows_picture_d177 : decode J_MScriptRows_picture.2.1 177 = .ok (.ireturn, 1) := by decide +kernel
theorem f_MScriptRows_picture_ok {L : Nat} {xs : Nat → Int32} {dep : Nat} {w : Bool} {p0 : Int32} {p1 : Int32} {M : im_M} {Q : Int32 → Prop} (hM : lw_S w M) (h : ed (f_MScriptRows_picture p0 p1 M) Q) : ia (tb_G L xs) dep J_MScriptRows_picture (rpI M Q) (0, lv_args 0 [.int p0, .int p1], [], M) := by
  have hS : im_St (tb_G L xs) dep J_MScriptRows_picture (ia (tb_G L xs) dep J_MScriptRows_picture (rpI M Q)) := ia_St
  unfold f_MScriptRows_picture at h
  have l0 : im_lk (lv_args 0 [.int p0, .int p1]) 0 = some (.int p0) := rfl
  have l1 : im_lk (lv_args 0 [.int p0, .int p1]) 1 = some (.int p1) := rfl
  refine iq_iload_n hS 1 J_MScriptRows_picture_d0 l0 rfl ?_
  refine iq_bipush hS 3 J_MScriptRows_picture_d1 (v := 70) (by decide +kernel) rfl ?_
  obtain ⟨k1, Q1, hQ1, hk1, h⟩ := jn0_ed h
  have J1 : ∀  (L' : List (Nat × Value)), im_lk L' 1 = some (.int p1) → Q1 () → ia (tb_G L xs) dep J_MScriptRows_picture (rpI M Q) (12, L', [], M) := by
    intro  L' l3 h
    replace h := hQ1  h
    refine iq_iload_n hS 13 J_MScriptRows_picture_d12 l3 rfl ?_
    refine iq_iconst hS 14 J_MScriptRows_picture_d13 (v := 2) (by decide +kernel) rfl ?_
    refine iq_irem hS 15 J_MScriptRows_picture_d14 (by decide) rfl ?_
    refine iq_if_ne hS 18 J_MScriptRows_picture_d15 (t := 22) rfl (fun q15 => ?_) rfl (fun q15 => ?_)
    · replace h := ed_pos q15 h
      refine iq_iload_n hS 23 J_MScriptRows_picture_d22 l3 rfl ?_
      refine iq_iconst hS 24 J_MScriptRows_picture_d23 (v := 5) (by decide +kernel) rfl ?_
      refine iq_icmp_ne hS 27 J_MScriptRows_picture_d24 (t := 33) rfl (fun q24 => ?_) rfl (fun q24 => ?_)
      · replace h := ed_pos q24 h
        refine iq_sipush hS 36 J_MScriptRows_picture_d33 (v := 2048) (by decide +kernel) rfl ?_
        exact iq_iret J_MScriptRows_picture_d36 rfl rfl ⟨_, rfl, rfl, ed_some h⟩
      · replace h := ed_neg q24 h
        refine iq_sipush hS 30 J_MScriptRows_picture_d27 (v := 200) (by decide +kernel) rfl ?_
        refine iq_goto hS J_MScriptRows_picture_d30 (t := 36) rfl ?_
        exact iq_iret J_MScriptRows_picture_d36 rfl rfl ⟨_, rfl, rfl, ed_some h⟩
    · replace h := ed_neg q15 h
      refine iq_iconst hS 19 J_MScriptRows_picture_d18 (v := 1) (by decide +kernel) rfl ?_
      refine iq_goto hS J_MScriptRows_picture_d19 (t := 36) rfl ?_
      exact iq_iret J_MScriptRows_picture_d36 rfl rfl ⟨_, rfl, rfl, ed_some h⟩
  refine iq_icmp_eq hS 6 J_MScriptRows_picture_d3 (t := 12) rfl (fun q3 => ?_) rfl (fun q3 => ?_)
  · replace h := ed_pos q3 h
    exact J1  _ l1 (hk1  h)
  · replace h := ed_neg q3 h
    refine iq_iload_n hS 7 J_MScriptRows_picture_d6 l0 rfl ?_
    refine iq_bipush hS 9 J_MScriptRows_picture_d7 (v := 73) (by decide +kernel) rfl ?_
    refine iq_icmp_ne hS 12 J_MScriptRows_picture_d9 (t := 37) rfl (fun q9 => ?_) rfl (fun q9 => ?_)
    · replace h := ed_pos q9 h
      refine iq_iload_n hS 38 J_MScriptRows_picture_d37 l0 rfl ?_
      refine iq_bipush hS 40 J_MScriptRows_picture_d38 (v := 71) (by decide +kernel) rfl ?_
      refine iq_icmp_ne hS 43 J_MScriptRows_picture_d40 (t := 79) rfl (fun q40 => ?_) rfl (fun q40 => ?_)
      · replace h := ed_pos q40 h
        refine iq_iload_n hS 80 J_MScriptRows_picture_d79 l1 rfl ?_
        refine iq_iconst hS 81 J_MScriptRows_picture_d80 (v := 2) (by decide +kernel) rfl ?_
        refine iq_icmp_ge hS 84 J_MScriptRows_picture_d81 (t := 95) rfl (fun q81 => ?_) rfl (fun q81 => ?_)
        · replace h := ed_pos q81 h
          refine iq_iload_n hS 96 J_MScriptRows_picture_d95 l0 rfl ?_
          refine iq_bipush hS 98 J_MScriptRows_picture_d96 (v := 81) (by decide +kernel) rfl ?_
          refine iq_icmp_ne hS 101 J_MScriptRows_picture_d98 (t := 137) rfl (fun q98 => ?_) rfl (fun q98 => ?_)
          · replace h := ed_pos q98 h
            refine iq_iload_n hS 138 J_MScriptRows_picture_d137 l1 rfl ?_
            refine iq_iconst hS 139 J_MScriptRows_picture_d138 (v := 2) (by decide +kernel) rfl ?_
            refine iq_icmp_ne hS 142 J_MScriptRows_picture_d139 (t := 146) rfl (fun q139 => ?_) rfl (fun q139 => ?_)
            · replace h := ed_pos q139 h
              refine iq_iload_n hS 147 J_MScriptRows_picture_d146 l1 rfl ?_
              refine iq_iconst hS 148 J_MScriptRows_picture_d147 (v := 3) (by decide +kernel) rfl ?_
              refine iq_icmp_ne hS 151 J_MScriptRows_picture_d148 (t := 157) rfl (fun q148 => ?_) rfl (fun q148 => ?_)
              · replace h := ed_pos q148 h
                refine iq_iload_n hS 158 J_MScriptRows_picture_d157 l1 rfl ?_
                refine iq_iconst hS 159 J_MScriptRows_picture_d158 (v := 2) (by decide +kernel) rfl ?_
                refine iq_irem hS 160 J_MScriptRows_picture_d159 (by decide) rfl ?_
                refine iq_if_ne hS 163 J_MScriptRows_picture_d160 (t := 167) rfl (fun q160 => ?_) rfl (fun q160 => ?_)
                · replace h := ed_pos q160 h
                  refine iq_iload_n hS 168 J_MScriptRows_picture_d167 l1 rfl ?_
                  refine iq_iconst hS 169 J_MScriptRows_picture_d168 (v := 5) (by decide +kernel) rfl ?_
                  refine iq_icmp_ne hS 172 J_MScriptRows_picture_d169 (t := 176) rfl (fun q169 => ?_) rfl (fun q169 => ?_)
                  · replace h := ed_pos q169 h
                    refine iq_iconst hS 177 J_MScriptRows_picture_d176 (v := 1) (by decide +kernel) rfl ?_
                    exact iq_iret J_MScriptRows_picture_d177 rfl rfl ⟨_, rfl, rfl, ed_some h⟩
                  · replace h := ed_neg q169 h
                    refine iq_iconst hS 173 J_MScriptRows_picture_d172 (v := 3) (by decide +kernel) rfl ?_
                    refine iq_goto hS J_MScriptRows_picture_d173 (t := 177) rfl ?_
                    exact iq_iret J_MScriptRows_picture_d177 rfl rfl ⟨_, rfl, rfl, ed_some h⟩
                · replace h := ed_neg q160 h
                  refine iq_iconst hS 164 J_MScriptRows_picture_d163 (v := 0) (by decide +kernel) rfl ?_
                  refine iq_goto hS J_MScriptRows_picture_d164 (t := 177) rfl ?_
                  exact iq_iret J_MScriptRows_picture_d177 rfl rfl ⟨_, rfl, rfl, ed_some h⟩
              · replace h := ed_neg q148 h
                refine iq_sipush hS 154 J_MScriptRows_picture_d151 (v := 2048) (by decide +kernel) rfl ?_
                refine iq_goto hS J_MScriptRows_picture_d154 (t := 177) rfl ?_
                exact iq_iret J_MScriptRows_picture_d177 rfl rfl ⟨_, rfl, rfl, ed_some h⟩
            · replace h := ed_neg q139 h
              refine iq_iconst hS 143 J_MScriptRows_picture_d142 (v := 1) (by decide +kernel) rfl ?_
              refine iq_goto hS J_MScriptRows_picture_d143 (t := 177) rfl ?_
              exact iq_iret J_MScriptRows_picture_d177 rfl rfl ⟨_, rfl, rfl, ed_some h⟩
          · replace h := ed_neg q98 h
            refine iq_iload_n hS 102 J_MScriptRows_picture_d101 l1 rfl ?_
            refine iq_iconst hS 103 J_MScriptRows_picture_d102 (v := 2) (by decide +kernel) rfl ?_
            obtain ⟨k2, Q2, hQ2, hk2, h⟩ := jn0_ed h
            have J2 : ∀  (L' : List (Nat × Value)), Q2 () → ia (tb_G L xs) dep J_MScriptRows_picture (rpI M Q) (112, L', [], M) := by
              intro  L'  h
              replace h := hQ2  h
              refine iq_iconst hS 113 J_MScriptRows_picture_d112 (v := 0) (by decide +kernel) rfl ?_
              refine iq_goto hS J_MScriptRows_picture_d113 (t := 136) rfl ?_
              exact iq_iret J_MScriptRows_picture_d136 rfl rfl ⟨_, rfl, rfl, ed_some h⟩
            refine iq_icmp_eq hS 106 J_MScriptRows_picture_d103 (t := 112) rfl (fun q103 => ?_) rfl (fun q103 => ?_)
            · replace h := ed_pos q103 h
              exact J2  _  (hk2  h)
            · replace h := ed_neg q103 h
              refine iq_iload_n hS 107 J_MScriptRows_picture_d106 l1 rfl ?_
              refine iq_bipush hS 109 J_MScriptRows_picture_d107 (v := 6) (by decide +kernel) rfl ?_
              refine iq_icmp_ne hS 112 J_MScriptRows_picture_d109 (t := 116) rfl (fun q109 => ?_) rfl (fun q109 => ?_)
              · replace h := ed_pos q109 h
                refine iq_iload_n hS 117 J_MScriptRows_picture_d116 l1 rfl ?_
                refine iq_iconst hS 118 J_MScriptRows_picture_d117 (v := 4) (by decide +kernel) rfl ?_
                refine iq_icmp_ne hS 121 J_MScriptRows_picture_d118 (t := 125) rfl (fun q118 => ?_) rfl (fun q118 => ?_)
                · replace h := ed_pos q118 h
                  refine iq_iload_n hS 126 J_MScriptRows_picture_d125 l1 rfl ?_
                  refine iq_iconst hS 127 J_MScriptRows_picture_d126 (v := 5) (by decide +kernel) rfl ?_
                  refine iq_icmp_ne hS 130 J_MScriptRows_picture_d127 (t := 135) rfl (fun q127 => ?_) rfl (fun q127 => ?_)
                  · replace h := ed_pos q127 h
                    refine iq_iconst hS 136 J_MScriptRows_picture_d135 (v := 3) (by decide +kernel) rfl ?_
                    exact iq_iret J_MScriptRows_picture_d136 rfl rfl ⟨_, rfl, rfl, ed_some h⟩
                  · replace h := ed_neg q127 h
                    refine iq_bipush hS 132 J_MScriptRows_picture_d130 (v := 7) (by decide +kernel) rfl ?_
                    refine iq_goto hS J_MScriptRows_picture_d132 (t := 136) rfl ?_
                    exact iq_iret J_MScriptRows_picture_d136 rfl rfl ⟨_, rfl, rfl, ed_some h⟩
                · replace h := ed_neg q118 h
                  refine iq_iconst hS 122 J_MScriptRows_picture_d121 (v := (-1)) (by decide +kernel) rfl ?_
                  refine iq_goto hS J_MScriptRows_picture_d122 (t := 136) rfl ?_
                  exact iq_iret J_MScriptRows_picture_d136 rfl rfl ⟨_, rfl, rfl, ed_some h⟩
              · replace h := ed_neg q109 h
                exact J2  _  (hk2  h)
        · replace h := ed_neg q81 h
          refine iq_iload_n hS 85 J_MScriptRows_picture_d84 l1 rfl ?_
          refine iq_if_ne hS 88 J_MScriptRows_picture_d85 (t := 92) rfl (fun q85 => ?_) rfl (fun q85 => ?_)
          · replace h := ed_pos q85 h
            refine iq_bipush hS 94 J_MScriptRows_picture_d92 (v := 50) (by decide +kernel) rfl ?_
            exact iq_iret J_MScriptRows_picture_d94 rfl rfl ⟨_, rfl, rfl, ed_some h⟩
          · replace h := ed_neg q85 h
            refine iq_iconst hS 89 J_MScriptRows_picture_d88 (v := 1) (by decide +kernel) rfl ?_
            refine iq_goto hS J_MScriptRows_picture_d89 (t := 94) rfl ?_
            exact iq_iret J_MScriptRows_picture_d94 rfl rfl ⟨_, rfl, rfl, ed_some h⟩
      · replace h := ed_neg q40 h
        refine iq_iload_n hS 44 J_MScriptRows_picture_d43 l1 rfl ?_
        refine iq_iconst hS 45 J_MScriptRows_picture_d44 (v := 4) (by decide +kernel) rfl ?_
        refine iq_icmp_ne hS 48 J_MScriptRows_picture_d45 (t := 52) rfl (fun q45 => ?_) rfl (fun q45 => ?_)
        · replace h := ed_pos q45 h
          refine iq_iload_n hS 53 J_MScriptRows_picture_d52 l1 rfl ?_
          refine iq_iconst hS 54 J_MScriptRows_picture_d53 (v := 5) (by decide +kernel) rfl ?_
          refine iq_icmp_ne hS 57 J_MScriptRows_picture_d54 (t := 63) rfl (fun q54 => ?_) rfl (fun q54 => ?_)
          · replace h := ed_pos q54 h
            refine iq_iload_n hS 64 J_MScriptRows_picture_d63 l1 rfl ?_
            refine iq_iconst hS 65 J_MScriptRows_picture_d64 (v := 2) (by decide +kernel) rfl ?_
            refine iq_irem hS 66 J_MScriptRows_picture_d65 (by decide) rfl ?_
            refine iq_if_ne hS 69 J_MScriptRows_picture_d66 (t := 75) rfl (fun q66 => ?_) rfl (fun q66 => ?_)
            · replace h := ed_pos q66 h
              refine iq_sipush hS 78 J_MScriptRows_picture_d75 (v := 4096) (by decide +kernel) rfl ?_
              exact iq_iret J_MScriptRows_picture_d78 rfl rfl ⟨_, rfl, rfl, ed_some h⟩
            · replace h := ed_neg q66 h
              refine iq_sipush hS 72 J_MScriptRows_picture_d69 (v := (-4096)) (by decide +kernel) rfl ?_
              refine iq_goto hS J_MScriptRows_picture_d72 (t := 78) rfl ?_
              exact iq_iret J_MScriptRows_picture_d78 rfl rfl ⟨_, rfl, rfl, ed_some h⟩
          · replace h := ed_neg q54 h
            refine iq_sipush hS 60 J_MScriptRows_picture_d57 (v := 200) (by decide +kernel) rfl ?_
            refine iq_goto hS J_MScriptRows_picture_d60 (t := 78) rfl ?_
            exact iq_iret J_MScriptRows_picture_d78 rfl rfl ⟨_, rfl, rfl, ed_some h⟩
        · replace h := ed_neg q45 h
          refine iq_iconst hS 49 J_MScriptRows_picture_d48 (v := 1) (by decide +kernel) rfl ?_
          refine iq_goto hS J_MScriptRows_picture_d49 (t := 78) rfl ?_
          exact iq_iret J_MScriptRows_picture_d78 rfl rfl ⟨_, rfl, rfl, ed_some h⟩
    · replace h := ed_neg q9 h
      exact J1  _ l1 (hk1  h)
noncomputable def f_MScriptRows_range (p0 : Int32) (p1 : Int32) (M : im_M) : Option (Int32) := if p0 = 35 then if ¬ p1 = 0 then some 99 else some (-99) else if p0 = 67 then if ¬ p1 = 0 then some 12 else some 1 else if p0 = 68 ∨ p0 = 84 then jn0 (fun (_ : Unit) => some 0) fun k1 => if p1 = 0 then k1 () else if ¬ p1 = 6 then jn0 (fun (_ : Unit) => some 3) fun k2 => if p1 = 1 then k2 () else if ¬ p1 = 7 then if ¬ (p1 - p1 / 2 * 2) = 0 then some 10 else some 1 else k2 () else k1 () else if p0 = 72 ∨ p0 = 79 then if ¬ (p1 - p1 / 2 * 2) = 0 then some 4096 else some (-4096) else if p0 = 75 ∨ p0 = 86 then if ¬ p1 = 0 then some 9 else some 0 else if p0 = 76 then if ¬ (p1 - p1 / 2 * 2) = 0 then some 512 else some 1 else if p0 = 80 then if ¬ p1 = 0 then some 1024 else some 1 else if p0 = 83 ∨ p0 = 85 then if ¬ p1 = 0 then some 7 else some 0 else if p0 = 87 then if ¬ p1 = 0 then if ¬ p1 = 1 then if ¬ (p1 - p1 / 2 * 2) = 0 then if ¬ p1 = 5 then some 999 else some 2 else some 0 else some 99 else some 1 else bd1 (f_MScriptRows_picture p0 p1 M) fun (x3 : Int32) => some x3
theorem J_MScriptRows_range_d0 : decode J_MScriptRows_range.2.1 0 = .ok (.iload_n 0, 1) := by decide +kernel
theorem J_MScriptRows_range_d1 : decode J_MScriptRows_range.2.1 1 = .ok (.tableswitch 397 35 87 #[290, 397, 397, 397, 397, 397, 397, 397, 397, 397, 397, 397, 397, 397, 397, 397, 397, 397, 397, 397, 397, 397, 397, 397, 397, 397, 397, 397, 397, 397, 397, 397, 279, 302, 397, 397, 397, 263, 397, 397, 238, 249, 397, 397, 263, 385, 397, 397, 227, 302, 227, 238, 344], 227) := by decide +kernel
theorem J_MScriptRows_range_d228 : decode J_MScriptRows_range.2.1 228 = .ok (.iload_n 1, 1) := by decide +kernel
theorem J_MScriptRows_range_d229 : decode J_MScriptRows_range.2.1 229 = .ok (.ifCond .ne 7, 3) := by decide +kernel
theorem J_MScriptRows_range_d232 : decode J_MScriptRows_range.2.1 232 = .ok (.iconst 0, 1) := by decide +kernel
theorem J_MScriptRows_range_d233 : decode J_MScriptRows_range.2.1 233 = .ok (.goto 5, 3) := by decide +kernel
theorem J_MScriptRows_range_d236 : decode J_MScriptRows_range.2.1 236 = .ok (.bipush 7, 2) := by decide +kernel
theorem J_MScriptRows_range_d238 : decode J_MScriptRows_range.2.1 238 = .ok (.ireturn, 1) := by decide +kernel
theorem J_MScriptRows_range_d239 : decode J_MScriptRows_range.2.1 239 = .ok (.iload_n 1, 1) := by decide +kernel
theorem J_MScriptRows_range_d240 : decode J_MScriptRows_range.2.1 240 = .ok (.ifCond .ne 7, 3) := by decide +kernel
theorem J_MScriptRows_range_d243 : decode J_MScriptRows_range.2.1 243 = .ok (.iconst 0, 1) := by decide +kernel
theorem J_MScriptRows_range_d244 : decode J_MScriptRows_range.2.1 244 = .ok (.goto 5, 3) := by decide +kernel
theorem J_MScriptRows_range_d247 : decode J_MScriptRows_range.2.1 247 = .ok (.bipush 9, 2) := by decide +kernel
theorem J_MScriptRows_range_d249 : decode J_MScriptRows_range.2.1 249 = .ok (.ireturn, 1) := by decide +kernel
theorem J_MScriptRows_range_d250 : decode J_MScriptRows_range.2.1 250 = .ok (.iload_n 1, 1) := by decide +kernel
theorem J_MScriptRows_range_d251 : decode J_MScriptRows_range.2.1 251 = .ok (.iconst 2, 1) := by decide +kernel
theorem J_MScriptRows_range_d252 : decode J_MScriptRows_range.2.1 252 = .ok (.irem, 1) := by decide +kernel
theorem J_MScriptRows_range_d253 : decode J_MScriptRows_range.2.1 253 = .ok (.ifCond .ne 7, 3) := by decide +kernel
theorem J_MScriptRows_range_d256 : decode J_MScriptRows_range.2.1 256 = .ok (.iconst 1, 1) := by decide +kernel
theorem J_MScriptRows_range_d257 : decode J_MScriptRows_range.2.1 257 = .ok (.goto 6, 3) := by decide +kernel
theorem J_MScriptRows_range_d260 : decode J_MScriptRows_range.2.1 260 = .ok (.sipush 512, 3) := by decide +kernel
theorem J_MScriptRows_range_d263 : decode J_MScriptRows_range.2.1 263 = .ok (.ireturn, 1) := by decide +kernel
theorem J_MScriptRows_range_d264 : decode J_MScriptRows_range.2.1 264 = .ok (.iload_n 1, 1) := by decide +kernel
theorem J_MScriptRows_range_d265 : decode J_MScriptRows_range.2.1 265 = .ok (.iconst 2, 1) := by decide +kernel
theorem J_MScriptRows_range_d266 : decode J_MScriptRows_range.2.1 266 = .ok (.irem, 1) := by decide +kernel
theorem J_MScriptRows_range_d267 : decode J_MScriptRows_range.2.1 267 = .ok (.ifCond .ne 9, 3) := by decide +kernel
theorem J_MScriptRows_range_d270 : decode J_MScriptRows_range.2.1 270 = .ok (.sipush (-4096), 3) := by decide +kernel
theorem J_MScriptRows_range_d273 : decode J_MScriptRows_range.2.1 273 = .ok (.goto 6, 3) := by decide +kernel
theorem J_MScriptRows_range_d276 : decode J_MScriptRows_range.2.1 276 = .ok (.sipush 4096, 3) := by decide +kernel
theorem J_MScriptRows_range_d279 : decode J_MScriptRows_range.2.1 279 = .ok (.ireturn, 1) := by decide +kernel
theorem J_MScriptRows_range_d280 : decode J_MScriptRows_range.2.1 280 = .ok (.iload_n 1, 1) := by decide +kernel
theorem J_MScriptRows_range_d281 : decode J_MScriptRows_range.2.1 281 = .ok (.ifCond .ne 7, 3) := by decide +kernel
theorem J_MScriptRows_range_d284 : decode J_MScriptRows_range.2.1 284 = .ok (.iconst 1, 1) := by decide +kernel
theorem J_MScriptRows_range_d285 : decode J_MScriptRows_range.2.1 285 = .ok (.goto 5, 3) := by decide +kernel
theorem J_MScriptRows_range_d288 : decode J_MScriptRows_range.2.1 288 = .ok (.bipush 12, 2) := by decide +kernel
theorem J_MScriptRows_range_d290 : decode J_MScriptRows_range.2.1 290 = .ok (.ireturn, 1) := by decide +kernel
theorem J_MScriptRows_range_d291 : decode J_MScriptRows_range.2.1 291 = .ok (.iload_n 1, 1) := by decide +kernel
theorem J_MScriptRows_range_d292 : decode J_MScriptRows_range.2.1 292 = .ok (.ifCond .ne 8, 3) := by decide +kernel
theorem J_MScriptRows_range_d295 : decode J_MScriptRows_range.2.1 295 = .ok (.bipush (-99), 2) := by decide +kernel
theorem J_MScriptRows_range_d297 : decode J_MScriptRows_range.2.1 297 = .ok (.goto 5, 3) := by decide +kernel
theorem J_MScriptRows_range_d300 : decode J_MScriptRows_range.2.1 300 = .ok (.bipush 99, 2) := by decide +kernel
theorem J_MScriptRows_range_d302 : decode J_MScriptRows_range.2.1 302 = .ok (.ireturn, 1) := by decide +kernel
theorem J_MScriptRows_range_d303 : decode J_MScriptRows_range.2.1 303 = .ok (.iload_n 1, 1) := by decide +kernel
theorem J_MScriptRows_range_d304 : decode J_MScriptRows_range.2.1 304 = .ok (.ifCond .eq 9, 3) := by decide +kernel
theorem J_MScriptRows_range_d307 : decode J_MScriptRows_range.2.1 307 = .ok (.iload_n 1, 1) := by decide +kernel
theorem J_MScriptRows_range_d308 : decode J_MScriptRows_range.2.1 308 = .ok (.bipush 6, 2) := by decide +kernel
theorem J_MScriptRows_range_d310 : decode J_MScriptRows_range.2.1 310 = .ok (.if_icmp .ne 7, 3) := by decide +kernel
theorem J_MScriptRows_range_d313 : decode J_MScriptRows_range.2.1 313 = .ok (.iconst 0, 1) := by decide +kernel
theorem J_MScriptRows_range_d314 : decode J_MScriptRows_range.2.1 314 = .ok (.goto 30, 3) := by decide +kernel
theorem J_MScriptRows_range_d317 : decode J_MScriptRows_range.2.1 317 = .ok (.iload_n 1, 1) := by decide +kernel
theorem J_MScriptRows_range_d318 : decode J_MScriptRows_range.2.1 318 = .ok (.iconst 1, 1) := by decide +kernel
theorem J_MScriptRows_range_d319 : decode J_MScriptRows_range.2.1 319 = .ok (.if_icmp .eq 9, 3) := by decide +kernel
theorem J_MScriptRows_range_d322 : decode J_MScriptRows_range.2.1 322 = .ok (.iload_n 1, 1) := by decide +kernel
theorem J_MScriptRows_range_d323 : decode J_MScriptRows_range.2.1 323 = .ok (.bipush 7, 2) := by decide +kernel
theorem J_MScriptRows_range_d325 : decode J_MScriptRows_range.2.1 325 = .ok (.if_icmp .ne 7, 3) := by decide +kernel
theorem J_MScriptRows_range_d328 : decode J_MScriptRows_range.2.1 328 = .ok (.iconst 3, 1) := by decide +kernel
theorem J_MScriptRows_range_d329 : decode J_MScriptRows_range.2.1 329 = .ok (.goto 15, 3) := by decide +kernel
theorem J_MScriptRows_range_d332 : decode J_MScriptRows_range.2.1 332 = .ok (.iload_n 1, 1) := by decide +kernel
theorem J_MScriptRows_range_d333 : decode J_MScriptRows_range.2.1 333 = .ok (.iconst 2, 1) := by decide +kernel
theorem J_MScriptRows_range_d334 : decode J_MScriptRows_range.2.1 334 = .ok (.irem, 1) := by decide +kernel
theorem J_MScriptRows_range_d335 : decode J_MScriptRows_range.2.1 335 = .ok (.ifCond .ne 7, 3) := by decide +kernel
theorem J_MScriptRows_range_d338 : decode J_MScriptRows_range.2.1 338 = .ok (.iconst 1, 1) := by decide +kernel
theorem J_MScriptRows_range_d339 : decode J_MScriptRows_range.2.1 339 = .ok (.goto 5, 3) := by decide +kernel
theorem J_MScriptRows_range_d342 : decode J_MScriptRows_range.2.1 342 = .ok (.bipush 10, 2) := by decide +kernel
theorem J_MScriptRows_range_d344 : decode J_MScriptRows_range.2.1 344 = .ok (.ireturn, 1) := by decide +kernel
theorem J_MScriptRows_range_d345 : decode J_MScriptRows_range.2.1 345 = .ok (.iload_n 1, 1) := by decide +kernel
theorem J_MScriptRows_range_d346 : decode J_MScriptRows_range.2.1 346 = .ok (.ifCond .ne 7, 3) := by decide +kernel
theorem J_MScriptRows_range_d349 : decode J_MScriptRows_range.2.1 349 = .ok (.iconst 1, 1) := by decide +kernel
theorem J_MScriptRows_range_d350 : decode J_MScriptRows_range.2.1 350 = .ok (.goto 35, 3) := by decide +kernel
theorem J_MScriptRows_range_d353 : decode J_MScriptRows_range.2.1 353 = .ok (.iload_n 1, 1) := by decide +kernel
theorem J_MScriptRows_range_d354 : decode J_MScriptRows_range.2.1 354 = .ok (.iconst 1, 1) := by decide +kernel
theorem J_MScriptRows_range_d355 : decode J_MScriptRows_range.2.1 355 = .ok (.if_icmp .ne 8, 3) := by decide +kernel
theorem J_MScriptRows_range_d358 : decode J_MScriptRows_range.2.1 358 = .ok (.bipush 99, 2) := by decide +kernel
theorem J_MScriptRows_range_d360 : decode J_MScriptRows_range.2.1 360 = .ok (.goto 25, 3) := by decide +kernel
theorem J_MScriptRows_range_d363 : decode J_MScriptRows_range.2.1 363 = .ok (.iload_n 1, 1) := by decide +kernel
theorem J_MScriptRows_range_d364 : decode J_MScriptRows_range.2.1 364 = .ok (.iconst 2, 1) := by decide +kernel
theorem J_MScriptRows_range_d365 : decode J_MScriptRows_range.2.1 365 = .ok (.irem, 1) := by decide +kernel
theorem J_MScriptRows_range_d366 : decode J_MScriptRows_range.2.1 366 = .ok (.ifCond .ne 7, 3) := by decide +kernel
theorem J_MScriptRows_range_d369 : decode J_MScriptRows_range.2.1 369 = .ok (.iconst 0, 1) := by decide +kernel
theorem J_MScriptRows_range_d370 : decode J_MScriptRows_range.2.1 370 = .ok (.goto 15, 3) := by decide +kernel
theorem J_MScriptRows_range_d373 : decode J_MScriptRows_range.2.1 373 = .ok (.iload_n 1, 1) := by decide +kernel
theorem J_MScriptRows_range_d374 : decode J_MScriptRows_range.2.1 374 = .ok (.iconst 5, 1) := by decide +kernel
theorem J_MScriptRows_range_d375 : decode J_MScriptRows_range.2.1 375 = .ok (.if_icmp .ne 7, 3) := by decide +kernel
theorem J_MScriptRows_range_d378 : decode J_MScriptRows_range.2.1 378 = .ok (.iconst 2, 1) := by decide +kernel
theorem J_MScriptRows_range_d379 : decode J_MScriptRows_range.2.1 379 = .ok (.goto 6, 3) := by decide +kernel
theorem J_MScriptRows_range_d382 : decode J_MScriptRows_range.2.1 382 = .ok (.sipush 999, 3) := by decide +kernel
theorem J_MScriptRows_range_d385 : decode J_MScriptRows_range.2.1 385 = .ok (.ireturn, 1) := by decide +kernel
theorem J_MScriptRows_range_d386 : decode J_MScriptRows_range.2.1 386 = .ok (.iload_n 1, 1) := by decide +kernel
theorem J_MScriptRows_range_d387 : decode J_MScriptRows_range.2.1 387 = .ok (.ifCond .ne 7, 3) := by decide +kernel
theorem J_MScriptRows_range_d390 : decode J_MScriptRows_range.2.1 390 = .ok (.iconst 1, 1) := by decide +kernel
theorem J_MScriptRows_range_d391 : decode J_MScriptRows_range.2.1 391 = .ok (.goto 6, 3) := by decide +kernel
theorem J_MScriptRows_range_d394 : decode J_MScriptRows_range.2.1 394 = .ok (.sipush 1024, 3) := by decide +kernel
theorem J_MScriptRows_range_d397 : decode J_MScriptRows_range.2.1 397 = .ok (.ireturn, 1) := by decide +kernel
theorem J_MScriptRows_range_d398 : decode J_MScriptRows_range.2.1 398 = .ok (.iload_n 0, 1) := by decide +kernel
theorem J_MScriptRows_range_d399 : decode J_MScriptRows_range.2.1 399 = .ok (.iload_n 1, 1) := by decide +kernel
theorem J_MScriptRows_range_d400 : decode J_MScriptRows_range.2.1 400 = .ok (.invokestatic 84, 3) := by decide +kernel
theorem J_MScriptRows_range_d403 : decode J_MScriptRows_range.2.1 403 = .ok (.ireturn, 1) := by decide +kernel
theorem f_MScriptRows_range_ok {L : Nat} {xs : Nat → Int32} {dep : Nat} {w : Bool} {p0 : Int32} {p1 : Int32} {M : im_M} {Q : Int32 → Prop} (hM : lw_S w M) (h : ed (f_MScriptRows_range p0 p1 M) Q) : ia (tb_G L xs) (dep + 1) J_MScriptRows_range (rpI M Q) (0, lv_args 0 [.int p0, .int p1], [], M) := by
  have hS : im_St (tb_G L xs) (dep + 1) J_MScriptRows_range (ia (tb_G L xs) (dep + 1) J_MScriptRows_range (rpI M Q)) := ia_St
  unfold f_MScriptRows_range at h
  have l0 : im_lk (lv_args 0 [.int p0, .int p1]) 0 = some (.int p0) := rfl
  have l1 : im_lk (lv_args 0 [.int p0, .int p1]) 1 = some (.int p1) := rfl
  refine iq_iload_n hS 1 J_MScriptRows_range_d0 l0 rfl ?_
  by_cases q1_35 : p0 = 35
  · replace h := ed_pos q1_35 h
    refine iq_tsw hS J_MScriptRows_range_d1 (t := 291) (sw_v q1_35 (by decide +kernel)) ?_
    refine iq_iload_n hS 292 J_MScriptRows_range_d291 l1 rfl ?_
    refine iq_if_ne hS 295 J_MScriptRows_range_d292 (t := 300) rfl (fun q292 => ?_) rfl (fun q292 => ?_)
    · replace h := ed_pos q292 h
      refine iq_bipush hS 302 J_MScriptRows_range_d300 (v := 99) (by decide +kernel) rfl ?_
      exact iq_iret J_MScriptRows_range_d302 rfl rfl ⟨_, rfl, rfl, ed_some h⟩
    · replace h := ed_neg q292 h
      refine iq_bipush hS 297 J_MScriptRows_range_d295 (v := (-99)) (by decide +kernel) rfl ?_
      refine iq_goto hS J_MScriptRows_range_d297 (t := 302) rfl ?_
      exact iq_iret J_MScriptRows_range_d302 rfl rfl ⟨_, rfl, rfl, ed_some h⟩
  replace h := ed_neg q1_35 h
  by_cases q1_67 : p0 = 67
  · replace h := ed_pos q1_67 h
    refine iq_tsw hS J_MScriptRows_range_d1 (t := 280) (sw_v q1_67 (by decide +kernel)) ?_
    refine iq_iload_n hS 281 J_MScriptRows_range_d280 l1 rfl ?_
    refine iq_if_ne hS 284 J_MScriptRows_range_d281 (t := 288) rfl (fun q281 => ?_) rfl (fun q281 => ?_)
    · replace h := ed_pos q281 h
      refine iq_bipush hS 290 J_MScriptRows_range_d288 (v := 12) (by decide +kernel) rfl ?_
      exact iq_iret J_MScriptRows_range_d290 rfl rfl ⟨_, rfl, rfl, ed_some h⟩
    · replace h := ed_neg q281 h
      refine iq_iconst hS 285 J_MScriptRows_range_d284 (v := 1) (by decide +kernel) rfl ?_
      refine iq_goto hS J_MScriptRows_range_d285 (t := 290) rfl ?_
      exact iq_iret J_MScriptRows_range_d290 rfl rfl ⟨_, rfl, rfl, ed_some h⟩
  replace h := ed_neg q1_67 h
  by_cases q1_68 : p0 = 68 ∨ p0 = 84
  · replace h := ed_pos q1_68 h
    refine iq_tsw hS J_MScriptRows_range_d1 (t := 303) (by rcases q1_68 with z | z <;> exact sw_v z (by decide +kernel)) ?_
    refine iq_iload_n hS 304 J_MScriptRows_range_d303 l1 rfl ?_
    obtain ⟨k1, Q1, hQ1, hk1, h⟩ := jn0_ed h
    have J1 : ∀  (L' : List (Nat × Value)), Q1 () → ia (tb_G L xs) (dep + 1) J_MScriptRows_range (rpI M Q) (313, L', [], M) := by
      intro  L'  h
      replace h := hQ1  h
      refine iq_iconst hS 314 J_MScriptRows_range_d313 (v := 0) (by decide +kernel) rfl ?_
      refine iq_goto hS J_MScriptRows_range_d314 (t := 344) rfl ?_
      exact iq_iret J_MScriptRows_range_d344 rfl rfl ⟨_, rfl, rfl, ed_some h⟩
    refine iq_if_eq hS 307 J_MScriptRows_range_d304 (t := 313) rfl (fun q304 => ?_) rfl (fun q304 => ?_)
    · replace h := ed_pos q304 h
      exact J1  _  (hk1  h)
    · replace h := ed_neg q304 h
      refine iq_iload_n hS 308 J_MScriptRows_range_d307 l1 rfl ?_
      refine iq_bipush hS 310 J_MScriptRows_range_d308 (v := 6) (by decide +kernel) rfl ?_
      refine iq_icmp_ne hS 313 J_MScriptRows_range_d310 (t := 317) rfl (fun q310 => ?_) rfl (fun q310 => ?_)
      · replace h := ed_pos q310 h
        refine iq_iload_n hS 318 J_MScriptRows_range_d317 l1 rfl ?_
        refine iq_iconst hS 319 J_MScriptRows_range_d318 (v := 1) (by decide +kernel) rfl ?_
        obtain ⟨k2, Q2, hQ2, hk2, h⟩ := jn0_ed h
        have J2 : ∀  (L' : List (Nat × Value)), Q2 () → ia (tb_G L xs) (dep + 1) J_MScriptRows_range (rpI M Q) (328, L', [], M) := by
          intro  L'  h
          replace h := hQ2  h
          refine iq_iconst hS 329 J_MScriptRows_range_d328 (v := 3) (by decide +kernel) rfl ?_
          refine iq_goto hS J_MScriptRows_range_d329 (t := 344) rfl ?_
          exact iq_iret J_MScriptRows_range_d344 rfl rfl ⟨_, rfl, rfl, ed_some h⟩
        refine iq_icmp_eq hS 322 J_MScriptRows_range_d319 (t := 328) rfl (fun q319 => ?_) rfl (fun q319 => ?_)
        · replace h := ed_pos q319 h
          exact J2  _  (hk2  h)
        · replace h := ed_neg q319 h
          refine iq_iload_n hS 323 J_MScriptRows_range_d322 l1 rfl ?_
          refine iq_bipush hS 325 J_MScriptRows_range_d323 (v := 7) (by decide +kernel) rfl ?_
          refine iq_icmp_ne hS 328 J_MScriptRows_range_d325 (t := 332) rfl (fun q325 => ?_) rfl (fun q325 => ?_)
          · replace h := ed_pos q325 h
            refine iq_iload_n hS 333 J_MScriptRows_range_d332 l1 rfl ?_
            refine iq_iconst hS 334 J_MScriptRows_range_d333 (v := 2) (by decide +kernel) rfl ?_
            refine iq_irem hS 335 J_MScriptRows_range_d334 (by decide) rfl ?_
            refine iq_if_ne hS 338 J_MScriptRows_range_d335 (t := 342) rfl (fun q335 => ?_) rfl (fun q335 => ?_)
            · replace h := ed_pos q335 h
              refine iq_bipush hS 344 J_MScriptRows_range_d342 (v := 10) (by decide +kernel) rfl ?_
              exact iq_iret J_MScriptRows_range_d344 rfl rfl ⟨_, rfl, rfl, ed_some h⟩
            · replace h := ed_neg q335 h
              refine iq_iconst hS 339 J_MScriptRows_range_d338 (v := 1) (by decide +kernel) rfl ?_
              refine iq_goto hS J_MScriptRows_range_d339 (t := 344) rfl ?_
              exact iq_iret J_MScriptRows_range_d344 rfl rfl ⟨_, rfl, rfl, ed_some h⟩
          · replace h := ed_neg q325 h
            exact J2  _  (hk2  h)
      · replace h := ed_neg q310 h
        exact J1  _  (hk1  h)
  replace h := ed_neg q1_68 h
  by_cases q1_72 : p0 = 72 ∨ p0 = 79
  · replace h := ed_pos q1_72 h
    refine iq_tsw hS J_MScriptRows_range_d1 (t := 264) (by rcases q1_72 with z | z <;> exact sw_v z (by decide +kernel)) ?_
    refine iq_iload_n hS 265 J_MScriptRows_range_d264 l1 rfl ?_
    refine iq_iconst hS 266 J_MScriptRows_range_d265 (v := 2) (by decide +kernel) rfl ?_
    refine iq_irem hS 267 J_MScriptRows_range_d266 (by decide) rfl ?_
    refine iq_if_ne hS 270 J_MScriptRows_range_d267 (t := 276) rfl (fun q267 => ?_) rfl (fun q267 => ?_)
    · replace h := ed_pos q267 h
      refine iq_sipush hS 279 J_MScriptRows_range_d276 (v := 4096) (by decide +kernel) rfl ?_
      exact iq_iret J_MScriptRows_range_d279 rfl rfl ⟨_, rfl, rfl, ed_some h⟩
    · replace h := ed_neg q267 h
      refine iq_sipush hS 273 J_MScriptRows_range_d270 (v := (-4096)) (by decide +kernel) rfl ?_
      refine iq_goto hS J_MScriptRows_range_d273 (t := 279) rfl ?_
      exact iq_iret J_MScriptRows_range_d279 rfl rfl ⟨_, rfl, rfl, ed_some h⟩
  replace h := ed_neg q1_72 h
  by_cases q1_75 : p0 = 75 ∨ p0 = 86
  · replace h := ed_pos q1_75 h
    refine iq_tsw hS J_MScriptRows_range_d1 (t := 239) (by rcases q1_75 with z | z <;> exact sw_v z (by decide +kernel)) ?_
    refine iq_iload_n hS 240 J_MScriptRows_range_d239 l1 rfl ?_
    refine iq_if_ne hS 243 J_MScriptRows_range_d240 (t := 247) rfl (fun q240 => ?_) rfl (fun q240 => ?_)
    · replace h := ed_pos q240 h
      refine iq_bipush hS 249 J_MScriptRows_range_d247 (v := 9) (by decide +kernel) rfl ?_
      exact iq_iret J_MScriptRows_range_d249 rfl rfl ⟨_, rfl, rfl, ed_some h⟩
    · replace h := ed_neg q240 h
      refine iq_iconst hS 244 J_MScriptRows_range_d243 (v := 0) (by decide +kernel) rfl ?_
      refine iq_goto hS J_MScriptRows_range_d244 (t := 249) rfl ?_
      exact iq_iret J_MScriptRows_range_d249 rfl rfl ⟨_, rfl, rfl, ed_some h⟩
  replace h := ed_neg q1_75 h
  by_cases q1_76 : p0 = 76
  · replace h := ed_pos q1_76 h
    refine iq_tsw hS J_MScriptRows_range_d1 (t := 250) (sw_v q1_76 (by decide +kernel)) ?_
    refine iq_iload_n hS 251 J_MScriptRows_range_d250 l1 rfl ?_
    refine iq_iconst hS 252 J_MScriptRows_range_d251 (v := 2) (by decide +kernel) rfl ?_
    refine iq_irem hS 253 J_MScriptRows_range_d252 (by decide) rfl ?_
    refine iq_if_ne hS 256 J_MScriptRows_range_d253 (t := 260) rfl (fun q253 => ?_) rfl (fun q253 => ?_)
    · replace h := ed_pos q253 h
      refine iq_sipush hS 263 J_MScriptRows_range_d260 (v := 512) (by decide +kernel) rfl ?_
      exact iq_iret J_MScriptRows_range_d263 rfl rfl ⟨_, rfl, rfl, ed_some h⟩
    · replace h := ed_neg q253 h
      refine iq_iconst hS 257 J_MScriptRows_range_d256 (v := 1) (by decide +kernel) rfl ?_
      refine iq_goto hS J_MScriptRows_range_d257 (t := 263) rfl ?_
      exact iq_iret J_MScriptRows_range_d263 rfl rfl ⟨_, rfl, rfl, ed_some h⟩
  replace h := ed_neg q1_76 h
  by_cases q1_80 : p0 = 80
  · replace h := ed_pos q1_80 h
    refine iq_tsw hS J_MScriptRows_range_d1 (t := 386) (sw_v q1_80 (by decide +kernel)) ?_
    refine iq_iload_n hS 387 J_MScriptRows_range_d386 l1 rfl ?_
    refine iq_if_ne hS 390 J_MScriptRows_range_d387 (t := 394) rfl (fun q387 => ?_) rfl (fun q387 => ?_)
    · replace h := ed_pos q387 h
      refine iq_sipush hS 397 J_MScriptRows_range_d394 (v := 1024) (by decide +kernel) rfl ?_
      exact iq_iret J_MScriptRows_range_d397 rfl rfl ⟨_, rfl, rfl, ed_some h⟩
    · replace h := ed_neg q387 h
      refine iq_iconst hS 391 J_MScriptRows_range_d390 (v := 1) (by decide +kernel) rfl ?_
      refine iq_goto hS J_MScriptRows_range_d391 (t := 397) rfl ?_
      exact iq_iret J_MScriptRows_range_d397 rfl rfl ⟨_, rfl, rfl, ed_some h⟩
  replace h := ed_neg q1_80 h
  by_cases q1_83 : p0 = 83 ∨ p0 = 85
  · replace h := ed_pos q1_83 h
    refine iq_tsw hS J_MScriptRows_range_d1 (t := 228) (by rcases q1_83 with z | z <;> exact sw_v z (by decide +kernel)) ?_
    refine iq_iload_n hS 229 J_MScriptRows_range_d228 l1 rfl ?_
    refine iq_if_ne hS 232 J_MScriptRows_range_d229 (t := 236) rfl (fun q229 => ?_) rfl (fun q229 => ?_)
    · replace h := ed_pos q229 h
      refine iq_bipush hS 238 J_MScriptRows_range_d236 (v := 7) (by decide +kernel) rfl ?_
      exact iq_iret J_MScriptRows_range_d238 rfl rfl ⟨_, rfl, rfl, ed_some h⟩
    · replace h := ed_neg q229 h
      refine iq_iconst hS 233 J_MScriptRows_range_d232 (v := 0) (by decide +kernel) rfl ?_
      refine iq_goto hS J_MScriptRows_range_d233 (t := 238) rfl ?_
      exact iq_iret J_MScriptRows_range_d238 rfl rfl ⟨_, rfl, rfl, ed_some h⟩
  replace h := ed_neg q1_83 h
  by_cases q1_87 : p0 = 87
  · replace h := ed_pos q1_87 h
    refine iq_tsw hS J_MScriptRows_range_d1 (t := 345) (sw_v q1_87 (by decide +kernel)) ?_
    refine iq_iload_n hS 346 J_MScriptRows_range_d345 l1 rfl ?_
    refine iq_if_ne hS 349 J_MScriptRows_range_d346 (t := 353) rfl (fun q346 => ?_) rfl (fun q346 => ?_)
    · replace h := ed_pos q346 h
      refine iq_iload_n hS 354 J_MScriptRows_range_d353 l1 rfl ?_
      refine iq_iconst hS 355 J_MScriptRows_range_d354 (v := 1) (by decide +kernel) rfl ?_
      refine iq_icmp_ne hS 358 J_MScriptRows_range_d355 (t := 363) rfl (fun q355 => ?_) rfl (fun q355 => ?_)
      · replace h := ed_pos q355 h
        refine iq_iload_n hS 364 J_MScriptRows_range_d363 l1 rfl ?_
        refine iq_iconst hS 365 J_MScriptRows_range_d364 (v := 2) (by decide +kernel) rfl ?_
        refine iq_irem hS 366 J_MScriptRows_range_d365 (by decide) rfl ?_
        refine iq_if_ne hS 369 J_MScriptRows_range_d366 (t := 373) rfl (fun q366 => ?_) rfl (fun q366 => ?_)
        · replace h := ed_pos q366 h
          refine iq_iload_n hS 374 J_MScriptRows_range_d373 l1 rfl ?_
          refine iq_iconst hS 375 J_MScriptRows_range_d374 (v := 5) (by decide +kernel) rfl ?_
          refine iq_icmp_ne hS 378 J_MScriptRows_range_d375 (t := 382) rfl (fun q375 => ?_) rfl (fun q375 => ?_)
          · replace h := ed_pos q375 h
            refine iq_sipush hS 385 J_MScriptRows_range_d382 (v := 999) (by decide +kernel) rfl ?_
            exact iq_iret J_MScriptRows_range_d385 rfl rfl ⟨_, rfl, rfl, ed_some h⟩
          · replace h := ed_neg q375 h
            refine iq_iconst hS 379 J_MScriptRows_range_d378 (v := 2) (by decide +kernel) rfl ?_
            refine iq_goto hS J_MScriptRows_range_d379 (t := 385) rfl ?_
            exact iq_iret J_MScriptRows_range_d385 rfl rfl ⟨_, rfl, rfl, ed_some h⟩
        · replace h := ed_neg q366 h
          refine iq_iconst hS 370 J_MScriptRows_range_d369 (v := 0) (by decide +kernel) rfl ?_
          refine iq_goto hS J_MScriptRows_range_d370 (t := 385) rfl ?_
          exact iq_iret J_MScriptRows_range_d385 rfl rfl ⟨_, rfl, rfl, ed_some h⟩
      · replace h := ed_neg q355 h
        refine iq_bipush hS 360 J_MScriptRows_range_d358 (v := 99) (by decide +kernel) rfl ?_
        refine iq_goto hS J_MScriptRows_range_d360 (t := 385) rfl ?_
        exact iq_iret J_MScriptRows_range_d385 rfl rfl ⟨_, rfl, rfl, ed_some h⟩
    · replace h := ed_neg q346 h
      refine iq_iconst hS 350 J_MScriptRows_range_d349 (v := 1) (by decide +kernel) rfl ?_
      refine iq_goto hS J_MScriptRows_range_d350 (t := 385) rfl ?_
      exact iq_iret J_MScriptRows_range_d385 rfl rfl ⟨_, rfl, rfl, ed_some h⟩
  replace h := ed_neg q1_87 h
  refine iq_tsw hS J_MScriptRows_range_d1 (t := 398) (sw_d [35, 67, 68, 84, 72, 79, 75, 86, 76, 80, 83, 85, 87] (by decide) (by decide) (by decide +kernel) (sw_nc q1_35 (sw_nc q1_67 (sw_nc (fun z => q1_68 (Or.inl z)) (sw_nc (fun z => q1_68 (Or.inr z)) (sw_nc (fun z => q1_72 (Or.inl z)) (sw_nc (fun z => q1_72 (Or.inr z)) (sw_nc (fun z => q1_75 (Or.inl z)) (sw_nc (fun z => q1_75 (Or.inr z)) (sw_nc q1_76 (sw_nc q1_80 (sw_nc (fun z => q1_83 (Or.inl z)) (sw_nc (fun z => q1_83 (Or.inr z)) (sw_nc q1_87 sw_nn)))))))))))))) ?_
  refine iq_iload_n hS 399 J_MScriptRows_range_d398 l0 rfl ?_
  refine iq_iload_n hS 400 J_MScriptRows_range_d399 l1 rfl ?_
  obtain ⟨Q3, hQ3, h⟩ := bd1_ed h
  refine iq_cpI hS 403 J_MScriptRows_range_d400 rfl (pr_stat (vs := [_, _]) lc_15_84 lT_292 rfl rfl (by decide) rfl (Nat.le_of_ble_eq_true rfl) (Nat.le_of_ble_eq_true rfl)) (f_MScriptRows_picture_ok (dep := dep + 0) hM h) rfl ?_
  intro x3 h
  replace h := hQ3 _ h
  exact iq_iret J_MScriptRows_range_d403 rfl rfl ⟨_, rfl, rfl, ed_some h⟩
noncomputable def f_MScriptRows_testRanges_L2 (v2 : Int32) (M4 : im_M) (x3 : Int32) : Option ((Int32) ⊕ ((Unit) ⊕ (Int32))) := bd1 (f_MScriptRows_numbers v2 M4) fun (x5 : Int32) => if x5 ≤ x3 then some (.inr (.inl ())) else gd (inb x3 4) <| bd1 (f_MScriptRows_range v2 ((2 : Int32) * x3) M4) fun (x6 : Int32) => if (im_i M4 78 (Int32.toNatClampNeg x3)) < x6 then some (.inr (.inr 5)) else gd (inb x3 4) <| bd1 (f_MScriptRows_range v2 (((2 : Int32) * x3) + 1) M4) fun (x7 : Int32) => if (im_i M4 78 (Int32.toNatClampNeg x3)) ≤ x7 then some (.inl (x3 + 1)) else some (.inr (.inr 5))
noncomputable def f_MScriptRows_testRanges (p0 : Int32) (M : im_M) : Option (Int32) := bs0 (lp (uc1 (f_MScriptRows_testRanges_L2 p0 M)) 0) (fun (_ : Unit) => some 0) (fun t => some t)
theorem J_MScriptRows_testRanges_d0 : decode J_MScriptRows_testRanges.2.1 0 = .ok (.iconst 0, 1) := by decide +kernel
theorem J_MScriptRows_testRanges_d1 : decode J_MScriptRows_testRanges.2.1 1 = .ok (.istore_n 2, 1) := by decide +kernel
theorem J_MScriptRows_testRanges_d2 : decode J_MScriptRows_testRanges.2.1 2 = .ok (.iload_n 2, 1) := by decide +kernel
theorem J_MScriptRows_testRanges_d3 : decode J_MScriptRows_testRanges.2.1 3 = .ok (.iload_n 1, 1) := by decide +kernel
theorem J_MScriptRows_testRanges_d4 : decode J_MScriptRows_testRanges.2.1 4 = .ok (.invokestatic 88, 3) := by decide +kernel
theorem J_MScriptRows_testRanges_d7 : decode J_MScriptRows_testRanges.2.1 7 = .ok (.if_icmp .ge 45, 3) := by decide +kernel
theorem J_MScriptRows_testRanges_d10 : decode J_MScriptRows_testRanges.2.1 10 = .ok (.aload_n 0, 1) := by decide +kernel
theorem J_MScriptRows_testRanges_d11 : decode J_MScriptRows_testRanges.2.1 11 = .ok (.getfield 32, 3) := by decide +kernel
theorem J_MScriptRows_testRanges_d14 : decode J_MScriptRows_testRanges.2.1 14 = .ok (.iload_n 2, 1) := by decide +kernel
theorem J_MScriptRows_testRanges_d15 : decode J_MScriptRows_testRanges.2.1 15 = .ok (.iaload, 1) := by decide +kernel
theorem J_MScriptRows_testRanges_d16 : decode J_MScriptRows_testRanges.2.1 16 = .ok (.iload_n 1, 1) := by decide +kernel
theorem J_MScriptRows_testRanges_d17 : decode J_MScriptRows_testRanges.2.1 17 = .ok (.iconst 2, 1) := by decide +kernel
theorem J_MScriptRows_testRanges_d18 : decode J_MScriptRows_testRanges.2.1 18 = .ok (.iload_n 2, 1) := by decide +kernel
theorem J_MScriptRows_testRanges_d19 : decode J_MScriptRows_testRanges.2.1 19 = .ok (.imul, 1) := by decide +kernel
theorem J_MScriptRows_testRanges_d20 : decode J_MScriptRows_testRanges.2.1 20 = .ok (.invokestatic 98, 3) := by decide +kernel
theorem J_MScriptRows_testRanges_d23 : decode J_MScriptRows_testRanges.2.1 23 = .ok (.if_icmp .lt 21, 3) := by decide +kernel
theorem J_MScriptRows_testRanges_d26 : decode J_MScriptRows_testRanges.2.1 26 = .ok (.aload_n 0, 1) := by decide +kernel
theorem J_MScriptRows_testRanges_d27 : decode J_MScriptRows_testRanges.2.1 27 = .ok (.getfield 32, 3) := by decide +kernel
theorem J_MScriptRows_testRanges_d30 : decode J_MScriptRows_testRanges.2.1 30 = .ok (.iload_n 2, 1) := by decide +kernel
theorem J_MScriptRows_testRanges_d31 : decode J_MScriptRows_testRanges.2.1 31 = .ok (.iaload, 1) := by decide +kernel
theorem J_MScriptRows_testRanges_d32 : decode J_MScriptRows_testRanges.2.1 32 = .ok (.iload_n 1, 1) := by decide +kernel
theorem J_MScriptRows_testRanges_d33 : decode J_MScriptRows_testRanges.2.1 33 = .ok (.iconst 2, 1) := by decide +kernel
theorem J_MScriptRows_testRanges_d34 : decode J_MScriptRows_testRanges.2.1 34 = .ok (.iload_n 2, 1) := by decide +kernel
theorem J_MScriptRows_testRanges_d35 : decode J_MScriptRows_testRanges.2.1 35 = .ok (.imul, 1) := by decide +kernel
theorem J_MScriptRows_testRanges_d36 : decode J_MScriptRows_testRanges.2.1 36 = .ok (.iconst 1, 1) := by decide +kernel
theorem J_MScriptRows_testRanges_d37 : decode J_MScriptRows_testRanges.2.1 37 = .ok (.iadd, 1) := by decide +kernel
theorem J_MScriptRows_testRanges_d38 : decode J_MScriptRows_testRanges.2.1 38 = .ok (.invokestatic 98, 3) := by decide +kernel
theorem J_MScriptRows_testRanges_d41 : decode J_MScriptRows_testRanges.2.1 41 = .ok (.if_icmp .le 5, 3) := by decide +kernel
theorem J_MScriptRows_testRanges_d44 : decode J_MScriptRows_testRanges.2.1 44 = .ok (.iconst 5, 1) := by decide +kernel
theorem J_MScriptRows_testRanges_d45 : decode J_MScriptRows_testRanges.2.1 45 = .ok (.ireturn, 1) := by decide +kernel
theorem J_MScriptRows_testRanges_d46 : decode J_MScriptRows_testRanges.2.1 46 = .ok (.iinc 2 1, 3) := by decide +kernel
theorem J_MScriptRows_testRanges_d49 : decode J_MScriptRows_testRanges.2.1 49 = .ok (.goto (-47), 3) := by decide +kernel
theorem J_MScriptRows_testRanges_d52 : decode J_MScriptRows_testRanges.2.1 52 = .ok (.iconst 0, 1) := by decide +kernel
theorem J_MScriptRows_testRanges_d53 : decode J_MScriptRows_testRanges.2.1 53 = .ok (.ireturn, 1) := by decide +kernel
theorem f_MScriptRows_testRanges_ok {L : Nat} {xs : Nat → Int32} {dep : Nat} {w : Bool} {p0 : Int32} {M : im_M} {Q : Int32 → Prop} (hM : lw_S w M) (h : ed (f_MScriptRows_testRanges p0 M) Q) : ia (tb_G L xs) (dep + 2) J_MScriptRows_testRanges (rpI M Q) (0, lv_args 0 [.ref 71, .int p0], [], M) := by
  have hS : im_St (tb_G L xs) (dep + 2) J_MScriptRows_testRanges (ia (tb_G L xs) (dep + 2) J_MScriptRows_testRanges (rpI M Q)) := ia_St
  unfold f_MScriptRows_testRanges at h
  have l0 : im_lk (lv_args 0 [.ref 71, .int p0]) 0 = some (.ref 71) := rfl
  have l1 : im_lk (lv_args 0 [.ref 71, .int p0]) 1 = some (.int p0) := rfl
  refine iq_iconst hS 1 J_MScriptRows_testRanges_d0 (v := 0) (by decide +kernel) rfl ?_
  refine iq_istore_n hS 2 J_MScriptRows_testRanges_d1 (by decide) rfl ?_
  obtain ⟨Q1, hQ1, hR1, h⟩ := bs0_ed h
  have K1 : ∀  (L' : List (Nat × Value)), Q1 (.inl ()) → ia (tb_G L xs) (dep + 2) J_MScriptRows_testRanges (rpI M Q) (52, L', [], M) := by
    intro  L'  h
    replace h := hQ1  h
    refine iq_iconst hS 53 J_MScriptRows_testRanges_d52 (v := 0) (by decide +kernel) rfl ?_
    exact iq_iret J_MScriptRows_testRanges_d53 rfl rfl ⟨_, rfl, rfl, ed_some h⟩
  obtain ⟨r1, hr1, hq1⟩ := h
  obtain ⟨n1, hn1⟩ := lp_n hr1
  have I1 : ∀ (n : Nat) (x2 : Int32) (L' : List (Nat × Value)), im_lk L' 0 = some (.ref 71) → im_lk L' 1 = some (.int p0) → im_lk L' 2 = some (.int x2) → lpn (uc1 (f_MScriptRows_testRanges_L2 p0 M)) n x2 = some r1 → ia (tb_G L xs) (dep + 2) J_MScriptRows_testRanges (rpI M Q) (2, L', [], M) := by
    intro n
    induction n with
    | zero => intro x2 L' l3 l4 l5 hn; exact (lpn_0 hn).elim
    | succ n ih =>
      intro x2 L' l3 l4 l5 hn
      have h := lpn_ed1 hn
      unfold f_MScriptRows_testRanges_L2 at h
      refine iq_iload_n hS 3 J_MScriptRows_testRanges_d2 l5 rfl ?_
      refine iq_iload_n hS 4 J_MScriptRows_testRanges_d3 l4 rfl ?_
      obtain ⟨Q6, hQ6, h⟩ := bd1_ed h
      refine iq_cpI hS 7 J_MScriptRows_testRanges_d4 rfl (pr_stat (vs := [_]) lc_15_88 lT_285 rfl rfl (by decide) rfl (Nat.le_of_ble_eq_true rfl) (Nat.le_of_ble_eq_true rfl)) (f_MScriptRows_numbers_ok (dep := dep + 1) hM h) rfl ?_
      intro x6 h
      replace h := hQ6 _ h
      refine iq_icmp_ge hS 10 J_MScriptRows_testRanges_d7 (t := 52) rfl (fun q7 => ?_) rfl (fun q7 => ?_)
      · replace h := ed_pos q7 h
        exact K1  _  (lq_r h hq1)
      · replace h := ed_neg q7 h
        refine iq_aload_n hS 11 J_MScriptRows_testRanges_d10 l3 rfl ?_
        refine iq_getR hS 14 J_MScriptRows_testRanges_d11 lf_15_32 (Or.inr ⟨_, rfl⟩) (ka_71 hM) (ra_71_15 hM) rfl ?_
        refine iq_iload_n hS 15 J_MScriptRows_testRanges_d14 l5 rfl ?_
        obtain ⟨g15, h⟩ := ed_gd h
        refine iq_iaload hS 16 J_MScriptRows_testRanges_d15 ⟨(ka_78 hM).1, (ka_78 hM).2, g15.1, ix_lt (kl_78 hM) g15.2⟩ rfl ?_
        refine iq_iload_n hS 17 J_MScriptRows_testRanges_d16 l4 rfl ?_
        refine iq_iconst hS 18 J_MScriptRows_testRanges_d17 (v := 2) (by decide +kernel) rfl ?_
        refine iq_iload_n hS 19 J_MScriptRows_testRanges_d18 l5 rfl ?_
        refine iq_imul hS 20 J_MScriptRows_testRanges_d19 rfl ?_
        obtain ⟨Q7, hQ7, h⟩ := bd1_ed h
        refine iq_cpI hS 23 J_MScriptRows_testRanges_d20 rfl (pr_stat (vs := [_, _]) lc_15_98 lT_291 rfl rfl (by decide) rfl (Nat.le_of_ble_eq_true rfl) (Nat.le_of_ble_eq_true rfl)) (f_MScriptRows_range_ok (dep := dep + 0) hM h) rfl ?_
        intro x7 h
        replace h := hQ7 _ h
        refine iq_icmp_lt hS 26 J_MScriptRows_testRanges_d23 (t := 44) rfl (fun q23 => ?_) rfl (fun q23 => ?_)
        · replace h := ed_pos q23 h
          refine iq_iconst hS 45 J_MScriptRows_testRanges_d44 (v := 5) (by decide +kernel) rfl ?_
          exact iq_iret J_MScriptRows_testRanges_d45 rfl rfl ⟨_, rfl, rfl, ed_some (hR1 _ (lq_r h hq1))⟩
        · replace h := ed_neg q23 h
          refine iq_aload_n hS 27 J_MScriptRows_testRanges_d26 l3 rfl ?_
          refine iq_getR hS 30 J_MScriptRows_testRanges_d27 lf_15_32 (Or.inr ⟨_, rfl⟩) (ka_71 hM) (ra_71_15 hM) rfl ?_
          refine iq_iload_n hS 31 J_MScriptRows_testRanges_d30 l5 rfl ?_
          obtain ⟨g31, h⟩ := ed_gd h
          refine iq_iaload hS 32 J_MScriptRows_testRanges_d31 ⟨(ka_78 hM).1, (ka_78 hM).2, g31.1, ix_lt (kl_78 hM) g31.2⟩ rfl ?_
          refine iq_iload_n hS 33 J_MScriptRows_testRanges_d32 l4 rfl ?_
          refine iq_iconst hS 34 J_MScriptRows_testRanges_d33 (v := 2) (by decide +kernel) rfl ?_
          refine iq_iload_n hS 35 J_MScriptRows_testRanges_d34 l5 rfl ?_
          refine iq_imul hS 36 J_MScriptRows_testRanges_d35 rfl ?_
          refine iq_iconst hS 37 J_MScriptRows_testRanges_d36 (v := 1) (by decide +kernel) rfl ?_
          refine iq_iadd hS 38 J_MScriptRows_testRanges_d37 rfl ?_
          obtain ⟨Q8, hQ8, h⟩ := bd1_ed h
          refine iq_cpI hS 41 J_MScriptRows_testRanges_d38 rfl (pr_stat (vs := [_, _]) lc_15_98 lT_291 rfl rfl (by decide) rfl (Nat.le_of_ble_eq_true rfl) (Nat.le_of_ble_eq_true rfl)) (f_MScriptRows_range_ok (dep := dep + 0) hM h) rfl ?_
          intro x8 h
          replace h := hQ8 _ h
          refine iq_icmp_le hS 44 J_MScriptRows_testRanges_d41 (t := 46) rfl (fun q41 => ?_) rfl (fun q41 => ?_)
          · replace h := ed_pos q41 h
            refine iq_iincv hS 49 J_MScriptRows_testRanges_d46 (c := 1) (by decide +kernel) l5 (by decide) rfl ?_
            refine iq_goto hS J_MScriptRows_testRanges_d49 (t := 2) rfl ?_
            exact ih _ _ (lk_1r l3 (by decide)) (lk_1i l4 (by decide)) lk_1s (lq_l h)
          · replace h := ed_neg q41 h
            refine iq_iconst hS 45 J_MScriptRows_testRanges_d44 (v := 5) (by decide +kernel) rfl ?_
            exact iq_iret J_MScriptRows_testRanges_d45 rfl rfl ⟨_, rfl, rfl, ed_some (hR1 _ (lq_r h hq1))⟩
  exact I1 n1 _ _ (lk_1r l0 (by decide)) (lk_1i l1 (by decide)) lk_1s hn1
noncomputable def f_MScriptRows_hex (p0 : Int32) (M : im_M) : Option (Int32) := bd1 (f_MScriptRows_isDigit p0 M) fun (x1 : Int32) => if x1 = 0 then jn0 (fun (_ : Unit) => if p0 < 97 then some (-1) else if 102 < p0 then some (-1) else some (p0 - 87)) fun k2 => if p0 < 65 then k2 () else if 70 < p0 then k2 () else some (p0 - 55) else some (p0 - 48)
theorem J_MScriptRows_hex_d0 : decode J_MScriptRows_hex.2.1 0 = .ok (.iload_n 0, 1) := by decide +kernel
theorem J_MScriptRows_hex_d1 : decode J_MScriptRows_hex.2.1 1 = .ok (.invokestatic 80, 3) := by decide +kernel
theorem J_MScriptRows_hex_d4 : decode J_MScriptRows_hex.2.1 4 = .ok (.ifCond .eq 10, 3) := by decide +kernel
theorem J_MScriptRows_hex_d7 : decode J_MScriptRows_hex.2.1 7 = .ok (.iload_n 0, 1) := by decide +kernel
theorem J_MScriptRows_hex_d8 : decode J_MScriptRows_hex.2.1 8 = .ok (.bipush 48, 2) := by decide +kernel
theorem J_MScriptRows_hex_d10 : decode J_MScriptRows_hex.2.1 10 = .ok (.isub, 1) := by decide +kernel
theorem J_MScriptRows_hex_d11 : decode J_MScriptRows_hex.2.1 11 = .ok (.goto 42, 3) := by decide +kernel
theorem J_MScriptRows_hex_d14 : decode J_MScriptRows_hex.2.1 14 = .ok (.iload_n 0, 1) := by decide +kernel
theorem J_MScriptRows_hex_d15 : decode J_MScriptRows_hex.2.1 15 = .ok (.bipush 65, 2) := by decide +kernel
theorem J_MScriptRows_hex_d17 : decode J_MScriptRows_hex.2.1 17 = .ok (.if_icmp .lt 16, 3) := by decide +kernel
theorem J_MScriptRows_hex_d20 : decode J_MScriptRows_hex.2.1 20 = .ok (.iload_n 0, 1) := by decide +kernel
theorem J_MScriptRows_hex_d21 : decode J_MScriptRows_hex.2.1 21 = .ok (.bipush 70, 2) := by decide +kernel
theorem J_MScriptRows_hex_d23 : decode J_MScriptRows_hex.2.1 23 = .ok (.if_icmp .gt 10, 3) := by decide +kernel
theorem J_MScriptRows_hex_d26 : decode J_MScriptRows_hex.2.1 26 = .ok (.iload_n 0, 1) := by decide +kernel
theorem J_MScriptRows_hex_d27 : decode J_MScriptRows_hex.2.1 27 = .ok (.bipush 55, 2) := by decide +kernel
theorem J_MScriptRows_hex_d29 : decode J_MScriptRows_hex.2.1 29 = .ok (.isub, 1) := by decide +kernel
theorem J_MScriptRows_hex_d30 : decode J_MScriptRows_hex.2.1 30 = .ok (.goto 23, 3) := by decide +kernel
theorem J_MScriptRows_hex_d33 : decode J_MScriptRows_hex.2.1 33 = .ok (.iload_n 0, 1) := by decide +kernel
theorem J_MScriptRows_hex_d34 : decode J_MScriptRows_hex.2.1 34 = .ok (.bipush 97, 2) := by decide +kernel
theorem J_MScriptRows_hex_d36 : decode J_MScriptRows_hex.2.1 36 = .ok (.if_icmp .lt 16, 3) := by decide +kernel
theorem J_MScriptRows_hex_d39 : decode J_MScriptRows_hex.2.1 39 = .ok (.iload_n 0, 1) := by decide +kernel
theorem J_MScriptRows_hex_d40 : decode J_MScriptRows_hex.2.1 40 = .ok (.bipush 102, 2) := by decide +kernel
theorem J_MScriptRows_hex_d42 : decode J_MScriptRows_hex.2.1 42 = .ok (.if_icmp .gt 10, 3) := by decide +kernel
theorem J_MScriptRows_hex_d45 : decode J_MScriptRows_hex.2.1 45 = .ok (.iload_n 0, 1) := by decide +kernel
theorem J_MScriptRows_hex_d46 : decode J_MScriptRows_hex.2.1 46 = .ok (.bipush 87, 2) := by decide +kernel
theorem J_MScriptRows_hex_d48 : decode J_MScriptRows_hex.2.1 48 = .ok (.isub, 1) := by decide +kernel
theorem J_MScriptRows_hex_d49 : decode J_MScriptRows_hex.2.1 49 = .ok (.goto 4, 3) := by decide +kernel
theorem J_MScriptRows_hex_d52 : decode J_MScriptRows_hex.2.1 52 = .ok (.iconst (-1), 1) := by decide +kernel
theorem J_MScriptRows_hex_d53 : decode J_MScriptRows_hex.2.1 53 = .ok (.ireturn, 1) := by decide +kernel
theorem f_MScriptRows_hex_ok {L : Nat} {xs : Nat → Int32} {dep : Nat} {w : Bool} {p0 : Int32} {M : im_M} {Q : Int32 → Prop} (hM : lw_S w M) (h : ed (f_MScriptRows_hex p0 M) Q) : ia (tb_G L xs) (dep + 1) J_MScriptRows_hex (rpI M Q) (0, lv_args 0 [.int p0], [], M) := by
  have hS : im_St (tb_G L xs) (dep + 1) J_MScriptRows_hex (ia (tb_G L xs) (dep + 1) J_MScriptRows_hex (rpI M Q)) := ia_St
  unfold f_MScriptRows_hex at h
  have l0 : im_lk (lv_args 0 [.int p0]) 0 = some (.int p0) := rfl
  refine iq_iload_n hS 1 J_MScriptRows_hex_d0 l0 rfl ?_
  obtain ⟨Q1, hQ1, h⟩ := bd1_ed h
  refine iq_cpI hS 4 J_MScriptRows_hex_d1 rfl (pr_stat (vs := [_]) lc_15_80 lT_289 rfl rfl (by decide) rfl (Nat.le_of_ble_eq_true rfl) (Nat.le_of_ble_eq_true rfl)) (f_MScriptRows_isDigit_ok (dep := dep + 0) hM h) rfl ?_
  intro x1 h
  replace h := hQ1 _ h
  refine iq_if_eq hS 7 J_MScriptRows_hex_d4 (t := 14) rfl (fun q4 => ?_) rfl (fun q4 => ?_)
  · replace h := ed_pos q4 h
    refine iq_iload_n hS 15 J_MScriptRows_hex_d14 l0 rfl ?_
    refine iq_bipush hS 17 J_MScriptRows_hex_d15 (v := 65) (by decide +kernel) rfl ?_
    obtain ⟨k2, Q2, hQ2, hk2, h⟩ := jn0_ed h
    have J2 : ∀  (L' : List (Nat × Value)), im_lk L' 0 = some (.int p0) → Q2 () → ia (tb_G L xs) (dep + 1) J_MScriptRows_hex (rpI M Q) (33, L', [], M) := by
      intro  L' l3 h
      replace h := hQ2  h
      refine iq_iload_n hS 34 J_MScriptRows_hex_d33 l3 rfl ?_
      refine iq_bipush hS 36 J_MScriptRows_hex_d34 (v := 97) (by decide +kernel) rfl ?_
      refine iq_icmp_lt hS 39 J_MScriptRows_hex_d36 (t := 52) rfl (fun q36 => ?_) rfl (fun q36 => ?_)
      · replace h := ed_pos q36 h
        refine iq_iconst hS 53 J_MScriptRows_hex_d52 (v := (-1)) (by decide +kernel) rfl ?_
        exact iq_iret J_MScriptRows_hex_d53 rfl rfl ⟨_, rfl, rfl, ed_some h⟩
      · replace h := ed_neg q36 h
        refine iq_iload_n hS 40 J_MScriptRows_hex_d39 l3 rfl ?_
        refine iq_bipush hS 42 J_MScriptRows_hex_d40 (v := 102) (by decide +kernel) rfl ?_
        refine iq_icmp_gt hS 45 J_MScriptRows_hex_d42 (t := 52) rfl (fun q42 => ?_) rfl (fun q42 => ?_)
        · replace h := ed_pos q42 h
          refine iq_iconst hS 53 J_MScriptRows_hex_d52 (v := (-1)) (by decide +kernel) rfl ?_
          exact iq_iret J_MScriptRows_hex_d53 rfl rfl ⟨_, rfl, rfl, ed_some h⟩
        · replace h := ed_neg q42 h
          refine iq_iload_n hS 46 J_MScriptRows_hex_d45 l3 rfl ?_
          refine iq_bipush hS 48 J_MScriptRows_hex_d46 (v := 87) (by decide +kernel) rfl ?_
          refine iq_isub hS 49 J_MScriptRows_hex_d48 rfl ?_
          refine iq_goto hS J_MScriptRows_hex_d49 (t := 53) rfl ?_
          exact iq_iret J_MScriptRows_hex_d53 rfl rfl ⟨_, rfl, rfl, ed_some h⟩
    refine iq_icmp_lt hS 20 J_MScriptRows_hex_d17 (t := 33) rfl (fun q17 => ?_) rfl (fun q17 => ?_)
    · replace h := ed_pos q17 h
      exact J2  _ l0 (hk2  h)
    · replace h := ed_neg q17 h
      refine iq_iload_n hS 21 J_MScriptRows_hex_d20 l0 rfl ?_
      refine iq_bipush hS 23 J_MScriptRows_hex_d21 (v := 70) (by decide +kernel) rfl ?_
      refine iq_icmp_gt hS 26 J_MScriptRows_hex_d23 (t := 33) rfl (fun q23 => ?_) rfl (fun q23 => ?_)
      · replace h := ed_pos q23 h
        exact J2  _ l0 (hk2  h)
      · replace h := ed_neg q23 h
        refine iq_iload_n hS 27 J_MScriptRows_hex_d26 l0 rfl ?_
        refine iq_bipush hS 29 J_MScriptRows_hex_d27 (v := 55) (by decide +kernel) rfl ?_
        refine iq_isub hS 30 J_MScriptRows_hex_d29 rfl ?_
        refine iq_goto hS J_MScriptRows_hex_d30 (t := 53) rfl ?_
        exact iq_iret J_MScriptRows_hex_d53 rfl rfl ⟨_, rfl, rfl, ed_some h⟩
  · replace h := ed_neg q4 h
    refine iq_iload_n hS 8 J_MScriptRows_hex_d7 l0 rfl ?_
    refine iq_bipush hS 10 J_MScriptRows_hex_d8 (v := 48) (by decide +kernel) rfl ?_
    refine iq_isub hS 11 J_MScriptRows_hex_d10 rfl ?_
    refine iq_goto hS J_MScriptRows_hex_d11 (t := 53) rfl ?_
    exact iq_iret J_MScriptRows_hex_d53 rfl rfl ⟨_, rfl, rfl, ed_some h⟩
noncomputable def f_MScriptRows_takeData_L5 (M2 : im_M) : Option ((im_M) ⊕ ((im_M) ⊕ (Int32 × im_M))) := bd1 (f_MScriptRows_peek M2) fun (x3 : Int32) => if x3 = (-1) then some (.inr (.inl M2)) else bd1 (f_MScriptRows_peek M2) fun (x4 : Int32) => if x4 = 94 then some (.inr (.inl M2)) else bd2 (f_MScriptRows_next M2) fun (x5 : Int32) (M5 : im_M) => jn2 (fun (y13 : Int32) (M14 : im_M) => if ¬ (im_i M14 71 17) = 200 then gd (inb (im_i M14 71 17) 200) <| some (.inl (im_setI (im_setI M14 79 (Int32.toNatClampNeg (im_i M14 71 17)) y13) 71 17 ((im_i (im_setI M14 79 (Int32.toNatClampNeg (im_i M14 71 17)) y13) 71 17) + 1))) else some (.inr (.inr (6, M14)))) fun k6 => if ¬ x5 = 95 then k6 x5 M5 else bd1 (f_MScriptRows_peek M5) fun (x7 : Int32) => bd1 (f_MScriptRows_hex x7 M5) fun (x8 : Int32) => if 0 ≤ x8 then bd2 (f_MScriptRows_next M5) fun (x9 : Int32) (M9 : im_M) => bd1 (f_MScriptRows_peek M9) fun (x10 : Int32) => bd1 (f_MScriptRows_hex x10 M9) fun (x11 : Int32) => if 0 ≤ x11 then bd2 (f_MScriptRows_next M9) fun (x12 : Int32) (M12 : im_M) => k6 (((16 : Int32) * x8) + x11) M12 else some (.inr (.inr (6, M9))) else some (.inr (.inr (6, M5)))
noncomputable def f_MScriptRows_takeData (M : im_M) : Option (Int32 × im_M) := bs1 (lp (uc1 (f_MScriptRows_takeData_L5)) (im_setI M 71 17 0)) (fun (M17 : im_M) => some (0, M17)) (fun t => some t)
theorem J_MScriptRows_takeData_d0 : decode J_MScriptRows_takeData.2.1 0 = .ok (.aload_n 0, 1) := by decide +kernel
theorem J_MScriptRows_takeData_d1 : decode J_MScriptRows_takeData.2.1 1 = .ok (.iconst 0, 1) := by decide +kernel
theorem J_MScriptRows_takeData_d2 : decode J_MScriptRows_takeData.2.1 2 = .ok (.putfield 101, 3) := by decide +kernel
theorem J_MScriptRows_takeData_d5 : decode J_MScriptRows_takeData.2.1 5 = .ok (.aload_n 0, 1) := by decide +kernel
theorem J_MScriptRows_takeData_d6 : decode J_MScriptRows_takeData.2.1 6 = .ok (.invokevirtual 76, 3) := by decide +kernel
theorem J_MScriptRows_takeData_d9 : decode J_MScriptRows_takeData.2.1 9 = .ok (.iconst (-1), 1) := by decide +kernel
theorem J_MScriptRows_takeData_d10 : decode J_MScriptRows_takeData.2.1 10 = .ok (.if_icmp .eq 106, 3) := by decide +kernel
theorem J_MScriptRows_takeData_d13 : decode J_MScriptRows_takeData.2.1 13 = .ok (.aload_n 0, 1) := by decide +kernel
theorem J_MScriptRows_takeData_d14 : decode J_MScriptRows_takeData.2.1 14 = .ok (.invokevirtual 76, 3) := by decide +kernel
theorem J_MScriptRows_takeData_d17 : decode J_MScriptRows_takeData.2.1 17 = .ok (.bipush 94, 2) := by decide +kernel
theorem J_MScriptRows_takeData_d19 : decode J_MScriptRows_takeData.2.1 19 = .ok (.if_icmp .eq 97, 3) := by decide +kernel
theorem J_MScriptRows_takeData_d22 : decode J_MScriptRows_takeData.2.1 22 = .ok (.aload_n 0, 1) := by decide +kernel
theorem J_MScriptRows_takeData_d23 : decode J_MScriptRows_takeData.2.1 23 = .ok (.invokevirtual 95, 3) := by decide +kernel
theorem J_MScriptRows_takeData_d26 : decode J_MScriptRows_takeData.2.1 26 = .ok (.istore_n 1, 1) := by decide +kernel
theorem J_MScriptRows_takeData_d27 : decode J_MScriptRows_takeData.2.1 27 = .ok (.iload_n 1, 1) := by decide +kernel
theorem J_MScriptRows_takeData_d28 : decode J_MScriptRows_takeData.2.1 28 = .ok (.bipush 95, 2) := by decide +kernel
theorem J_MScriptRows_takeData_d30 : decode J_MScriptRows_takeData.2.1 30 = .ok (.if_icmp .ne 50, 3) := by decide +kernel
theorem J_MScriptRows_takeData_d33 : decode J_MScriptRows_takeData.2.1 33 = .ok (.aload_n 0, 1) := by decide +kernel
theorem J_MScriptRows_takeData_d34 : decode J_MScriptRows_takeData.2.1 34 = .ok (.invokevirtual 76, 3) := by decide +kernel
theorem J_MScriptRows_takeData_d37 : decode J_MScriptRows_takeData.2.1 37 = .ok (.invokestatic 104, 3) := by decide +kernel
theorem J_MScriptRows_takeData_d40 : decode J_MScriptRows_takeData.2.1 40 = .ok (.istore_n 2, 1) := by decide +kernel
theorem J_MScriptRows_takeData_d41 : decode J_MScriptRows_takeData.2.1 41 = .ok (.iload_n 2, 1) := by decide +kernel
theorem J_MScriptRows_takeData_d42 : decode J_MScriptRows_takeData.2.1 42 = .ok (.ifCond .ge 6, 3) := by decide +kernel
theorem J_MScriptRows_takeData_d45 : decode J_MScriptRows_takeData.2.1 45 = .ok (.bipush 6, 2) := by decide +kernel
theorem J_MScriptRows_takeData_d47 : decode J_MScriptRows_takeData.2.1 47 = .ok (.ireturn, 1) := by decide +kernel
theorem J_MScriptRows_takeData_d48 : decode J_MScriptRows_takeData.2.1 48 = .ok (.aload_n 0, 1) := by decide +kernel
theorem J_MScriptRows_takeData_d49 : decode J_MScriptRows_takeData.2.1 49 = .ok (.invokevirtual 95, 3) := by decide +kernel
theorem J_MScriptRows_takeData_d52 : decode J_MScriptRows_takeData.2.1 52 = .ok (.pop, 1) := by decide +kernel
theorem J_MScriptRows_takeData_d53 : decode J_MScriptRows_takeData.2.1 53 = .ok (.aload_n 0, 1) := by decide +kernel
theorem J_MScriptRows_takeData_d54 : decode J_MScriptRows_takeData.2.1 54 = .ok (.invokevirtual 76, 3) := by decide +kernel
theorem J_MScriptRows_takeData_d57 : decode J_MScriptRows_takeData.2.1 57 = .ok (.invokestatic 104, 3) := by decide +kernel
theorem J_MScriptRows_takeData_d60 : decode J_MScriptRows_takeData.2.1 60 = .ok (.istore_n 3, 1) := by decide +kernel
theorem J_MScriptRows_takeData_d61 : decode J_MScriptRows_takeData.2.1 61 = .ok (.iload_n 3, 1) := by decide +kernel
theorem J_MScriptRows_takeData_d62 : decode J_MScriptRows_takeData.2.1 62 = .ok (.ifCond .ge 6, 3) := by decide +kernel
theorem J_MScriptRows_takeData_d65 : decode J_MScriptRows_takeData.2.1 65 = .ok (.bipush 6, 2) := by decide +kernel
theorem J_MScriptRows_takeData_d67 : decode J_MScriptRows_takeData.2.1 67 = .ok (.ireturn, 1) := by decide +kernel
theorem J_MScriptRows_takeData_d68 : decode J_MScriptRows_takeData.2.1 68 = .ok (.aload_n 0, 1) := by decide +kernel
theorem J_MScriptRows_takeData_d69 : decode J_MScriptRows_takeData.2.1 69 = .ok (.invokevirtual 95, 3) := by decide +kernel
theorem J_MScriptRows_takeData_d72 : decode J_MScriptRows_takeData.2.1 72 = .ok (.pop, 1) := by decide +kernel
theorem J_MScriptRows_takeData_d73 : decode J_MScriptRows_takeData.2.1 73 = .ok (.bipush 16, 2) := by decide +kernel
theorem J_MScriptRows_takeData_d75 : decode J_MScriptRows_takeData.2.1 75 = .ok (.iload_n 2, 1) := by decide +kernel
theorem J_MScriptRows_takeData_d76 : decode J_MScriptRows_takeData.2.1 76 = .ok (.imul, 1) := by decide +kernel
theorem J_MScriptRows_takeData_d77 : decode J_MScriptRows_takeData.2.1 77 = .ok (.iload_n 3, 1) := by decide +kernel
theorem J_MScriptRows_takeData_d78 : decode J_MScriptRows_takeData.2.1 78 = .ok (.iadd, 1) := by decide +kernel
theorem J_MScriptRows_takeData_d79 : decode J_MScriptRows_takeData.2.1 79 = .ok (.istore_n 1, 1) := by decide +kernel
theorem J_MScriptRows_takeData_d80 : decode J_MScriptRows_takeData.2.1 80 = .ok (.aload_n 0, 1) := by decide +kernel
theorem J_MScriptRows_takeData_d81 : decode J_MScriptRows_takeData.2.1 81 = .ok (.getfield 101, 3) := by decide +kernel
theorem J_MScriptRows_takeData_d84 : decode J_MScriptRows_takeData.2.1 84 = .ok (.sipush 200, 3) := by decide +kernel
theorem J_MScriptRows_takeData_d87 : decode J_MScriptRows_takeData.2.1 87 = .ok (.if_icmp .ne 6, 3) := by decide +kernel
theorem J_MScriptRows_takeData_d90 : decode J_MScriptRows_takeData.2.1 90 = .ok (.bipush 6, 2) := by decide +kernel
theorem J_MScriptRows_takeData_d92 : decode J_MScriptRows_takeData.2.1 92 = .ok (.ireturn, 1) := by decide +kernel
theorem J_MScriptRows_takeData_d93 : decode J_MScriptRows_takeData.2.1 93 = .ok (.aload_n 0, 1) := by decide +kernel
theorem J_MScriptRows_takeData_d94 : decode J_MScriptRows_takeData.2.1 94 = .ok (.getfield 35, 3) := by decide +kernel
theorem J_MScriptRows_takeData_d97 : decode J_MScriptRows_takeData.2.1 97 = .ok (.aload_n 0, 1) := by decide +kernel
theorem J_MScriptRows_takeData_d98 : decode J_MScriptRows_takeData.2.1 98 = .ok (.getfield 101, 3) := by decide +kernel
theorem J_MScriptRows_takeData_d101 : decode J_MScriptRows_takeData.2.1 101 = .ok (.iload_n 1, 1) := by decide +kernel
theorem J_MScriptRows_takeData_d102 : decode J_MScriptRows_takeData.2.1 102 = .ok (.iastore, 1) := by decide +kernel
theorem J_MScriptRows_takeData_d103 : decode J_MScriptRows_takeData.2.1 103 = .ok (.aload_n 0, 1) := by decide +kernel
theorem J_MScriptRows_takeData_d104 : decode J_MScriptRows_takeData.2.1 104 = .ok (.dup, 1) := by decide +kernel
theorem J_MScriptRows_takeData_d105 : decode J_MScriptRows_takeData.2.1 105 = .ok (.getfield 101, 3) := by decide +kernel
theorem J_MScriptRows_takeData_d108 : decode J_MScriptRows_takeData.2.1 108 = .ok (.iconst 1, 1) := by decide +kernel
theorem J_MScriptRows_takeData_d109 : decode J_MScriptRows_takeData.2.1 109 = .ok (.iadd, 1) := by decide +kernel
theorem J_MScriptRows_takeData_d110 : decode J_MScriptRows_takeData.2.1 110 = .ok (.putfield 101, 3) := by decide +kernel
theorem J_MScriptRows_takeData_d113 : decode J_MScriptRows_takeData.2.1 113 = .ok (.goto (-108), 3) := by decide +kernel
theorem J_MScriptRows_takeData_d116 : decode J_MScriptRows_takeData.2.1 116 = .ok (.iconst 0, 1) := by decide +kernel
theorem J_MScriptRows_takeData_d117 : decode J_MScriptRows_takeData.2.1 117 = .ok (.ireturn, 1) := by decide +kernel
theorem f_MScriptRows_takeData_ok {L : Nat} {xs : Nat → Int32} {dep : Nat} {w : Bool} {M : im_M} {Q : Int32 × im_M → Prop} (hM : lw_S w M) (h : ed (f_MScriptRows_takeData M) Q) : ia (tb_G L xs) (dep + 2) J_MScriptRows_takeData (rwI w Q) (0, lv_args 0 [.ref 71], [], M) := by
  have hS : im_St (tb_G L xs) (dep + 2) J_MScriptRows_takeData (ia (tb_G L xs) (dep + 2) J_MScriptRows_takeData (rwI w Q)) := ia_St
  unfold f_MScriptRows_takeData at h
  have l0 : im_lk (lv_args 0 [.ref 71]) 0 = some (.ref 71) := rfl
  refine iq_aload_n hS 1 J_MScriptRows_takeData_d0 l0 rfl ?_
  refine iq_iconst hS 2 J_MScriptRows_takeData_d1 (v := 0) (by decide +kernel) rfl ?_
  refine iq_putI hS 5 J_MScriptRows_takeData_d2 lf_15_101 (Or.inl rfl) rfl (ka_71 hM) rfl ?_
  obtain ⟨Q1, hQ1, hR1, h⟩ := bs1_ed h
  have K1 : ∀ (M2 : im_M) (L' : List (Nat × Value)), lw_S w M2 → Q1 (.inl M2) → ia (tb_G L xs) (dep + 2) J_MScriptRows_takeData (rwI w Q) (116, L', [], M2) := by
    intro M2 L' hM2  h
    replace h := hQ1 _ h
    refine iq_iconst hS 117 J_MScriptRows_takeData_d116 (v := 0) (by decide +kernel) rfl ?_
    exact iq_iret J_MScriptRows_takeData_d117 rfl rfl ⟨_, rfl, hM2, ed_some h⟩
  obtain ⟨r1, hr1, hq1⟩ := h
  obtain ⟨n1, hn1⟩ := lp_n hr1
  have I1 : ∀ (n : Nat)  (M3 : im_M) (L' : List (Nat × Value)), lw_S w M3 → im_lk L' 0 = some (.ref 71) → lpn (uc1 (f_MScriptRows_takeData_L5)) n M3 = some r1 → ia (tb_G L xs) (dep + 2) J_MScriptRows_takeData (rwI w Q) (5, L', [], M3) := by
    intro n
    induction n with
    | zero => intro  M3 L' hM3 l4 hn; exact (lpn_0 hn).elim
    | succ n ih =>
      intro  M3 L' hM3 l4 hn
      have h := lpn_ed1 hn
      unfold f_MScriptRows_takeData_L5 at h
      refine iq_aload_n hS 6 J_MScriptRows_takeData_d5 l4 rfl ?_
      obtain ⟨Q5, hQ5, h⟩ := bd1_ed h
      refine iq_cpI hS 9 J_MScriptRows_takeData_d6 rfl (pr_inst (vs := []) lc_15_76 lT_282 rfl rfl (by decide) (by decide) rfl (Nat.le_of_ble_eq_true rfl) (Nat.le_of_ble_eq_true rfl) (fun _ => Or.inl (pr_b (ka_71 hM3) (by decide) rfl))) (f_MScriptRows_peek_ok (dep := dep + 1) hM3 h) rfl ?_
      intro x5 h
      replace h := hQ5 _ h
      refine iq_iconst hS 10 J_MScriptRows_takeData_d9 (v := (-1)) (by decide +kernel) rfl ?_
      refine iq_icmp_eq hS 13 J_MScriptRows_takeData_d10 (t := 116) rfl (fun q10 => ?_) rfl (fun q10 => ?_)
      · replace h := ed_pos q10 h
        exact K1 _ _ hM3  (lq_r h hq1)
      · replace h := ed_neg q10 h
        refine iq_aload_n hS 14 J_MScriptRows_takeData_d13 l4 rfl ?_
        obtain ⟨Q6, hQ6, h⟩ := bd1_ed h
        refine iq_cpI hS 17 J_MScriptRows_takeData_d14 rfl (pr_inst (vs := []) lc_15_76 lT_282 rfl rfl (by decide) (by decide) rfl (Nat.le_of_ble_eq_true rfl) (Nat.le_of_ble_eq_true rfl) (fun _ => Or.inl (pr_b (ka_71 hM3) (by decide) rfl))) (f_MScriptRows_peek_ok (dep := dep + 1) hM3 h) rfl ?_
        intro x6 h
        replace h := hQ6 _ h
        refine iq_bipush hS 19 J_MScriptRows_takeData_d17 (v := 94) (by decide +kernel) rfl ?_
        refine iq_icmp_eq hS 22 J_MScriptRows_takeData_d19 (t := 116) rfl (fun q19 => ?_) rfl (fun q19 => ?_)
        · replace h := ed_pos q19 h
          exact K1 _ _ hM3  (lq_r h hq1)
        · replace h := ed_neg q19 h
          refine iq_aload_n hS 23 J_MScriptRows_takeData_d22 l4 rfl ?_
          obtain ⟨Q7, hQ7, h⟩ := bd2_ed h
          refine iq_cwI hS 26 J_MScriptRows_takeData_d23 rfl (pr_inst (vs := []) lc_15_95 lT_283 rfl rfl (by decide) (by decide) rfl (Nat.le_of_ble_eq_true rfl) (Nat.le_of_ble_eq_true rfl) (fun _ => Or.inl (pr_b (ka_71 hM3) (by decide) rfl))) (f_MScriptRows_next_ok (dep := dep + 0) hM3 h) rfl ?_
          intro x7 M7 hM7 h
          replace h := hQ7 _ _ h
          refine iq_istore_n hS 27 J_MScriptRows_takeData_d26 (by decide) rfl ?_
          refine iq_iload_n hS 28 J_MScriptRows_takeData_d27 lk_1s rfl ?_
          refine iq_bipush hS 30 J_MScriptRows_takeData_d28 (v := 95) (by decide +kernel) rfl ?_
          obtain ⟨k8, Q8, hQ8, hk8, h⟩ := jn2_ed h
          have J8 : ∀ (y15 : Int32) (M16 : im_M) (L' : List (Nat × Value)), lw_S w M16 → im_lk L' 0 = some (.ref 71) → im_lk L' 1 = some (.int y15) → Q8 y15 M16 → ia (tb_G L xs) (dep + 2) J_MScriptRows_takeData (rwI w Q) (80, L', [], M16) := by
            intro y15 M16 L' hM16 l17 l18 h
            replace h := hQ8 _ _ h
            refine iq_aload_n hS 81 J_MScriptRows_takeData_d80 l17 rfl ?_
            refine iq_getI hS 84 J_MScriptRows_takeData_d81 lf_15_101 (Or.inl rfl) (ka_71 hM16) rfl ?_
            refine iq_sipush hS 87 J_MScriptRows_takeData_d84 (v := 200) (by decide +kernel) rfl ?_
            refine iq_icmp_ne hS 90 J_MScriptRows_takeData_d87 (t := 93) rfl (fun q87 => ?_) rfl (fun q87 => ?_)
            · replace h := ed_pos q87 h
              refine iq_aload_n hS 94 J_MScriptRows_takeData_d93 l17 rfl ?_
              refine iq_getR hS 97 J_MScriptRows_takeData_d94 lf_15_35 (Or.inr ⟨_, rfl⟩) (ka_71 hM16) (ra_71_16 hM16) rfl ?_
              refine iq_aload_n hS 98 J_MScriptRows_takeData_d97 l17 rfl ?_
              refine iq_getI hS 101 J_MScriptRows_takeData_d98 lf_15_101 (Or.inl rfl) (ka_71 hM16) rfl ?_
              refine iq_iload_n hS 102 J_MScriptRows_takeData_d101 l18 rfl ?_
              obtain ⟨g102, h⟩ := ed_gd h
              refine iq_iastore hS 103 J_MScriptRows_takeData_d102 ⟨(ka_79 hM16).1, (ka_79 hM16).2, g102.1, ix_lt (kl_79 hM16) g102.2⟩ rfl ?_
              refine iq_aload_n hS 104 J_MScriptRows_takeData_d103 l17 rfl ?_
              refine iq_dup hS 105 J_MScriptRows_takeData_d104 rfl rfl ?_
              refine iq_getI hS 108 J_MScriptRows_takeData_d105 lf_15_101 (Or.inl rfl) (ka_71 (lw_sI hM16)) rfl ?_
              refine iq_iconst hS 109 J_MScriptRows_takeData_d108 (v := 1) (by decide +kernel) rfl ?_
              refine iq_iadd hS 110 J_MScriptRows_takeData_d109 rfl ?_
              refine iq_putI hS 113 J_MScriptRows_takeData_d110 lf_15_101 (Or.inl rfl) rfl (ka_71 (lw_sI hM16)) rfl ?_
              refine iq_goto hS J_MScriptRows_takeData_d113 (t := 5) rfl ?_
              exact ih  _ _ (lw_sI (lw_sI hM16)) l17 (lq_l h)
            · replace h := ed_neg q87 h
              refine iq_bipush hS 92 J_MScriptRows_takeData_d90 (v := 6) (by decide +kernel) rfl ?_
              exact iq_iret J_MScriptRows_takeData_d92 rfl rfl ⟨_, rfl, hM16, ed_some (hR1 _ (lq_r h hq1))⟩
          refine iq_icmp_ne hS 33 J_MScriptRows_takeData_d30 (t := 80) rfl (fun q30 => ?_) rfl (fun q30 => ?_)
          · replace h := ed_pos q30 h
            exact J8 _ _ _ hM7 (lk_1r l4 (by decide)) lk_1s (hk8 _ _ h)
          · replace h := ed_neg q30 h
            refine iq_aload_n hS 34 J_MScriptRows_takeData_d33 (lk_1r l4 (by decide)) rfl ?_
            obtain ⟨Q9, hQ9, h⟩ := bd1_ed h
            refine iq_cpI hS 37 J_MScriptRows_takeData_d34 rfl (pr_inst (vs := []) lc_15_76 lT_282 rfl rfl (by decide) (by decide) rfl (Nat.le_of_ble_eq_true rfl) (Nat.le_of_ble_eq_true rfl) (fun _ => Or.inl (pr_b (ka_71 hM7) (by decide) rfl))) (f_MScriptRows_peek_ok (dep := dep + 1) hM7 h) rfl ?_
            intro x9 h
            replace h := hQ9 _ h
            obtain ⟨Q10, hQ10, h⟩ := bd1_ed h
            refine iq_cpI hS 40 J_MScriptRows_takeData_d37 rfl (pr_stat (vs := [_]) lc_15_104 lT_294 rfl rfl (by decide) rfl (Nat.le_of_ble_eq_true rfl) (Nat.le_of_ble_eq_true rfl)) (f_MScriptRows_hex_ok (dep := dep + 0) hM7 h) rfl ?_
            intro x10 h
            replace h := hQ10 _ h
            refine iq_istore_n hS 41 J_MScriptRows_takeData_d40 (by decide) rfl ?_
            refine iq_iload_n hS 42 J_MScriptRows_takeData_d41 lk_1s rfl ?_
            refine iq_if_ge hS 45 J_MScriptRows_takeData_d42 (t := 48) rfl (fun q42 => ?_) rfl (fun q42 => ?_)
            · replace h := ed_pos q42 h
              refine iq_aload_n hS 49 J_MScriptRows_takeData_d48 (lk_1r (lk_1r l4 (by decide)) (by decide)) rfl ?_
              obtain ⟨Q11, hQ11, h⟩ := bd2_ed h
              refine iq_cwI hS 52 J_MScriptRows_takeData_d49 rfl (pr_inst (vs := []) lc_15_95 lT_283 rfl rfl (by decide) (by decide) rfl (Nat.le_of_ble_eq_true rfl) (Nat.le_of_ble_eq_true rfl) (fun _ => Or.inl (pr_b (ka_71 hM7) (by decide) rfl))) (f_MScriptRows_next_ok (dep := dep + 0) hM7 h) rfl ?_
              intro x11 M11 hM11 h
              replace h := hQ11 _ _ h
              refine iq_pop hS 53 J_MScriptRows_takeData_d52 rfl rfl ?_
              refine iq_aload_n hS 54 J_MScriptRows_takeData_d53 (lk_1r (lk_1r l4 (by decide)) (by decide)) rfl ?_
              obtain ⟨Q12, hQ12, h⟩ := bd1_ed h
              refine iq_cpI hS 57 J_MScriptRows_takeData_d54 rfl (pr_inst (vs := []) lc_15_76 lT_282 rfl rfl (by decide) (by decide) rfl (Nat.le_of_ble_eq_true rfl) (Nat.le_of_ble_eq_true rfl) (fun _ => Or.inl (pr_b (ka_71 hM11) (by decide) rfl))) (f_MScriptRows_peek_ok (dep := dep + 1) hM11 h) rfl ?_
              intro x12 h
              replace h := hQ12 _ h
              obtain ⟨Q13, hQ13, h⟩ := bd1_ed h
              refine iq_cpI hS 60 J_MScriptRows_takeData_d57 rfl (pr_stat (vs := [_]) lc_15_104 lT_294 rfl rfl (by decide) rfl (Nat.le_of_ble_eq_true rfl) (Nat.le_of_ble_eq_true rfl)) (f_MScriptRows_hex_ok (dep := dep + 0) hM11 h) rfl ?_
              intro x13 h
              replace h := hQ13 _ h
              refine iq_istore_n hS 61 J_MScriptRows_takeData_d60 (by decide) rfl ?_
              refine iq_iload_n hS 62 J_MScriptRows_takeData_d61 lk_1s rfl ?_
              refine iq_if_ge hS 65 J_MScriptRows_takeData_d62 (t := 68) rfl (fun q62 => ?_) rfl (fun q62 => ?_)
              · replace h := ed_pos q62 h
                refine iq_aload_n hS 69 J_MScriptRows_takeData_d68 (lk_1r (lk_1r (lk_1r l4 (by decide)) (by decide)) (by decide)) rfl ?_
                obtain ⟨Q14, hQ14, h⟩ := bd2_ed h
                refine iq_cwI hS 72 J_MScriptRows_takeData_d69 rfl (pr_inst (vs := []) lc_15_95 lT_283 rfl rfl (by decide) (by decide) rfl (Nat.le_of_ble_eq_true rfl) (Nat.le_of_ble_eq_true rfl) (fun _ => Or.inl (pr_b (ka_71 hM11) (by decide) rfl))) (f_MScriptRows_next_ok (dep := dep + 0) hM11 h) rfl ?_
                intro x14 M14 hM14 h
                replace h := hQ14 _ _ h
                refine iq_pop hS 73 J_MScriptRows_takeData_d72 rfl rfl ?_
                refine iq_bipush hS 75 J_MScriptRows_takeData_d73 (v := 16) (by decide +kernel) rfl ?_
                refine iq_iload_n hS 76 J_MScriptRows_takeData_d75 (lk_1i lk_1s (by decide)) rfl ?_
                refine iq_imul hS 77 J_MScriptRows_takeData_d76 rfl ?_
                refine iq_iload_n hS 78 J_MScriptRows_takeData_d77 lk_1s rfl ?_
                refine iq_iadd hS 79 J_MScriptRows_takeData_d78 rfl ?_
                refine iq_istore_n hS 80 J_MScriptRows_takeData_d79 (by decide) rfl ?_
                exact J8 _ _ _ hM14 (lk_1r (lk_1r (lk_1r (lk_1r l4 (by decide)) (by decide)) (by decide)) (by decide)) lk_1s (hk8 _ _ h)
              · replace h := ed_neg q62 h
                refine iq_bipush hS 67 J_MScriptRows_takeData_d65 (v := 6) (by decide +kernel) rfl ?_
                exact iq_iret J_MScriptRows_takeData_d67 rfl rfl ⟨_, rfl, hM11, ed_some (hR1 _ (lq_r h hq1))⟩
            · replace h := ed_neg q42 h
              refine iq_bipush hS 47 J_MScriptRows_takeData_d45 (v := 6) (by decide +kernel) rfl ?_
              exact iq_iret J_MScriptRows_takeData_d47 rfl rfl ⟨_, rfl, hM7, ed_some (hR1 _ (lq_r h hq1))⟩
  exact I1 n1  _ _ (lw_sI hM) l0 hn1
theorem f_MScriptRows_takeData_fr {M : im_M} {r : Int32 × im_M} (h : f_MScriptRows_takeData M = some r) : fr 604462909807314587353088 [(71, 8), (71, 17)] M r.2 := by
  replace h : ed (f_MScriptRows_takeData M) (fun x => x = r) := ⟨r, h, rfl⟩
  unfold f_MScriptRows_takeData at h
  obtain ⟨Q1, hQ1, hR1, h⟩ := bs1_ed h
  have K1 : ∀ (M2 : im_M), fr 604462909807314587353088 [(71, 8), (71, 17)] M M2 → Q1 (.inl M2) → fr 604462909807314587353088 [(71, 8), (71, 17)] M r.2 := by
    intro M2 hM2 h
    replace h := hQ1 _ h
    exact fr_ret h hM2
  obtain ⟨r1, hr1, hq1⟩ := h
  obtain ⟨n1, hn1⟩ := lp_n hr1
  have I1 : ∀ (n : Nat)  (M3 : im_M), fr 604462909807314587353088 [(71, 8), (71, 17)] M M3 → lpn (uc1 (f_MScriptRows_takeData_L5)) n M3 = some r1 → fr 604462909807314587353088 [(71, 8), (71, 17)] M r.2 := by
    intro n
    induction n with
    | zero => intro  M3 hM3 hn; exact (lpn_0 hn).elim
    | succ n ih =>
      intro  M3 hM3 hn
      have h := lpn_ed1 hn
      unfold f_MScriptRows_takeData_L5 at h
      obtain ⟨Q4, hQ4, h⟩ := bd1_ed h
      obtain ⟨x4, e4, h⟩ := h
      replace h := hQ4 _ h
      by_cases q10 : x4 = (-1)
      · replace h := ed_pos q10 h
        exact K1 _ hM3 (lq_r h hq1)
      · replace h := ed_neg q10 h
        obtain ⟨Q5, hQ5, h⟩ := bd1_ed h
        obtain ⟨x5, e5, h⟩ := h
        replace h := hQ5 _ h
        by_cases q19 : x5 = 94
        · replace h := ed_pos q19 h
          exact K1 _ hM3 (lq_r h hq1)
        · replace h := ed_neg q19 h
          obtain ⟨Q6, hQ6, h⟩ := bd2_ed h
          obtain ⟨⟨x6, M6⟩, e6, h⟩ := h
          replace h := hQ6 _ _ h
          obtain ⟨k7, Q7, hQ7, hk7, h⟩ := jn2_ed h
          have J7 : ∀ (y14 : Int32) (M15 : im_M), fr 604462909807314587353088 [(71, 8), (71, 17)] M M15 → Q7 y14 M15 → fr 604462909807314587353088 [(71, 8), (71, 17)] M r.2 := by
            intro y14 M15 hM15 h
            replace h := hQ7 _ _ h
            by_cases q87 : ¬ (im_i M15 71 17) = 200
            · replace h := ed_pos q87 h
              obtain ⟨g102, h⟩ := ed_gd h
              exact ih  _ (fr_F (by decide) (fr_I (by decide) hM15)) (lq_l h)
            · replace h := ed_neg q87 h
              exact fr_ret (hR1 _ (lq_r h hq1)) hM15
          by_cases q30 : ¬ x6 = 95
          · replace h := ed_pos q30 h
            exact J7 _ _ (fr_tr (fr_mono (by decide) (by decide +kernel) (f_MScriptRows_next_fr e6)) hM3) (hk7 _ _ h)
          · replace h := ed_neg q30 h
            obtain ⟨Q8, hQ8, h⟩ := bd1_ed h
            obtain ⟨x8, e8, h⟩ := h
            replace h := hQ8 _ h
            obtain ⟨Q9, hQ9, h⟩ := bd1_ed h
            obtain ⟨x9, e9, h⟩ := h
            replace h := hQ9 _ h
            by_cases q42 : 0 ≤ x9
            · replace h := ed_pos q42 h
              obtain ⟨Q10, hQ10, h⟩ := bd2_ed h
              obtain ⟨⟨x10, M10⟩, e10, h⟩ := h
              replace h := hQ10 _ _ h
              obtain ⟨Q11, hQ11, h⟩ := bd1_ed h
              obtain ⟨x11, e11, h⟩ := h
              replace h := hQ11 _ h
              obtain ⟨Q12, hQ12, h⟩ := bd1_ed h
              obtain ⟨x12, e12, h⟩ := h
              replace h := hQ12 _ h
              by_cases q62 : 0 ≤ x12
              · replace h := ed_pos q62 h
                obtain ⟨Q13, hQ13, h⟩ := bd2_ed h
                obtain ⟨⟨x13, M13⟩, e13, h⟩ := h
                replace h := hQ13 _ _ h
                exact J7 _ _ (fr_tr (fr_mono (by decide) (by decide +kernel) (f_MScriptRows_next_fr e13)) (fr_tr (fr_mono (by decide) (by decide +kernel) (f_MScriptRows_next_fr e10)) (fr_tr (fr_mono (by decide) (by decide +kernel) (f_MScriptRows_next_fr e6)) hM3))) (hk7 _ _ h)
              · replace h := ed_neg q62 h
                exact fr_ret (hR1 _ (lq_r h hq1)) (fr_tr (fr_mono (by decide) (by decide +kernel) (f_MScriptRows_next_fr e10)) (fr_tr (fr_mono (by decide) (by decide +kernel) (f_MScriptRows_next_fr e6)) hM3))
            · replace h := ed_neg q42 h
              exact fr_ret (hR1 _ (lq_r h hq1)) (fr_tr (fr_mono (by decide) (by decide +kernel) (f_MScriptRows_next_fr e6)) hM3)
  exact I1 n1  _ (fr_F (by decide) fr_refl) hn1
noncomputable def f_MScriptRows_formSize_L2 (M3 : im_M) (x2 : Int32) : Option ((Int32) ⊕ ((Unit) ⊕ (Int32))) := if (im_i M3 71 8) ≤ (x2 + 1) then some (.inr (.inl ())) else gd (inb (((im_i M3 71 8) - 1) - x2) 5800) <| jn0 (fun (_ : Unit) => some (.inl (x2 + 1))) fun k4 => if ¬ (im_i M3 77 (Int32.toNatClampNeg (((im_i M3 71 8) - 1) - x2))) = 94 then k4 () else gd (inb (((im_i M3 71 8) - 2) - x2) 5800) <| if ¬ (im_i M3 77 (Int32.toNatClampNeg (((im_i M3 71 8) - 2) - x2))) = 90 then k4 () else some (.inr (.inr x2))
noncomputable def f_MScriptRows_formSize (M : im_M) : Option (Int32) := bs0 (lp (uc1 (f_MScriptRows_formSize_L2 M)) 0) (fun (_ : Unit) => some (-1)) (fun t => some t)
theorem J_MScriptRows_formSize_d0 : decode J_MScriptRows_formSize.2.1 0 = .ok (.iconst 0, 1) := by decide +kernel
theorem J_MScriptRows_formSize_d1 : decode J_MScriptRows_formSize.2.1 1 = .ok (.istore_n 1, 1) := by decide +kernel
theorem J_MScriptRows_formSize_d2 : decode J_MScriptRows_formSize.2.1 2 = .ok (.iload_n 1, 1) := by decide +kernel
theorem J_MScriptRows_formSize_d3 : decode J_MScriptRows_formSize.2.1 3 = .ok (.iconst 1, 1) := by decide +kernel
theorem J_MScriptRows_formSize_d4 : decode J_MScriptRows_formSize.2.1 4 = .ok (.iadd, 1) := by decide +kernel
theorem J_MScriptRows_formSize_d5 : decode J_MScriptRows_formSize.2.1 5 = .ok (.aload_n 0, 1) := by decide +kernel
theorem J_MScriptRows_formSize_d6 : decode J_MScriptRows_formSize.2.1 6 = .ok (.getfield 73, 3) := by decide +kernel
theorem J_MScriptRows_formSize_d9 : decode J_MScriptRows_formSize.2.1 9 = .ok (.if_icmp .ge 47, 3) := by decide +kernel
theorem J_MScriptRows_formSize_d12 : decode J_MScriptRows_formSize.2.1 12 = .ok (.aload_n 0, 1) := by decide +kernel
theorem J_MScriptRows_formSize_d13 : decode J_MScriptRows_formSize.2.1 13 = .ok (.getfield 25, 3) := by decide +kernel
theorem J_MScriptRows_formSize_d16 : decode J_MScriptRows_formSize.2.1 16 = .ok (.aload_n 0, 1) := by decide +kernel
theorem J_MScriptRows_formSize_d17 : decode J_MScriptRows_formSize.2.1 17 = .ok (.getfield 73, 3) := by decide +kernel
theorem J_MScriptRows_formSize_d20 : decode J_MScriptRows_formSize.2.1 20 = .ok (.iconst 1, 1) := by decide +kernel
theorem J_MScriptRows_formSize_d21 : decode J_MScriptRows_formSize.2.1 21 = .ok (.isub, 1) := by decide +kernel
theorem J_MScriptRows_formSize_d22 : decode J_MScriptRows_formSize.2.1 22 = .ok (.iload_n 1, 1) := by decide +kernel
theorem J_MScriptRows_formSize_d23 : decode J_MScriptRows_formSize.2.1 23 = .ok (.isub, 1) := by decide +kernel
theorem J_MScriptRows_formSize_d24 : decode J_MScriptRows_formSize.2.1 24 = .ok (.iaload, 1) := by decide +kernel
theorem J_MScriptRows_formSize_d25 : decode J_MScriptRows_formSize.2.1 25 = .ok (.bipush 94, 2) := by decide +kernel
theorem J_MScriptRows_formSize_d27 : decode J_MScriptRows_formSize.2.1 27 = .ok (.if_icmp .ne 23, 3) := by decide +kernel
theorem J_MScriptRows_formSize_d30 : decode J_MScriptRows_formSize.2.1 30 = .ok (.aload_n 0, 1) := by decide +kernel
theorem J_MScriptRows_formSize_d31 : decode J_MScriptRows_formSize.2.1 31 = .ok (.getfield 25, 3) := by decide +kernel
theorem J_MScriptRows_formSize_d34 : decode J_MScriptRows_formSize.2.1 34 = .ok (.aload_n 0, 1) := by decide +kernel
theorem J_MScriptRows_formSize_d35 : decode J_MScriptRows_formSize.2.1 35 = .ok (.getfield 73, 3) := by decide +kernel
theorem J_MScriptRows_formSize_d38 : decode J_MScriptRows_formSize.2.1 38 = .ok (.iconst 2, 1) := by decide +kernel
theorem J_MScriptRows_formSize_d39 : decode J_MScriptRows_formSize.2.1 39 = .ok (.isub, 1) := by decide +kernel
theorem J_MScriptRows_formSize_d40 : decode J_MScriptRows_formSize.2.1 40 = .ok (.iload_n 1, 1) := by decide +kernel
theorem J_MScriptRows_formSize_d41 : decode J_MScriptRows_formSize.2.1 41 = .ok (.isub, 1) := by decide +kernel
theorem J_MScriptRows_formSize_d42 : decode J_MScriptRows_formSize.2.1 42 = .ok (.iaload, 1) := by decide +kernel
theorem J_MScriptRows_formSize_d43 : decode J_MScriptRows_formSize.2.1 43 = .ok (.bipush 90, 2) := by decide +kernel
theorem J_MScriptRows_formSize_d45 : decode J_MScriptRows_formSize.2.1 45 = .ok (.if_icmp .ne 5, 3) := by decide +kernel
theorem J_MScriptRows_formSize_d48 : decode J_MScriptRows_formSize.2.1 48 = .ok (.iload_n 1, 1) := by decide +kernel
theorem J_MScriptRows_formSize_d49 : decode J_MScriptRows_formSize.2.1 49 = .ok (.ireturn, 1) := by decide +kernel
theorem J_MScriptRows_formSize_d50 : decode J_MScriptRows_formSize.2.1 50 = .ok (.iinc 1 1, 3) := by decide +kernel
theorem J_MScriptRows_formSize_d53 : decode J_MScriptRows_formSize.2.1 53 = .ok (.goto (-51), 3) := by decide +kernel
theorem J_MScriptRows_formSize_d56 : decode J_MScriptRows_formSize.2.1 56 = .ok (.iconst (-1), 1) := by decide +kernel
theorem J_MScriptRows_formSize_d57 : decode J_MScriptRows_formSize.2.1 57 = .ok (.ireturn, 1) := by decide +kernel
theorem f_MScriptRows_formSize_ok {L : Nat} {xs : Nat → Int32} {dep : Nat} {w : Bool} {M : im_M} {Q : Int32 → Prop} (hM : lw_S w M) (h : ed (f_MScriptRows_formSize M) Q) : ia (tb_G L xs) dep J_MScriptRows_formSize (rpI M Q) (0, lv_args 0 [.ref 71], [], M) := by
  have hS : im_St (tb_G L xs) dep J_MScriptRows_formSize (ia (tb_G L xs) dep J_MScriptRows_formSize (rpI M Q)) := ia_St
  unfold f_MScriptRows_formSize at h
  have l0 : im_lk (lv_args 0 [.ref 71]) 0 = some (.ref 71) := rfl
  refine iq_iconst hS 1 J_MScriptRows_formSize_d0 (v := 0) (by decide +kernel) rfl ?_
  refine iq_istore_n hS 2 J_MScriptRows_formSize_d1 (by decide) rfl ?_
  obtain ⟨Q1, hQ1, hR1, h⟩ := bs0_ed h
  have K1 : ∀  (L' : List (Nat × Value)), Q1 (.inl ()) → ia (tb_G L xs) dep J_MScriptRows_formSize (rpI M Q) (56, L', [], M) := by
    intro  L'  h
    replace h := hQ1  h
    refine iq_iconst hS 57 J_MScriptRows_formSize_d56 (v := (-1)) (by decide +kernel) rfl ?_
    exact iq_iret J_MScriptRows_formSize_d57 rfl rfl ⟨_, rfl, rfl, ed_some h⟩
  obtain ⟨r1, hr1, hq1⟩ := h
  obtain ⟨n1, hn1⟩ := lp_n hr1
  have I1 : ∀ (n : Nat) (x2 : Int32) (L' : List (Nat × Value)), im_lk L' 0 = some (.ref 71) → im_lk L' 1 = some (.int x2) → lpn (uc1 (f_MScriptRows_formSize_L2 M)) n x2 = some r1 → ia (tb_G L xs) dep J_MScriptRows_formSize (rpI M Q) (2, L', [], M) := by
    intro n
    induction n with
    | zero => intro x2 L' l3 l4 hn; exact (lpn_0 hn).elim
    | succ n ih =>
      intro x2 L' l3 l4 hn
      have h := lpn_ed1 hn
      unfold f_MScriptRows_formSize_L2 at h
      refine iq_iload_n hS 3 J_MScriptRows_formSize_d2 l4 rfl ?_
      refine iq_iconst hS 4 J_MScriptRows_formSize_d3 (v := 1) (by decide +kernel) rfl ?_
      refine iq_iadd hS 5 J_MScriptRows_formSize_d4 rfl ?_
      refine iq_aload_n hS 6 J_MScriptRows_formSize_d5 l3 rfl ?_
      refine iq_getI hS 9 J_MScriptRows_formSize_d6 lf_15_73 (Or.inl rfl) (ka_71 hM) rfl ?_
      refine iq_icmp_ge hS 12 J_MScriptRows_formSize_d9 (t := 56) rfl (fun q9 => ?_) rfl (fun q9 => ?_)
      · replace h := ed_pos q9 h
        exact K1  _  (lq_r h hq1)
      · replace h := ed_neg q9 h
        refine iq_aload_n hS 13 J_MScriptRows_formSize_d12 l3 rfl ?_
        refine iq_getR hS 16 J_MScriptRows_formSize_d13 lf_15_25 (Or.inr ⟨_, rfl⟩) (ka_71 hM) (ra_71_7 hM) rfl ?_
        refine iq_aload_n hS 17 J_MScriptRows_formSize_d16 l3 rfl ?_
        refine iq_getI hS 20 J_MScriptRows_formSize_d17 lf_15_73 (Or.inl rfl) (ka_71 hM) rfl ?_
        refine iq_iconst hS 21 J_MScriptRows_formSize_d20 (v := 1) (by decide +kernel) rfl ?_
        refine iq_isub hS 22 J_MScriptRows_formSize_d21 rfl ?_
        refine iq_iload_n hS 23 J_MScriptRows_formSize_d22 l4 rfl ?_
        refine iq_isub hS 24 J_MScriptRows_formSize_d23 rfl ?_
        obtain ⟨g24, h⟩ := ed_gd h
        refine iq_iaload hS 25 J_MScriptRows_formSize_d24 ⟨(ka_77 hM).1, (ka_77 hM).2, g24.1, ix_lt (kl_77 hM) g24.2⟩ rfl ?_
        refine iq_bipush hS 27 J_MScriptRows_formSize_d25 (v := 94) (by decide +kernel) rfl ?_
        obtain ⟨k5, Q5, hQ5, hk5, h⟩ := jn0_ed h
        have J5 : ∀  (L' : List (Nat × Value)), im_lk L' 0 = some (.ref 71) → im_lk L' 1 = some (.int x2) → Q5 () → ia (tb_G L xs) dep J_MScriptRows_formSize (rpI M Q) (50, L', [], M) := by
          intro  L' l6 l7 h
          replace h := hQ5  h
          refine iq_iincv hS 53 J_MScriptRows_formSize_d50 (c := 1) (by decide +kernel) l7 (by decide) rfl ?_
          refine iq_goto hS J_MScriptRows_formSize_d53 (t := 2) rfl ?_
          exact ih _ _ (lk_1r l6 (by decide)) lk_1s (lq_l h)
        refine iq_icmp_ne hS 30 J_MScriptRows_formSize_d27 (t := 50) rfl (fun q27 => ?_) rfl (fun q27 => ?_)
        · replace h := ed_pos q27 h
          exact J5  _ l3 l4 (hk5  h)
        · replace h := ed_neg q27 h
          refine iq_aload_n hS 31 J_MScriptRows_formSize_d30 l3 rfl ?_
          refine iq_getR hS 34 J_MScriptRows_formSize_d31 lf_15_25 (Or.inr ⟨_, rfl⟩) (ka_71 hM) (ra_71_7 hM) rfl ?_
          refine iq_aload_n hS 35 J_MScriptRows_formSize_d34 l3 rfl ?_
          refine iq_getI hS 38 J_MScriptRows_formSize_d35 lf_15_73 (Or.inl rfl) (ka_71 hM) rfl ?_
          refine iq_iconst hS 39 J_MScriptRows_formSize_d38 (v := 2) (by decide +kernel) rfl ?_
          refine iq_isub hS 40 J_MScriptRows_formSize_d39 rfl ?_
          refine iq_iload_n hS 41 J_MScriptRows_formSize_d40 l4 rfl ?_
          refine iq_isub hS 42 J_MScriptRows_formSize_d41 rfl ?_
          obtain ⟨g42, h⟩ := ed_gd h
          refine iq_iaload hS 43 J_MScriptRows_formSize_d42 ⟨(ka_77 hM).1, (ka_77 hM).2, g42.1, ix_lt (kl_77 hM) g42.2⟩ rfl ?_
          refine iq_bipush hS 45 J_MScriptRows_formSize_d43 (v := 90) (by decide +kernel) rfl ?_
          refine iq_icmp_ne hS 48 J_MScriptRows_formSize_d45 (t := 50) rfl (fun q45 => ?_) rfl (fun q45 => ?_)
          · replace h := ed_pos q45 h
            exact J5  _ l3 l4 (hk5  h)
          · replace h := ed_neg q45 h
            refine iq_iload_n hS 49 J_MScriptRows_formSize_d48 l4 rfl ?_
            exact iq_iret J_MScriptRows_formSize_d49 rfl rfl ⟨_, rfl, rfl, ed_some (hR1 _ (lq_r h hq1))⟩
  exact I1 n1 _ _ (lk_1r l0 (by decide)) lk_1s hn1
noncomputable def f_MScriptRows_fits_L76 (v12 : Int32) (v13 : Int32) (M15 : im_M) (x14 : Int32) : Option ((Int32) ⊕ ((Unit) ⊕ (Int32))) := if v13 ≤ x14 then some (.inr (.inl ())) else jn0 (fun (_ : Unit) => jn0 (fun (_ : Unit) => some (.inl (x14 + 1))) fun k22 => if ¬ v12 = 7 then k22 () else gd (inb x14 200) <| bd1 (f_MScriptRows_hex (im_i M15 83 (Int32.toNatClampNeg x14)) M15) fun (x23 : Int32) => if 0 ≤ x23 then k22 () else some (.inr (.inr 0))) fun k16 => if ¬ v12 = 2 then k16 () else gd (inb x14 200) <| bd1 (f_MScriptRows_isDigit (im_i M15 83 (Int32.toNatClampNeg x14)) M15) fun (x17 : Int32) => if x17 = 0 then some (.inr (.inr 0)) else k16 ()
noncomputable def f_MScriptRows_fits (M : im_M) : Option (Int32) := gd (inb 0 16) <| gd (inb 10 16) <| jn0 (fun (_ : Unit) => gd (inb 8 16) <| jn0 (fun (_ : Unit) => bs0 (lp (uc1 (f_MScriptRows_fits_L76 (im_i M 81 (Int32.toNatClampNeg 0)) (im_i M 81 (Int32.toNatClampNeg 10)) M)) 0) (fun (_ : Unit) => if ¬ (im_i M 81 (Int32.toNatClampNeg 0)) = 7 then jn0 (fun (_ : Unit) => some 1) fun k28 => if ¬ (im_i M 81 (Int32.toNatClampNeg 0)) = 2 then k28 () else if ¬ (im_i M 81 (Int32.toNatClampNeg 10)) = 12 then some 0 else k28 () else if ¬ ((im_i M 81 (Int32.toNatClampNeg 10)) - (im_i M 81 (Int32.toNatClampNeg 10)) / 2 * 2) = 0 then some 0 else gd (inb 1 16) <| gd (¬ (((im_i M 81 (Int32.toNatClampNeg 1)) + 7) / 8) = (0 : Int32)) <| if ¬ (((im_i M 81 (Int32.toNatClampNeg 10)) / 2) - ((im_i M 81 (Int32.toNatClampNeg 10)) / 2) / (((im_i M 81 (Int32.toNatClampNeg 1)) + 7) / 8) * (((im_i M 81 (Int32.toNatClampNeg 1)) + 7) / 8)) = 0 then some 0 else some 1) (fun t => some t)) fun k6 => if ¬ (im_i M 81 (Int32.toNatClampNeg 8)) = 1 then k6 () else if (im_i M 81 (Int32.toNatClampNeg 10)) = 0 then some 0 else gd (inb ((im_i M 81 (Int32.toNatClampNeg 10)) - 1) 200) <| bd1 (f_MScriptRows_isDigit (im_i M 83 (Int32.toNatClampNeg ((im_i M 81 (Int32.toNatClampNeg 10)) - 1))) M) fun (x7 : Int32) => if ¬ x7 = 0 then k6 () else some 0) fun k2 => if ¬ ((if (im_i M 81 (Int32.toNatClampNeg 0)) < 4 then 0 else (if 6 < (im_i M 81 (Int32.toNatClampNeg 0)) then 0 else 1)) : Int32) = 0 then k2 () else if ¬ (im_i M 81 (Int32.toNatClampNeg 10)) = 0 then k2 () else some 0
theorem J_MScriptRows_fits_d0 : decode J_MScriptRows_fits.2.1 0 = .ok (.aload_n 0, 1) := by decide +kernel
theorem J_MScriptRows_fits_d1 : decode J_MScriptRows_fits.2.1 1 = .ok (.getfield 41, 3) := by decide +kernel
theorem J_MScriptRows_fits_d4 : decode J_MScriptRows_fits.2.1 4 = .ok (.iconst 0, 1) := by decide +kernel
theorem J_MScriptRows_fits_d5 : decode J_MScriptRows_fits.2.1 5 = .ok (.iaload, 1) := by decide +kernel
theorem J_MScriptRows_fits_d6 : decode J_MScriptRows_fits.2.1 6 = .ok (.istore_n 1, 1) := by decide +kernel
theorem J_MScriptRows_fits_d7 : decode J_MScriptRows_fits.2.1 7 = .ok (.aload_n 0, 1) := by decide +kernel
theorem J_MScriptRows_fits_d8 : decode J_MScriptRows_fits.2.1 8 = .ok (.getfield 41, 3) := by decide +kernel
theorem J_MScriptRows_fits_d11 : decode J_MScriptRows_fits.2.1 11 = .ok (.bipush 10, 2) := by decide +kernel
theorem J_MScriptRows_fits_d13 : decode J_MScriptRows_fits.2.1 13 = .ok (.iaload, 1) := by decide +kernel
theorem J_MScriptRows_fits_d14 : decode J_MScriptRows_fits.2.1 14 = .ok (.istore_n 2, 1) := by decide +kernel
theorem J_MScriptRows_fits_d15 : decode J_MScriptRows_fits.2.1 15 = .ok (.iload_n 1, 1) := by decide +kernel
theorem J_MScriptRows_fits_d16 : decode J_MScriptRows_fits.2.1 16 = .ok (.iconst 4, 1) := by decide +kernel
theorem J_MScriptRows_fits_d17 : decode J_MScriptRows_fits.2.1 17 = .ok (.if_icmp .lt 13, 3) := by decide +kernel
theorem J_MScriptRows_fits_d20 : decode J_MScriptRows_fits.2.1 20 = .ok (.iload_n 1, 1) := by decide +kernel
theorem J_MScriptRows_fits_d21 : decode J_MScriptRows_fits.2.1 21 = .ok (.bipush 6, 2) := by decide +kernel
theorem J_MScriptRows_fits_d23 : decode J_MScriptRows_fits.2.1 23 = .ok (.if_icmp .gt 7, 3) := by decide +kernel
theorem J_MScriptRows_fits_d26 : decode J_MScriptRows_fits.2.1 26 = .ok (.iconst 1, 1) := by decide +kernel
theorem J_MScriptRows_fits_d27 : decode J_MScriptRows_fits.2.1 27 = .ok (.goto 4, 3) := by decide +kernel
theorem J_MScriptRows_fits_d30 : decode J_MScriptRows_fits.2.1 30 = .ok (.iconst 0, 1) := by decide +kernel
theorem J_MScriptRows_fits_d31 : decode J_MScriptRows_fits.2.1 31 = .ok (.istore_n 3, 1) := by decide +kernel
theorem J_MScriptRows_fits_d32 : decode J_MScriptRows_fits.2.1 32 = .ok (.iload_n 3, 1) := by decide +kernel
theorem J_MScriptRows_fits_d33 : decode J_MScriptRows_fits.2.1 33 = .ok (.ifCond .ne 9, 3) := by decide +kernel
theorem J_MScriptRows_fits_d36 : decode J_MScriptRows_fits.2.1 36 = .ok (.iload_n 2, 1) := by decide +kernel
theorem J_MScriptRows_fits_d37 : decode J_MScriptRows_fits.2.1 37 = .ok (.ifCond .ne 5, 3) := by decide +kernel
theorem J_MScriptRows_fits_d40 : decode J_MScriptRows_fits.2.1 40 = .ok (.iconst 0, 1) := by decide +kernel
theorem J_MScriptRows_fits_d41 : decode J_MScriptRows_fits.2.1 41 = .ok (.ireturn, 1) := by decide +kernel
theorem J_MScriptRows_fits_d42 : decode J_MScriptRows_fits.2.1 42 = .ok (.aload_n 0, 1) := by decide +kernel
theorem J_MScriptRows_fits_d43 : decode J_MScriptRows_fits.2.1 43 = .ok (.getfield 41, 3) := by decide +kernel
theorem J_MScriptRows_fits_d46 : decode J_MScriptRows_fits.2.1 46 = .ok (.bipush 8, 2) := by decide +kernel
theorem J_MScriptRows_fits_d48 : decode J_MScriptRows_fits.2.1 48 = .ok (.iaload, 1) := by decide +kernel
theorem J_MScriptRows_fits_d49 : decode J_MScriptRows_fits.2.1 49 = .ok (.iconst 1, 1) := by decide +kernel
theorem J_MScriptRows_fits_d50 : decode J_MScriptRows_fits.2.1 50 = .ok (.if_icmp .ne 23, 3) := by decide +kernel
theorem J_MScriptRows_fits_d53 : decode J_MScriptRows_fits.2.1 53 = .ok (.iload_n 2, 1) := by decide +kernel
theorem J_MScriptRows_fits_d54 : decode J_MScriptRows_fits.2.1 54 = .ok (.ifCond .eq 17, 3) := by decide +kernel
theorem J_MScriptRows_fits_d57 : decode J_MScriptRows_fits.2.1 57 = .ok (.aload_n 0, 1) := by decide +kernel
theorem J_MScriptRows_fits_d58 : decode J_MScriptRows_fits.2.1 58 = .ok (.getfield 47, 3) := by decide +kernel
theorem J_MScriptRows_fits_d61 : decode J_MScriptRows_fits.2.1 61 = .ok (.iload_n 2, 1) := by decide +kernel
theorem J_MScriptRows_fits_d62 : decode J_MScriptRows_fits.2.1 62 = .ok (.iconst 1, 1) := by decide +kernel
theorem J_MScriptRows_fits_d63 : decode J_MScriptRows_fits.2.1 63 = .ok (.isub, 1) := by decide +kernel
theorem J_MScriptRows_fits_d64 : decode J_MScriptRows_fits.2.1 64 = .ok (.iaload, 1) := by decide +kernel
theorem J_MScriptRows_fits_d65 : decode J_MScriptRows_fits.2.1 65 = .ok (.invokestatic 80, 3) := by decide +kernel
theorem J_MScriptRows_fits_d68 : decode J_MScriptRows_fits.2.1 68 = .ok (.ifCond .ne 5, 3) := by decide +kernel
theorem J_MScriptRows_fits_d71 : decode J_MScriptRows_fits.2.1 71 = .ok (.iconst 0, 1) := by decide +kernel
theorem J_MScriptRows_fits_d72 : decode J_MScriptRows_fits.2.1 72 = .ok (.ireturn, 1) := by decide +kernel
theorem J_MScriptRows_fits_d73 : decode J_MScriptRows_fits.2.1 73 = .ok (.iconst 0, 1) := by decide +kernel
theorem J_MScriptRows_fits_d74 : decode J_MScriptRows_fits.2.1 74 = .ok (.istore 4, 2) := by decide +kernel
theorem J_MScriptRows_fits_d76 : decode J_MScriptRows_fits.2.1 76 = .ok (.iload 4, 2) := by decide +kernel
theorem J_MScriptRows_fits_d78 : decode J_MScriptRows_fits.2.1 78 = .ok (.iload_n 2, 1) := by decide +kernel
theorem J_MScriptRows_fits_d79 : decode J_MScriptRows_fits.2.1 79 = .ok (.if_icmp .ge 48, 3) := by decide +kernel
theorem J_MScriptRows_fits_d82 : decode J_MScriptRows_fits.2.1 82 = .ok (.iload_n 1, 1) := by decide +kernel
theorem J_MScriptRows_fits_d83 : decode J_MScriptRows_fits.2.1 83 = .ok (.iconst 2, 1) := by decide +kernel
theorem J_MScriptRows_fits_d84 : decode J_MScriptRows_fits.2.1 84 = .ok (.if_icmp .ne 16, 3) := by decide +kernel
theorem J_MScriptRows_fits_d87 : decode J_MScriptRows_fits.2.1 87 = .ok (.aload_n 0, 1) := by decide +kernel
theorem J_MScriptRows_fits_d88 : decode J_MScriptRows_fits.2.1 88 = .ok (.getfield 47, 3) := by decide +kernel
theorem J_MScriptRows_fits_d91 : decode J_MScriptRows_fits.2.1 91 = .ok (.iload 4, 2) := by decide +kernel
theorem J_MScriptRows_fits_d93 : decode J_MScriptRows_fits.2.1 93 = .ok (.iaload, 1) := by decide +kernel
theorem J_MScriptRows_fits_d94 : decode J_MScriptRows_fits.2.1 94 = .ok (.invokestatic 80, 3) := by decide +kernel
theorem J_MScriptRows_fits_d97 : decode J_MScriptRows_fits.2.1 97 = .ok (.ifCond .eq 22, 3) := by decide +kernel
theorem J_MScriptRows_fits_d100 : decode J_MScriptRows_fits.2.1 100 = .ok (.iload_n 1, 1) := by decide +kernel
theorem J_MScriptRows_fits_d101 : decode J_MScriptRows_fits.2.1 101 = .ok (.bipush 7, 2) := by decide +kernel
theorem J_MScriptRows_fits_d103 : decode J_MScriptRows_fits.2.1 103 = .ok (.if_icmp .ne 18, 3) := by decide +kernel
theorem J_MScriptRows_fits_d106 : decode J_MScriptRows_fits.2.1 106 = .ok (.aload_n 0, 1) := by decide +kernel
theorem J_MScriptRows_fits_d107 : decode J_MScriptRows_fits.2.1 107 = .ok (.getfield 47, 3) := by decide +kernel
theorem J_MScriptRows_fits_d110 : decode J_MScriptRows_fits.2.1 110 = .ok (.iload 4, 2) := by decide +kernel
theorem J_MScriptRows_fits_d112 : decode J_MScriptRows_fits.2.1 112 = .ok (.iaload, 1) := by decide +kernel
theorem J_MScriptRows_fits_d113 : decode J_MScriptRows_fits.2.1 113 = .ok (.invokestatic 104, 3) := by decide +kernel
theorem J_MScriptRows_fits_d116 : decode J_MScriptRows_fits.2.1 116 = .ok (.ifCond .ge 5, 3) := by decide +kernel
theorem J_MScriptRows_fits_d119 : decode J_MScriptRows_fits.2.1 119 = .ok (.iconst 0, 1) := by decide +kernel
theorem J_MScriptRows_fits_d120 : decode J_MScriptRows_fits.2.1 120 = .ok (.ireturn, 1) := by decide +kernel
theorem J_MScriptRows_fits_d121 : decode J_MScriptRows_fits.2.1 121 = .ok (.iinc 4 1, 3) := by decide +kernel
theorem J_MScriptRows_fits_d124 : decode J_MScriptRows_fits.2.1 124 = .ok (.goto (-48), 3) := by decide +kernel
theorem J_MScriptRows_fits_d127 : decode J_MScriptRows_fits.2.1 127 = .ok (.iload_n 1, 1) := by decide +kernel
theorem J_MScriptRows_fits_d128 : decode J_MScriptRows_fits.2.1 128 = .ok (.bipush 7, 2) := by decide +kernel
theorem J_MScriptRows_fits_d130 : decode J_MScriptRows_fits.2.1 130 = .ok (.if_icmp .ne 34, 3) := by decide +kernel
theorem J_MScriptRows_fits_d133 : decode J_MScriptRows_fits.2.1 133 = .ok (.iload_n 2, 1) := by decide +kernel
theorem J_MScriptRows_fits_d134 : decode J_MScriptRows_fits.2.1 134 = .ok (.iconst 2, 1) := by decide +kernel
theorem J_MScriptRows_fits_d135 : decode J_MScriptRows_fits.2.1 135 = .ok (.irem, 1) := by decide +kernel
theorem J_MScriptRows_fits_d136 : decode J_MScriptRows_fits.2.1 136 = .ok (.ifCond .ne 26, 3) := by decide +kernel
theorem J_MScriptRows_fits_d139 : decode J_MScriptRows_fits.2.1 139 = .ok (.iload_n 2, 1) := by decide +kernel
theorem J_MScriptRows_fits_d140 : decode J_MScriptRows_fits.2.1 140 = .ok (.iconst 2, 1) := by decide +kernel
theorem J_MScriptRows_fits_d141 : decode J_MScriptRows_fits.2.1 141 = .ok (.idiv, 1) := by decide +kernel
theorem J_MScriptRows_fits_d142 : decode J_MScriptRows_fits.2.1 142 = .ok (.aload_n 0, 1) := by decide +kernel
theorem J_MScriptRows_fits_d143 : decode J_MScriptRows_fits.2.1 143 = .ok (.getfield 41, 3) := by decide +kernel
theorem J_MScriptRows_fits_d146 : decode J_MScriptRows_fits.2.1 146 = .ok (.iconst 1, 1) := by decide +kernel
theorem J_MScriptRows_fits_d147 : decode J_MScriptRows_fits.2.1 147 = .ok (.iaload, 1) := by decide +kernel
theorem J_MScriptRows_fits_d148 : decode J_MScriptRows_fits.2.1 148 = .ok (.bipush 7, 2) := by decide +kernel
theorem J_MScriptRows_fits_d150 : decode J_MScriptRows_fits.2.1 150 = .ok (.iadd, 1) := by decide +kernel
theorem J_MScriptRows_fits_d151 : decode J_MScriptRows_fits.2.1 151 = .ok (.bipush 8, 2) := by decide +kernel
theorem J_MScriptRows_fits_d153 : decode J_MScriptRows_fits.2.1 153 = .ok (.idiv, 1) := by decide +kernel
theorem J_MScriptRows_fits_d154 : decode J_MScriptRows_fits.2.1 154 = .ok (.irem, 1) := by decide +kernel
theorem J_MScriptRows_fits_d155 : decode J_MScriptRows_fits.2.1 155 = .ok (.ifCond .ne 7, 3) := by decide +kernel
theorem J_MScriptRows_fits_d158 : decode J_MScriptRows_fits.2.1 158 = .ok (.iconst 1, 1) := by decide +kernel
theorem J_MScriptRows_fits_d159 : decode J_MScriptRows_fits.2.1 159 = .ok (.goto 4, 3) := by decide +kernel
theorem J_MScriptRows_fits_d162 : decode J_MScriptRows_fits.2.1 162 = .ok (.iconst 0, 1) := by decide +kernel
theorem J_MScriptRows_fits_d163 : decode J_MScriptRows_fits.2.1 163 = .ok (.ireturn, 1) := by decide +kernel
theorem J_MScriptRows_fits_d164 : decode J_MScriptRows_fits.2.1 164 = .ok (.iload_n 1, 1) := by decide +kernel
theorem J_MScriptRows_fits_d165 : decode J_MScriptRows_fits.2.1 165 = .ok (.iconst 2, 1) := by decide +kernel
theorem J_MScriptRows_fits_d166 : decode J_MScriptRows_fits.2.1 166 = .ok (.if_icmp .ne 9, 3) := by decide +kernel
theorem J_MScriptRows_fits_d169 : decode J_MScriptRows_fits.2.1 169 = .ok (.iload_n 2, 1) := by decide +kernel
theorem J_MScriptRows_fits_d170 : decode J_MScriptRows_fits.2.1 170 = .ok (.bipush 12, 2) := by decide +kernel
theorem J_MScriptRows_fits_d172 : decode J_MScriptRows_fits.2.1 172 = .ok (.if_icmp .ne 7, 3) := by decide +kernel
theorem J_MScriptRows_fits_d175 : decode J_MScriptRows_fits.2.1 175 = .ok (.iconst 1, 1) := by decide +kernel
theorem J_MScriptRows_fits_d176 : decode J_MScriptRows_fits.2.1 176 = .ok (.goto 4, 3) := by decide +kernel
theorem J_MScriptRows_fits_d179 : decode J_MScriptRows_fits.2.1 179 = .ok (.iconst 0, 1) := by decide +kernel
theorem J_MScriptRows_fits_d180 : decode J_MScriptRows_fits.2.1 180 = .ok (.ireturn, 1) := by decide +kernel
theorem f_MScriptRows_fits_ok {L : Nat} {xs : Nat → Int32} {dep : Nat} {w : Bool} {M : im_M} {Q : Int32 → Prop} (hM : lw_S w M) (h : ed (f_MScriptRows_fits M) Q) : ia (tb_G L xs) (dep + 2) J_MScriptRows_fits (rpI M Q) (0, lv_args 0 [.ref 71], [], M) := by
  have hS : im_St (tb_G L xs) (dep + 2) J_MScriptRows_fits (ia (tb_G L xs) (dep + 2) J_MScriptRows_fits (rpI M Q)) := ia_St
  unfold f_MScriptRows_fits at h
  have l0 : im_lk (lv_args 0 [.ref 71]) 0 = some (.ref 71) := rfl
  refine iq_aload_n hS 1 J_MScriptRows_fits_d0 l0 rfl ?_
  refine iq_getR hS 4 J_MScriptRows_fits_d1 lf_15_41 (Or.inr ⟨_, rfl⟩) (ka_71 hM) (ra_71_27 hM) rfl ?_
  refine iq_iconst hS 5 J_MScriptRows_fits_d4 (v := 0) (by decide +kernel) rfl ?_
  obtain ⟨g5, h⟩ := ed_gd h
  refine iq_iaload hS 6 J_MScriptRows_fits_d5 ⟨(ka_81 hM).1, (ka_81 hM).2, g5.1, ix_lt (kl_81 hM) g5.2⟩ rfl ?_
  refine iq_istore_n hS 7 J_MScriptRows_fits_d6 (by decide) rfl ?_
  refine iq_aload_n hS 8 J_MScriptRows_fits_d7 (lk_1r l0 (by decide)) rfl ?_
  refine iq_getR hS 11 J_MScriptRows_fits_d8 lf_15_41 (Or.inr ⟨_, rfl⟩) (ka_71 hM) (ra_71_27 hM) rfl ?_
  refine iq_bipush hS 13 J_MScriptRows_fits_d11 (v := 10) (by decide +kernel) rfl ?_
  obtain ⟨g13, h⟩ := ed_gd h
  refine iq_iaload hS 14 J_MScriptRows_fits_d13 ⟨(ka_81 hM).1, (ka_81 hM).2, g13.1, ix_lt (kl_81 hM) g13.2⟩ rfl ?_
  refine iq_istore_n hS 15 J_MScriptRows_fits_d14 (by decide) rfl ?_
  refine iq_iload_n hS 16 J_MScriptRows_fits_d15 (lk_1i lk_1s (by decide)) rfl ?_
  refine iq_iconst hS 17 J_MScriptRows_fits_d16 (v := 4) (by decide +kernel) rfl ?_
  have J1 : ∀ (z2 : Int32) (L' : List (Nat × Value)), z2 = ((if (im_i M 81 (Int32.toNatClampNeg 0)) < 4 then 0 else (if 6 < (im_i M 81 (Int32.toNatClampNeg 0)) then 0 else 1)) : Int32) → im_lk L' 0 = some (.ref 71) → im_lk L' 1 = some (.int (im_i M 81 (Int32.toNatClampNeg 0))) → im_lk L' 2 = some (.int (im_i M 81 (Int32.toNatClampNeg 10))) → ia (tb_G L xs) (dep + 2) J_MScriptRows_fits (rpI M Q) (31, L', [.int z2], M) := by
    intro z2 L' e3 l4 l5 l6
    subst e3
    refine iq_istore_n hS 32 J_MScriptRows_fits_d31 (by decide) rfl ?_
    refine iq_iload_n hS 33 J_MScriptRows_fits_d32 lk_1s rfl ?_
    obtain ⟨k7, Q7, hQ7, hk7, h⟩ := jn0_ed h
    have J7 : ∀  (L' : List (Nat × Value)), im_lk L' 0 = some (.ref 71) → im_lk L' 1 = some (.int (im_i M 81 (Int32.toNatClampNeg 0))) → im_lk L' 2 = some (.int (im_i M 81 (Int32.toNatClampNeg 10))) → Q7 () → ia (tb_G L xs) (dep + 2) J_MScriptRows_fits (rpI M Q) (42, L', [], M) := by
      intro  L' l8 l9 l10 h
      replace h := hQ7  h
      refine iq_aload_n hS 43 J_MScriptRows_fits_d42 l8 rfl ?_
      refine iq_getR hS 46 J_MScriptRows_fits_d43 lf_15_41 (Or.inr ⟨_, rfl⟩) (ka_71 hM) (ra_71_27 hM) rfl ?_
      refine iq_bipush hS 48 J_MScriptRows_fits_d46 (v := 8) (by decide +kernel) rfl ?_
      obtain ⟨g48, h⟩ := ed_gd h
      refine iq_iaload hS 49 J_MScriptRows_fits_d48 ⟨(ka_81 hM).1, (ka_81 hM).2, g48.1, ix_lt (kl_81 hM) g48.2⟩ rfl ?_
      refine iq_iconst hS 50 J_MScriptRows_fits_d49 (v := 1) (by decide +kernel) rfl ?_
      obtain ⟨k11, Q11, hQ11, hk11, h⟩ := jn0_ed h
      have J11 : ∀  (L' : List (Nat × Value)), im_lk L' 0 = some (.ref 71) → im_lk L' 1 = some (.int (im_i M 81 (Int32.toNatClampNeg 0))) → im_lk L' 2 = some (.int (im_i M 81 (Int32.toNatClampNeg 10))) → Q11 () → ia (tb_G L xs) (dep + 2) J_MScriptRows_fits (rpI M Q) (73, L', [], M) := by
        intro  L' l13 l14 l15 h
        replace h := hQ11  h
        refine iq_iconst hS 74 J_MScriptRows_fits_d73 (v := 0) (by decide +kernel) rfl ?_
        refine iq_istore hS 76 J_MScriptRows_fits_d74 (by decide) rfl ?_
        obtain ⟨Q16, hQ16, hR16, h⟩ := bs0_ed h
        have K16 : ∀  (L' : List (Nat × Value)), im_lk L' 0 = some (.ref 71) → im_lk L' 1 = some (.int (im_i M 81 (Int32.toNatClampNeg 0))) → im_lk L' 2 = some (.int (im_i M 81 (Int32.toNatClampNeg 10))) → Q16 (.inl ()) → ia (tb_G L xs) (dep + 2) J_MScriptRows_fits (rpI M Q) (127, L', [], M) := by
          intro  L' l17 l18 l19 h
          replace h := hQ16  h
          refine iq_iload_n hS 128 J_MScriptRows_fits_d127 l18 rfl ?_
          refine iq_bipush hS 130 J_MScriptRows_fits_d128 (v := 7) (by decide +kernel) rfl ?_
          refine iq_icmp_ne hS 133 J_MScriptRows_fits_d130 (t := 164) rfl (fun q130 => ?_) rfl (fun q130 => ?_)
          · replace h := ed_pos q130 h
            refine iq_iload_n hS 165 J_MScriptRows_fits_d164 l18 rfl ?_
            refine iq_iconst hS 166 J_MScriptRows_fits_d165 (v := 2) (by decide +kernel) rfl ?_
            obtain ⟨k20, Q20, hQ20, hk20, h⟩ := jn0_ed h
            have J20 : ∀  (L' : List (Nat × Value)), Q20 () → ia (tb_G L xs) (dep + 2) J_MScriptRows_fits (rpI M Q) (175, L', [], M) := by
              intro  L'  h
              replace h := hQ20  h
              refine iq_iconst hS 176 J_MScriptRows_fits_d175 (v := 1) (by decide +kernel) rfl ?_
              refine iq_goto hS J_MScriptRows_fits_d176 (t := 180) rfl ?_
              exact iq_iret J_MScriptRows_fits_d180 rfl rfl ⟨_, rfl, rfl, ed_some h⟩
            refine iq_icmp_ne hS 169 J_MScriptRows_fits_d166 (t := 175) rfl (fun q166 => ?_) rfl (fun q166 => ?_)
            · replace h := ed_pos q166 h
              exact J20  _  (hk20  h)
            · replace h := ed_neg q166 h
              refine iq_iload_n hS 170 J_MScriptRows_fits_d169 l19 rfl ?_
              refine iq_bipush hS 172 J_MScriptRows_fits_d170 (v := 12) (by decide +kernel) rfl ?_
              refine iq_icmp_ne hS 175 J_MScriptRows_fits_d172 (t := 179) rfl (fun q172 => ?_) rfl (fun q172 => ?_)
              · replace h := ed_pos q172 h
                refine iq_iconst hS 180 J_MScriptRows_fits_d179 (v := 0) (by decide +kernel) rfl ?_
                exact iq_iret J_MScriptRows_fits_d180 rfl rfl ⟨_, rfl, rfl, ed_some h⟩
              · replace h := ed_neg q172 h
                exact J20  _  (hk20  h)
          · replace h := ed_neg q130 h
            refine iq_iload_n hS 134 J_MScriptRows_fits_d133 l19 rfl ?_
            refine iq_iconst hS 135 J_MScriptRows_fits_d134 (v := 2) (by decide +kernel) rfl ?_
            refine iq_irem hS 136 J_MScriptRows_fits_d135 (by decide) rfl ?_
            refine iq_if_ne hS 139 J_MScriptRows_fits_d136 (t := 162) rfl (fun q136 => ?_) rfl (fun q136 => ?_)
            · replace h := ed_pos q136 h
              refine iq_iconst hS 163 J_MScriptRows_fits_d162 (v := 0) (by decide +kernel) rfl ?_
              exact iq_iret J_MScriptRows_fits_d163 rfl rfl ⟨_, rfl, rfl, ed_some h⟩
            · replace h := ed_neg q136 h
              refine iq_iload_n hS 140 J_MScriptRows_fits_d139 l19 rfl ?_
              refine iq_iconst hS 141 J_MScriptRows_fits_d140 (v := 2) (by decide +kernel) rfl ?_
              refine iq_idiv hS 142 J_MScriptRows_fits_d141 (by decide) rfl ?_
              refine iq_aload_n hS 143 J_MScriptRows_fits_d142 l17 rfl ?_
              refine iq_getR hS 146 J_MScriptRows_fits_d143 lf_15_41 (Or.inr ⟨_, rfl⟩) (ka_71 hM) (ra_71_27 hM) rfl ?_
              refine iq_iconst hS 147 J_MScriptRows_fits_d146 (v := 1) (by decide +kernel) rfl ?_
              obtain ⟨g147, h⟩ := ed_gd h
              refine iq_iaload hS 148 J_MScriptRows_fits_d147 ⟨(ka_81 hM).1, (ka_81 hM).2, g147.1, ix_lt (kl_81 hM) g147.2⟩ rfl ?_
              refine iq_bipush hS 150 J_MScriptRows_fits_d148 (v := 7) (by decide +kernel) rfl ?_
              refine iq_iadd hS 151 J_MScriptRows_fits_d150 rfl ?_
              refine iq_bipush hS 153 J_MScriptRows_fits_d151 (v := 8) (by decide +kernel) rfl ?_
              refine iq_idiv hS 154 J_MScriptRows_fits_d153 (by decide) rfl ?_
              obtain ⟨g154, h⟩ := ed_gd h
              refine iq_irem hS 155 J_MScriptRows_fits_d154 g154 rfl ?_
              refine iq_if_ne hS 158 J_MScriptRows_fits_d155 (t := 162) rfl (fun q155 => ?_) rfl (fun q155 => ?_)
              · replace h := ed_pos q155 h
                refine iq_iconst hS 163 J_MScriptRows_fits_d162 (v := 0) (by decide +kernel) rfl ?_
                exact iq_iret J_MScriptRows_fits_d163 rfl rfl ⟨_, rfl, rfl, ed_some h⟩
              · replace h := ed_neg q155 h
                refine iq_iconst hS 159 J_MScriptRows_fits_d158 (v := 1) (by decide +kernel) rfl ?_
                refine iq_goto hS J_MScriptRows_fits_d159 (t := 163) rfl ?_
                exact iq_iret J_MScriptRows_fits_d163 rfl rfl ⟨_, rfl, rfl, ed_some h⟩
        obtain ⟨r16, hr16, hq16⟩ := h
        obtain ⟨n16, hn16⟩ := lp_n hr16
        have I16 : ∀ (n : Nat) (x21 : Int32) (L' : List (Nat × Value)), im_lk L' 0 = some (.ref 71) → im_lk L' 1 = some (.int (im_i M 81 (Int32.toNatClampNeg 0))) → im_lk L' 2 = some (.int (im_i M 81 (Int32.toNatClampNeg 10))) → im_lk L' 4 = some (.int x21) → lpn (uc1 (f_MScriptRows_fits_L76 (im_i M 81 (Int32.toNatClampNeg 0)) (im_i M 81 (Int32.toNatClampNeg 10)) M)) n x21 = some r16 → ia (tb_G L xs) (dep + 2) J_MScriptRows_fits (rpI M Q) (76, L', [], M) := by
          intro n
          induction n with
          | zero => intro x21 L' l22 l23 l24 l25 hn; exact (lpn_0 hn).elim
          | succ n ih =>
            intro x21 L' l22 l23 l24 l25 hn
            have h := lpn_ed1 hn
            unfold f_MScriptRows_fits_L76 at h
            refine iq_iload hS 78 J_MScriptRows_fits_d76 l25 rfl ?_
            refine iq_iload_n hS 79 J_MScriptRows_fits_d78 l24 rfl ?_
            refine iq_icmp_ge hS 82 J_MScriptRows_fits_d79 (t := 127) rfl (fun q79 => ?_) rfl (fun q79 => ?_)
            · replace h := ed_pos q79 h
              exact K16  _ l22 l23 l24 (lq_r h hq16)
            · replace h := ed_neg q79 h
              refine iq_iload_n hS 83 J_MScriptRows_fits_d82 l23 rfl ?_
              refine iq_iconst hS 84 J_MScriptRows_fits_d83 (v := 2) (by decide +kernel) rfl ?_
              obtain ⟨k26, Q26, hQ26, hk26, h⟩ := jn0_ed h
              have J26 : ∀  (L' : List (Nat × Value)), im_lk L' 0 = some (.ref 71) → im_lk L' 1 = some (.int (im_i M 81 (Int32.toNatClampNeg 0))) → im_lk L' 2 = some (.int (im_i M 81 (Int32.toNatClampNeg 10))) → im_lk L' 4 = some (.int x21) → Q26 () → ia (tb_G L xs) (dep + 2) J_MScriptRows_fits (rpI M Q) (100, L', [], M) := by
                intro  L' l28 l29 l30 l31 h
                replace h := hQ26  h
                refine iq_iload_n hS 101 J_MScriptRows_fits_d100 l29 rfl ?_
                refine iq_bipush hS 103 J_MScriptRows_fits_d101 (v := 7) (by decide +kernel) rfl ?_
                obtain ⟨k32, Q32, hQ32, hk32, h⟩ := jn0_ed h
                have J32 : ∀  (L' : List (Nat × Value)), im_lk L' 0 = some (.ref 71) → im_lk L' 1 = some (.int (im_i M 81 (Int32.toNatClampNeg 0))) → im_lk L' 2 = some (.int (im_i M 81 (Int32.toNatClampNeg 10))) → im_lk L' 4 = some (.int x21) → Q32 () → ia (tb_G L xs) (dep + 2) J_MScriptRows_fits (rpI M Q) (121, L', [], M) := by
                  intro  L' l34 l35 l36 l37 h
                  replace h := hQ32  h
                  refine iq_iincv hS 124 J_MScriptRows_fits_d121 (c := 1) (by decide +kernel) l37 (by decide) rfl ?_
                  refine iq_goto hS J_MScriptRows_fits_d124 (t := 76) rfl ?_
                  exact ih _ _ (lk_1r l34 (by decide)) (lk_1i l35 (by decide)) (lk_1i l36 (by decide)) lk_1s (lq_l h)
                refine iq_icmp_ne hS 106 J_MScriptRows_fits_d103 (t := 121) rfl (fun q103 => ?_) rfl (fun q103 => ?_)
                · replace h := ed_pos q103 h
                  exact J32  _ l28 l29 l30 l31 (hk32  h)
                · replace h := ed_neg q103 h
                  refine iq_aload_n hS 107 J_MScriptRows_fits_d106 l28 rfl ?_
                  refine iq_getR hS 110 J_MScriptRows_fits_d107 lf_15_47 (Or.inr ⟨_, rfl⟩) (ka_71 hM) (ra_71_29 hM) rfl ?_
                  refine iq_iload hS 112 J_MScriptRows_fits_d110 l31 rfl ?_
                  obtain ⟨g112, h⟩ := ed_gd h
                  refine iq_iaload hS 113 J_MScriptRows_fits_d112 ⟨(ka_83 hM).1, (ka_83 hM).2, g112.1, ix_lt (kl_83 hM) g112.2⟩ rfl ?_
                  obtain ⟨Q33, hQ33, h⟩ := bd1_ed h
                  refine iq_cpI hS 116 J_MScriptRows_fits_d113 rfl (pr_stat (vs := [_]) lc_15_104 lT_294 rfl rfl (by decide) rfl (Nat.le_of_ble_eq_true rfl) (Nat.le_of_ble_eq_true rfl)) (f_MScriptRows_hex_ok (dep := dep + 0) hM h) rfl ?_
                  intro x33 h
                  replace h := hQ33 _ h
                  refine iq_if_ge hS 119 J_MScriptRows_fits_d116 (t := 121) rfl (fun q116 => ?_) rfl (fun q116 => ?_)
                  · replace h := ed_pos q116 h
                    exact J32  _ l28 l29 l30 l31 (hk32  h)
                  · replace h := ed_neg q116 h
                    refine iq_iconst hS 120 J_MScriptRows_fits_d119 (v := 0) (by decide +kernel) rfl ?_
                    exact iq_iret J_MScriptRows_fits_d120 rfl rfl ⟨_, rfl, rfl, ed_some (hR16 _ (lq_r h hq16))⟩
              refine iq_icmp_ne hS 87 J_MScriptRows_fits_d84 (t := 100) rfl (fun q84 => ?_) rfl (fun q84 => ?_)
              · replace h := ed_pos q84 h
                exact J26  _ l22 l23 l24 l25 (hk26  h)
              · replace h := ed_neg q84 h
                refine iq_aload_n hS 88 J_MScriptRows_fits_d87 l22 rfl ?_
                refine iq_getR hS 91 J_MScriptRows_fits_d88 lf_15_47 (Or.inr ⟨_, rfl⟩) (ka_71 hM) (ra_71_29 hM) rfl ?_
                refine iq_iload hS 93 J_MScriptRows_fits_d91 l25 rfl ?_
                obtain ⟨g93, h⟩ := ed_gd h
                refine iq_iaload hS 94 J_MScriptRows_fits_d93 ⟨(ka_83 hM).1, (ka_83 hM).2, g93.1, ix_lt (kl_83 hM) g93.2⟩ rfl ?_
                obtain ⟨Q27, hQ27, h⟩ := bd1_ed h
                refine iq_cpI hS 97 J_MScriptRows_fits_d94 rfl (pr_stat (vs := [_]) lc_15_80 lT_289 rfl rfl (by decide) rfl (Nat.le_of_ble_eq_true rfl) (Nat.le_of_ble_eq_true rfl)) (f_MScriptRows_isDigit_ok (dep := dep + 1) hM h) rfl ?_
                intro x27 h
                replace h := hQ27 _ h
                refine iq_if_eq hS 100 J_MScriptRows_fits_d97 (t := 119) rfl (fun q97 => ?_) rfl (fun q97 => ?_)
                · replace h := ed_pos q97 h
                  refine iq_iconst hS 120 J_MScriptRows_fits_d119 (v := 0) (by decide +kernel) rfl ?_
                  exact iq_iret J_MScriptRows_fits_d120 rfl rfl ⟨_, rfl, rfl, ed_some (hR16 _ (lq_r h hq16))⟩
                · replace h := ed_neg q97 h
                  exact J26  _ l22 l23 l24 l25 (hk26  h)
        exact I16 n16 _ _ (lk_1r l13 (by decide)) (lk_1i l14 (by decide)) (lk_1i l15 (by decide)) lk_1s hn16
      refine iq_icmp_ne hS 53 J_MScriptRows_fits_d50 (t := 73) rfl (fun q50 => ?_) rfl (fun q50 => ?_)
      · replace h := ed_pos q50 h
        exact J11  _ l8 l9 l10 (hk11  h)
      · replace h := ed_neg q50 h
        refine iq_iload_n hS 54 J_MScriptRows_fits_d53 l10 rfl ?_
        refine iq_if_eq hS 57 J_MScriptRows_fits_d54 (t := 71) rfl (fun q54 => ?_) rfl (fun q54 => ?_)
        · replace h := ed_pos q54 h
          refine iq_iconst hS 72 J_MScriptRows_fits_d71 (v := 0) (by decide +kernel) rfl ?_
          exact iq_iret J_MScriptRows_fits_d72 rfl rfl ⟨_, rfl, rfl, ed_some h⟩
        · replace h := ed_neg q54 h
          refine iq_aload_n hS 58 J_MScriptRows_fits_d57 l8 rfl ?_
          refine iq_getR hS 61 J_MScriptRows_fits_d58 lf_15_47 (Or.inr ⟨_, rfl⟩) (ka_71 hM) (ra_71_29 hM) rfl ?_
          refine iq_iload_n hS 62 J_MScriptRows_fits_d61 l10 rfl ?_
          refine iq_iconst hS 63 J_MScriptRows_fits_d62 (v := 1) (by decide +kernel) rfl ?_
          refine iq_isub hS 64 J_MScriptRows_fits_d63 rfl ?_
          obtain ⟨g64, h⟩ := ed_gd h
          refine iq_iaload hS 65 J_MScriptRows_fits_d64 ⟨(ka_83 hM).1, (ka_83 hM).2, g64.1, ix_lt (kl_83 hM) g64.2⟩ rfl ?_
          obtain ⟨Q12, hQ12, h⟩ := bd1_ed h
          refine iq_cpI hS 68 J_MScriptRows_fits_d65 rfl (pr_stat (vs := [_]) lc_15_80 lT_289 rfl rfl (by decide) rfl (Nat.le_of_ble_eq_true rfl) (Nat.le_of_ble_eq_true rfl)) (f_MScriptRows_isDigit_ok (dep := dep + 1) hM h) rfl ?_
          intro x12 h
          replace h := hQ12 _ h
          refine iq_if_ne hS 71 J_MScriptRows_fits_d68 (t := 73) rfl (fun q68 => ?_) rfl (fun q68 => ?_)
          · replace h := ed_pos q68 h
            exact J11  _ l8 l9 l10 (hk11  h)
          · replace h := ed_neg q68 h
            refine iq_iconst hS 72 J_MScriptRows_fits_d71 (v := 0) (by decide +kernel) rfl ?_
            exact iq_iret J_MScriptRows_fits_d72 rfl rfl ⟨_, rfl, rfl, ed_some h⟩
    refine iq_if_ne hS 36 J_MScriptRows_fits_d33 (t := 42) rfl (fun q33 => ?_) rfl (fun q33 => ?_)
    · replace h := ed_pos q33 h
      exact J7  _ (lk_1r l4 (by decide)) (lk_1i l5 (by decide)) (lk_1i l6 (by decide)) (hk7  h)
    · replace h := ed_neg q33 h
      refine iq_iload_n hS 37 J_MScriptRows_fits_d36 (lk_1i l6 (by decide)) rfl ?_
      refine iq_if_ne hS 40 J_MScriptRows_fits_d37 (t := 42) rfl (fun q37 => ?_) rfl (fun q37 => ?_)
      · replace h := ed_pos q37 h
        exact J7  _ (lk_1r l4 (by decide)) (lk_1i l5 (by decide)) (lk_1i l6 (by decide)) (hk7  h)
      · replace h := ed_neg q37 h
        refine iq_iconst hS 41 J_MScriptRows_fits_d40 (v := 0) (by decide +kernel) rfl ?_
        exact iq_iret J_MScriptRows_fits_d41 rfl rfl ⟨_, rfl, rfl, ed_some h⟩
  refine iq_icmp_lt hS 20 J_MScriptRows_fits_d17 (t := 30) rfl (fun q17 => ?_) rfl (fun q17 => ?_)
  · refine iq_iconst hS 31 J_MScriptRows_fits_d30 (v := 0) (by decide +kernel) rfl ?_
    exact J1 _ _ (by simp only [if_pos q17]) (lk_1r (lk_1r l0 (by decide)) (by decide)) (lk_1i lk_1s (by decide)) lk_1s
  · refine iq_iload_n hS 21 J_MScriptRows_fits_d20 (lk_1i lk_1s (by decide)) rfl ?_
    refine iq_bipush hS 23 J_MScriptRows_fits_d21 (v := 6) (by decide +kernel) rfl ?_
    refine iq_icmp_gt hS 26 J_MScriptRows_fits_d23 (t := 30) rfl (fun q23 => ?_) rfl (fun q23 => ?_)
    · refine iq_iconst hS 31 J_MScriptRows_fits_d30 (v := 0) (by decide +kernel) rfl ?_
      exact J1 _ _ (by simp only [if_neg q17, if_pos q23]) (lk_1r (lk_1r l0 (by decide)) (by decide)) (lk_1i lk_1s (by decide)) lk_1s
    · refine iq_iconst hS 27 J_MScriptRows_fits_d26 (v := 1) (by decide +kernel) rfl ?_
      refine iq_goto hS J_MScriptRows_fits_d27 (t := 31) rfl ?_
      exact J1 _ _ (by simp only [if_neg q17, if_neg q23]) (lk_1r (lk_1r l0 (by decide)) (by decide)) (lk_1i lk_1s (by decide)) lk_1s
noncomputable def f_MScriptRows_lay_L38 (x2 : Int32) (M3 : im_M) : Option ((Int32 × im_M) ⊕ (im_M)) := if 4 ≤ x2 then some (.inr M3) else gd (inb x2 4) <| gd (inb ((11 : Int32) + x2) 16) <| some (.inl ((x2 + 1), (im_setI M3 81 (Int32.toNatClampNeg ((11 : Int32) + x2)) (im_i M3 80 (Int32.toNatClampNeg x2)))))
noncomputable def f_MScriptRows_lay_L66 (x6 : Int32) (M7 : im_M) : Option ((Int32 × im_M) ⊕ (im_M)) := if 16 ≤ x6 then some (.inr M7) else gd (inb x6 16) <| gd (inb (((16 : Int32) * (im_i M7 71 25)) + x6) 2000) <| some (.inl ((x6 + 1), (im_setI M7 82 (Int32.toNatClampNeg (((16 : Int32) * (im_i M7 71 25)) + x6)) (im_i M7 81 (Int32.toNatClampNeg x6)))))
noncomputable def f_MScriptRows_lay_L100 (x10 : Int32) (M11 : im_M) : Option ((Int32 × im_M) ⊕ (im_M)) := if 200 ≤ x10 then some (.inr M11) else gd (inb x10 200) <| gd (inb (((200 : Int32) * (im_i M11 71 25)) + x10) 24200) <| some (.inl ((x10 + 1), (im_setI M11 84 (Int32.toNatClampNeg (((200 : Int32) * (im_i M11 71 25)) + x10)) (im_i M11 83 (Int32.toNatClampNeg x10)))))
noncomputable def f_MScriptRows_lay (M : im_M) : Option (im_M) := gd (inb 5 16) <| gd (inb 5 16) <| gd (inb 6 16) <| gd (inb 6 16) <| bd1 (lp (uc2 (f_MScriptRows_lay_L38)) (0, (im_setI (im_setI M 81 (Int32.toNatClampNeg 5) ((im_i M 81 (Int32.toNatClampNeg 5)) + (im_i M 71 22))) 81 (Int32.toNatClampNeg 6) ((im_i (im_setI M 81 (Int32.toNatClampNeg 5) ((im_i M 81 (Int32.toNatClampNeg 5)) + (im_i M 71 22))) 81 (Int32.toNatClampNeg 6)) + (im_i (im_setI M 81 (Int32.toNatClampNeg 5) ((im_i M 81 (Int32.toNatClampNeg 5)) + (im_i M 71 22))) 71 23))))) fun (M4 : im_M) => bd1 (lp (uc2 (f_MScriptRows_lay_L66)) (0, M4)) fun (M8 : im_M) => bd1 (lp (uc2 (f_MScriptRows_lay_L100)) (0, M8)) fun (M12 : im_M) => some M12
theorem J_MScriptRows_lay_d0 : decode J_MScriptRows_lay.2.1 0 = .ok (.aload_n 0, 1) := by decide +kernel
theorem J_MScriptRows_lay_d1 : decode J_MScriptRows_lay.2.1 1 = .ok (.getfield 41, 3) := by decide +kernel
theorem J_MScriptRows_lay_d4 : decode J_MScriptRows_lay.2.1 4 = .ok (.iconst 5, 1) := by decide +kernel
theorem J_MScriptRows_lay_d5 : decode J_MScriptRows_lay.2.1 5 = .ok (.aload_n 0, 1) := by decide +kernel
theorem J_MScriptRows_lay_d6 : decode J_MScriptRows_lay.2.1 6 = .ok (.getfield 41, 3) := by decide +kernel
theorem J_MScriptRows_lay_d9 : decode J_MScriptRows_lay.2.1 9 = .ok (.iconst 5, 1) := by decide +kernel
theorem J_MScriptRows_lay_d10 : decode J_MScriptRows_lay.2.1 10 = .ok (.iaload, 1) := by decide +kernel
theorem J_MScriptRows_lay_d11 : decode J_MScriptRows_lay.2.1 11 = .ok (.aload_n 0, 1) := by decide +kernel
theorem J_MScriptRows_lay_d12 : decode J_MScriptRows_lay.2.1 12 = .ok (.getfield 107, 3) := by decide +kernel
theorem J_MScriptRows_lay_d15 : decode J_MScriptRows_lay.2.1 15 = .ok (.iadd, 1) := by decide +kernel
theorem J_MScriptRows_lay_d16 : decode J_MScriptRows_lay.2.1 16 = .ok (.iastore, 1) := by decide +kernel
theorem J_MScriptRows_lay_d17 : decode J_MScriptRows_lay.2.1 17 = .ok (.aload_n 0, 1) := by decide +kernel
theorem J_MScriptRows_lay_d18 : decode J_MScriptRows_lay.2.1 18 = .ok (.getfield 41, 3) := by decide +kernel
theorem J_MScriptRows_lay_d21 : decode J_MScriptRows_lay.2.1 21 = .ok (.bipush 6, 2) := by decide +kernel
theorem J_MScriptRows_lay_d23 : decode J_MScriptRows_lay.2.1 23 = .ok (.aload_n 0, 1) := by decide +kernel
theorem J_MScriptRows_lay_d24 : decode J_MScriptRows_lay.2.1 24 = .ok (.getfield 41, 3) := by decide +kernel
theorem J_MScriptRows_lay_d27 : decode J_MScriptRows_lay.2.1 27 = .ok (.bipush 6, 2) := by decide +kernel
theorem J_MScriptRows_lay_d29 : decode J_MScriptRows_lay.2.1 29 = .ok (.iaload, 1) := by decide +kernel
theorem J_MScriptRows_lay_d30 : decode J_MScriptRows_lay.2.1 30 = .ok (.aload_n 0, 1) := by decide +kernel
theorem J_MScriptRows_lay_d31 : decode J_MScriptRows_lay.2.1 31 = .ok (.getfield 110, 3) := by decide +kernel
theorem J_MScriptRows_lay_d34 : decode J_MScriptRows_lay.2.1 34 = .ok (.iadd, 1) := by decide +kernel
theorem J_MScriptRows_lay_d35 : decode J_MScriptRows_lay.2.1 35 = .ok (.iastore, 1) := by decide +kernel
theorem J_MScriptRows_lay_d36 : decode J_MScriptRows_lay.2.1 36 = .ok (.iconst 0, 1) := by decide +kernel
theorem J_MScriptRows_lay_d37 : decode J_MScriptRows_lay.2.1 37 = .ok (.istore_n 1, 1) := by decide +kernel
theorem J_MScriptRows_lay_d38 : decode J_MScriptRows_lay.2.1 38 = .ok (.iload_n 1, 1) := by decide +kernel
theorem J_MScriptRows_lay_d39 : decode J_MScriptRows_lay.2.1 39 = .ok (.iconst 4, 1) := by decide +kernel
theorem J_MScriptRows_lay_d40 : decode J_MScriptRows_lay.2.1 40 = .ok (.if_icmp .ge 24, 3) := by decide +kernel
theorem J_MScriptRows_lay_d43 : decode J_MScriptRows_lay.2.1 43 = .ok (.aload_n 0, 1) := by decide +kernel
theorem J_MScriptRows_lay_d44 : decode J_MScriptRows_lay.2.1 44 = .ok (.getfield 41, 3) := by decide +kernel
theorem J_MScriptRows_lay_d47 : decode J_MScriptRows_lay.2.1 47 = .ok (.bipush 11, 2) := by decide +kernel
theorem J_MScriptRows_lay_d49 : decode J_MScriptRows_lay.2.1 49 = .ok (.iload_n 1, 1) := by decide +kernel
theorem J_MScriptRows_lay_d50 : decode J_MScriptRows_lay.2.1 50 = .ok (.iadd, 1) := by decide +kernel
theorem J_MScriptRows_lay_d51 : decode J_MScriptRows_lay.2.1 51 = .ok (.aload_n 0, 1) := by decide +kernel
theorem J_MScriptRows_lay_d52 : decode J_MScriptRows_lay.2.1 52 = .ok (.getfield 38, 3) := by decide +kernel
theorem J_MScriptRows_lay_d55 : decode J_MScriptRows_lay.2.1 55 = .ok (.iload_n 1, 1) := by decide +kernel
theorem J_MScriptRows_lay_d56 : decode J_MScriptRows_lay.2.1 56 = .ok (.iaload, 1) := by decide +kernel
theorem J_MScriptRows_lay_d57 : decode J_MScriptRows_lay.2.1 57 = .ok (.iastore, 1) := by decide +kernel
theorem J_MScriptRows_lay_d58 : decode J_MScriptRows_lay.2.1 58 = .ok (.iinc 1 1, 3) := by decide +kernel
theorem J_MScriptRows_lay_d61 : decode J_MScriptRows_lay.2.1 61 = .ok (.goto (-23), 3) := by decide +kernel
theorem J_MScriptRows_lay_d64 : decode J_MScriptRows_lay.2.1 64 = .ok (.iconst 0, 1) := by decide +kernel
theorem J_MScriptRows_lay_d65 : decode J_MScriptRows_lay.2.1 65 = .ok (.istore_n 1, 1) := by decide +kernel
theorem J_MScriptRows_lay_d66 : decode J_MScriptRows_lay.2.1 66 = .ok (.iload_n 1, 1) := by decide +kernel
theorem J_MScriptRows_lay_d67 : decode J_MScriptRows_lay.2.1 67 = .ok (.bipush 16, 2) := by decide +kernel
theorem J_MScriptRows_lay_d69 : decode J_MScriptRows_lay.2.1 69 = .ok (.if_icmp .ge 29, 3) := by decide +kernel
theorem J_MScriptRows_lay_d72 : decode J_MScriptRows_lay.2.1 72 = .ok (.aload_n 0, 1) := by decide +kernel
theorem J_MScriptRows_lay_d73 : decode J_MScriptRows_lay.2.1 73 = .ok (.getfield 44, 3) := by decide +kernel
theorem J_MScriptRows_lay_d76 : decode J_MScriptRows_lay.2.1 76 = .ok (.bipush 16, 2) := by decide +kernel
theorem J_MScriptRows_lay_d78 : decode J_MScriptRows_lay.2.1 78 = .ok (.aload_n 0, 1) := by decide +kernel
theorem J_MScriptRows_lay_d79 : decode J_MScriptRows_lay.2.1 79 = .ok (.getfield 113, 3) := by decide +kernel
theorem J_MScriptRows_lay_d82 : decode J_MScriptRows_lay.2.1 82 = .ok (.imul, 1) := by decide +kernel
theorem J_MScriptRows_lay_d83 : decode J_MScriptRows_lay.2.1 83 = .ok (.iload_n 1, 1) := by decide +kernel
theorem J_MScriptRows_lay_d84 : decode J_MScriptRows_lay.2.1 84 = .ok (.iadd, 1) := by decide +kernel
theorem J_MScriptRows_lay_d85 : decode J_MScriptRows_lay.2.1 85 = .ok (.aload_n 0, 1) := by decide +kernel
theorem J_MScriptRows_lay_d86 : decode J_MScriptRows_lay.2.1 86 = .ok (.getfield 41, 3) := by decide +kernel
theorem J_MScriptRows_lay_d89 : decode J_MScriptRows_lay.2.1 89 = .ok (.iload_n 1, 1) := by decide +kernel
theorem J_MScriptRows_lay_d90 : decode J_MScriptRows_lay.2.1 90 = .ok (.iaload, 1) := by decide +kernel
theorem J_MScriptRows_lay_d91 : decode J_MScriptRows_lay.2.1 91 = .ok (.iastore, 1) := by decide +kernel
theorem J_MScriptRows_lay_d92 : decode J_MScriptRows_lay.2.1 92 = .ok (.iinc 1 1, 3) := by decide +kernel
theorem J_MScriptRows_lay_d95 : decode J_MScriptRows_lay.2.1 95 = .ok (.goto (-29), 3) := by decide +kernel
theorem J_MScriptRows_lay_d98 : decode J_MScriptRows_lay.2.1 98 = .ok (.iconst 0, 1) := by decide +kernel
theorem J_MScriptRows_lay_d99 : decode J_MScriptRows_lay.2.1 99 = .ok (.istore_n 1, 1) := by decide +kernel
theorem J_MScriptRows_lay_d100 : decode J_MScriptRows_lay.2.1 100 = .ok (.iload_n 1, 1) := by decide +kernel
theorem J_MScriptRows_lay_d101 : decode J_MScriptRows_lay.2.1 101 = .ok (.sipush 200, 3) := by decide +kernel
theorem J_MScriptRows_lay_d104 : decode J_MScriptRows_lay.2.1 104 = .ok (.if_icmp .ge 30, 3) := by decide +kernel
theorem J_MScriptRows_lay_d107 : decode J_MScriptRows_lay.2.1 107 = .ok (.aload_n 0, 1) := by decide +kernel
theorem J_MScriptRows_lay_d108 : decode J_MScriptRows_lay.2.1 108 = .ok (.getfield 50, 3) := by decide +kernel
theorem J_MScriptRows_lay_d111 : decode J_MScriptRows_lay.2.1 111 = .ok (.sipush 200, 3) := by decide +kernel
theorem J_MScriptRows_lay_d114 : decode J_MScriptRows_lay.2.1 114 = .ok (.aload_n 0, 1) := by decide +kernel
theorem J_MScriptRows_lay_d115 : decode J_MScriptRows_lay.2.1 115 = .ok (.getfield 113, 3) := by decide +kernel
theorem J_MScriptRows_lay_d118 : decode J_MScriptRows_lay.2.1 118 = .ok (.imul, 1) := by decide +kernel
theorem J_MScriptRows_lay_d119 : decode J_MScriptRows_lay.2.1 119 = .ok (.iload_n 1, 1) := by decide +kernel
theorem J_MScriptRows_lay_d120 : decode J_MScriptRows_lay.2.1 120 = .ok (.iadd, 1) := by decide +kernel
theorem J_MScriptRows_lay_d121 : decode J_MScriptRows_lay.2.1 121 = .ok (.aload_n 0, 1) := by decide +kernel
theorem J_MScriptRows_lay_d122 : decode J_MScriptRows_lay.2.1 122 = .ok (.getfield 47, 3) := by decide +kernel
theorem J_MScriptRows_lay_d125 : decode J_MScriptRows_lay.2.1 125 = .ok (.iload_n 1, 1) := by decide +kernel
theorem J_MScriptRows_lay_d126 : decode J_MScriptRows_lay.2.1 126 = .ok (.iaload, 1) := by decide +kernel
theorem J_MScriptRows_lay_d127 : decode J_MScriptRows_lay.2.1 127 = .ok (.iastore, 1) := by decide +kernel
theorem J_MScriptRows_lay_d128 : decode J_MScriptRows_lay.2.1 128 = .ok (.iinc 1 1, 3) := by decide +kernel
theorem J_MScriptRows_lay_d131 : decode J_MScriptRows_lay.2.1 131 = .ok (.goto (-31), 3) := by decide +kernel
theorem J_MScriptRows_lay_d134 : decode J_MScriptRows_lay.2.1 134 = .ok (.return_, 1) := by decide +kernel
theorem f_MScriptRows_lay_ok {L : Nat} {xs : Nat → Int32} {dep : Nat} {w : Bool} {M : im_M} {Q : im_M → Prop} (hM : lw_S w M) (h : ed (f_MScriptRows_lay M) Q) : ia (tb_G L xs) dep J_MScriptRows_lay (rwV w Q) (0, lv_args 0 [.ref 71], [], M) := by
  have hS : im_St (tb_G L xs) dep J_MScriptRows_lay (ia (tb_G L xs) dep J_MScriptRows_lay (rwV w Q)) := ia_St
  unfold f_MScriptRows_lay at h
  have l0 : im_lk (lv_args 0 [.ref 71]) 0 = some (.ref 71) := rfl
  refine iq_aload_n hS 1 J_MScriptRows_lay_d0 l0 rfl ?_
  refine iq_getR hS 4 J_MScriptRows_lay_d1 lf_15_41 (Or.inr ⟨_, rfl⟩) (ka_71 hM) (ra_71_27 hM) rfl ?_
  refine iq_iconst hS 5 J_MScriptRows_lay_d4 (v := 5) (by decide +kernel) rfl ?_
  refine iq_aload_n hS 6 J_MScriptRows_lay_d5 l0 rfl ?_
  refine iq_getR hS 9 J_MScriptRows_lay_d6 lf_15_41 (Or.inr ⟨_, rfl⟩) (ka_71 hM) (ra_71_27 hM) rfl ?_
  refine iq_iconst hS 10 J_MScriptRows_lay_d9 (v := 5) (by decide +kernel) rfl ?_
  obtain ⟨g10, h⟩ := ed_gd h
  refine iq_iaload hS 11 J_MScriptRows_lay_d10 ⟨(ka_81 hM).1, (ka_81 hM).2, g10.1, ix_lt (kl_81 hM) g10.2⟩ rfl ?_
  refine iq_aload_n hS 12 J_MScriptRows_lay_d11 l0 rfl ?_
  refine iq_getI hS 15 J_MScriptRows_lay_d12 lf_15_107 (Or.inl rfl) (ka_71 hM) rfl ?_
  refine iq_iadd hS 16 J_MScriptRows_lay_d15 rfl ?_
  obtain ⟨g16, h⟩ := ed_gd h
  refine iq_iastore hS 17 J_MScriptRows_lay_d16 ⟨(ka_81 hM).1, (ka_81 hM).2, g16.1, ix_lt (kl_81 hM) g16.2⟩ rfl ?_
  refine iq_aload_n hS 18 J_MScriptRows_lay_d17 l0 rfl ?_
  refine iq_getR hS 21 J_MScriptRows_lay_d18 lf_15_41 (Or.inr ⟨_, rfl⟩) (ka_71 (lw_sI hM)) (ra_71_27 (lw_sI hM)) rfl ?_
  refine iq_bipush hS 23 J_MScriptRows_lay_d21 (v := 6) (by decide +kernel) rfl ?_
  refine iq_aload_n hS 24 J_MScriptRows_lay_d23 l0 rfl ?_
  refine iq_getR hS 27 J_MScriptRows_lay_d24 lf_15_41 (Or.inr ⟨_, rfl⟩) (ka_71 (lw_sI hM)) (ra_71_27 (lw_sI hM)) rfl ?_
  refine iq_bipush hS 29 J_MScriptRows_lay_d27 (v := 6) (by decide +kernel) rfl ?_
  obtain ⟨g29, h⟩ := ed_gd h
  refine iq_iaload hS 30 J_MScriptRows_lay_d29 ⟨(ka_81 (lw_sI hM)).1, (ka_81 (lw_sI hM)).2, g29.1, ix_lt (kl_81 (lw_sI hM)) g29.2⟩ rfl ?_
  refine iq_aload_n hS 31 J_MScriptRows_lay_d30 l0 rfl ?_
  refine iq_getI hS 34 J_MScriptRows_lay_d31 lf_15_110 (Or.inl rfl) (ka_71 (lw_sI hM)) rfl ?_
  refine iq_iadd hS 35 J_MScriptRows_lay_d34 rfl ?_
  obtain ⟨g35, h⟩ := ed_gd h
  refine iq_iastore hS 36 J_MScriptRows_lay_d35 ⟨(ka_81 (lw_sI hM)).1, (ka_81 (lw_sI hM)).2, g35.1, ix_lt (kl_81 (lw_sI hM)) g35.2⟩ rfl ?_
  refine iq_iconst hS 37 J_MScriptRows_lay_d36 (v := 0) (by decide +kernel) rfl ?_
  refine iq_istore_n hS 38 J_MScriptRows_lay_d37 (by decide) rfl ?_
  obtain ⟨Q1, hQ1, h⟩ := bd1_ed h
  have K1 : ∀ (M2 : im_M) (L' : List (Nat × Value)), lw_S w M2 → im_lk L' 0 = some (.ref 71) → Q1 M2 → ia (tb_G L xs) dep J_MScriptRows_lay (rwV w Q) (64, L', [], M2) := by
    intro M2 L' hM2 l3 h
    replace h := hQ1 _ h
    refine iq_iconst hS 65 J_MScriptRows_lay_d64 (v := 0) (by decide +kernel) rfl ?_
    refine iq_istore_n hS 66 J_MScriptRows_lay_d65 (by decide) rfl ?_
    obtain ⟨Q4, hQ4, h⟩ := bd1_ed h
    have K4 : ∀ (M5 : im_M) (L' : List (Nat × Value)), lw_S w M5 → im_lk L' 0 = some (.ref 71) → Q4 M5 → ia (tb_G L xs) dep J_MScriptRows_lay (rwV w Q) (98, L', [], M5) := by
      intro M5 L' hM5 l6 h
      replace h := hQ4 _ h
      refine iq_iconst hS 99 J_MScriptRows_lay_d98 (v := 0) (by decide +kernel) rfl ?_
      refine iq_istore_n hS 100 J_MScriptRows_lay_d99 (by decide) rfl ?_
      obtain ⟨Q7, hQ7, h⟩ := bd1_ed h
      have K7 : ∀ (M8 : im_M) (L' : List (Nat × Value)), lw_S w M8 → Q7 M8 → ia (tb_G L xs) dep J_MScriptRows_lay (rwV w Q) (134, L', [], M8) := by
        intro M8 L' hM8  h
        replace h := hQ7 _ h
        exact iq_ret J_MScriptRows_lay_d134 rfl ⟨rfl, hM8, ed_some h⟩
      obtain ⟨r7, hr7, hq7⟩ := h
      obtain ⟨n7, hn7⟩ := lp_n hr7
      have I7 : ∀ (n : Nat) (x9 : Int32) (M10 : im_M) (L' : List (Nat × Value)), lw_S w M10 → im_lk L' 0 = some (.ref 71) → im_lk L' 1 = some (.int x9) → lpn (uc2 (f_MScriptRows_lay_L100)) n (x9, M10) = some r7 → ia (tb_G L xs) dep J_MScriptRows_lay (rwV w Q) (100, L', [], M10) := by
        intro n
        induction n with
        | zero => intro x9 M10 L' hM10 l11 l12 hn; exact (lpn_0 hn).elim
        | succ n ih =>
          intro x9 M10 L' hM10 l11 l12 hn
          have h := lpn_ed2 hn
          unfold f_MScriptRows_lay_L100 at h
          refine iq_iload_n hS 101 J_MScriptRows_lay_d100 l12 rfl ?_
          refine iq_sipush hS 104 J_MScriptRows_lay_d101 (v := 200) (by decide +kernel) rfl ?_
          refine iq_icmp_ge hS 107 J_MScriptRows_lay_d104 (t := 134) rfl (fun q104 => ?_) rfl (fun q104 => ?_)
          · replace h := ed_pos q104 h
            exact K7 _ _ hM10  (lq_r h hq7)
          · replace h := ed_neg q104 h
            refine iq_aload_n hS 108 J_MScriptRows_lay_d107 l11 rfl ?_
            refine iq_getR hS 111 J_MScriptRows_lay_d108 lf_15_50 (Or.inr ⟨_, rfl⟩) (ka_71 hM10) (ra_71_30 hM10) rfl ?_
            refine iq_sipush hS 114 J_MScriptRows_lay_d111 (v := 200) (by decide +kernel) rfl ?_
            refine iq_aload_n hS 115 J_MScriptRows_lay_d114 l11 rfl ?_
            refine iq_getI hS 118 J_MScriptRows_lay_d115 lf_15_113 (Or.inl rfl) (ka_71 hM10) rfl ?_
            refine iq_imul hS 119 J_MScriptRows_lay_d118 rfl ?_
            refine iq_iload_n hS 120 J_MScriptRows_lay_d119 l12 rfl ?_
            refine iq_iadd hS 121 J_MScriptRows_lay_d120 rfl ?_
            refine iq_aload_n hS 122 J_MScriptRows_lay_d121 l11 rfl ?_
            refine iq_getR hS 125 J_MScriptRows_lay_d122 lf_15_47 (Or.inr ⟨_, rfl⟩) (ka_71 hM10) (ra_71_29 hM10) rfl ?_
            refine iq_iload_n hS 126 J_MScriptRows_lay_d125 l12 rfl ?_
            obtain ⟨g126, h⟩ := ed_gd h
            refine iq_iaload hS 127 J_MScriptRows_lay_d126 ⟨(ka_83 hM10).1, (ka_83 hM10).2, g126.1, ix_lt (kl_83 hM10) g126.2⟩ rfl ?_
            obtain ⟨g127, h⟩ := ed_gd h
            refine iq_iastore hS 128 J_MScriptRows_lay_d127 ⟨(ka_84 hM10).1, (ka_84 hM10).2, g127.1, ix_lt (kl_84 hM10) g127.2⟩ rfl ?_
            refine iq_iincv hS 131 J_MScriptRows_lay_d128 (c := 1) (by decide +kernel) l12 (by decide) rfl ?_
            refine iq_goto hS J_MScriptRows_lay_d131 (t := 100) rfl ?_
            exact ih _ _ _ (lw_sI hM10) (lk_1r l11 (by decide)) lk_1s (lq_l h)
      exact I7 n7 _ _ _ hM5 (lk_1r l6 (by decide)) lk_1s hn7
    obtain ⟨r4, hr4, hq4⟩ := h
    obtain ⟨n4, hn4⟩ := lp_n hr4
    have I4 : ∀ (n : Nat) (x13 : Int32) (M14 : im_M) (L' : List (Nat × Value)), lw_S w M14 → im_lk L' 0 = some (.ref 71) → im_lk L' 1 = some (.int x13) → lpn (uc2 (f_MScriptRows_lay_L66)) n (x13, M14) = some r4 → ia (tb_G L xs) dep J_MScriptRows_lay (rwV w Q) (66, L', [], M14) := by
      intro n
      induction n with
      | zero => intro x13 M14 L' hM14 l15 l16 hn; exact (lpn_0 hn).elim
      | succ n ih =>
        intro x13 M14 L' hM14 l15 l16 hn
        have h := lpn_ed2 hn
        unfold f_MScriptRows_lay_L66 at h
        refine iq_iload_n hS 67 J_MScriptRows_lay_d66 l16 rfl ?_
        refine iq_bipush hS 69 J_MScriptRows_lay_d67 (v := 16) (by decide +kernel) rfl ?_
        refine iq_icmp_ge hS 72 J_MScriptRows_lay_d69 (t := 98) rfl (fun q69 => ?_) rfl (fun q69 => ?_)
        · replace h := ed_pos q69 h
          exact K4 _ _ hM14 l15 (lq_r h hq4)
        · replace h := ed_neg q69 h
          refine iq_aload_n hS 73 J_MScriptRows_lay_d72 l15 rfl ?_
          refine iq_getR hS 76 J_MScriptRows_lay_d73 lf_15_44 (Or.inr ⟨_, rfl⟩) (ka_71 hM14) (ra_71_28 hM14) rfl ?_
          refine iq_bipush hS 78 J_MScriptRows_lay_d76 (v := 16) (by decide +kernel) rfl ?_
          refine iq_aload_n hS 79 J_MScriptRows_lay_d78 l15 rfl ?_
          refine iq_getI hS 82 J_MScriptRows_lay_d79 lf_15_113 (Or.inl rfl) (ka_71 hM14) rfl ?_
          refine iq_imul hS 83 J_MScriptRows_lay_d82 rfl ?_
          refine iq_iload_n hS 84 J_MScriptRows_lay_d83 l16 rfl ?_
          refine iq_iadd hS 85 J_MScriptRows_lay_d84 rfl ?_
          refine iq_aload_n hS 86 J_MScriptRows_lay_d85 l15 rfl ?_
          refine iq_getR hS 89 J_MScriptRows_lay_d86 lf_15_41 (Or.inr ⟨_, rfl⟩) (ka_71 hM14) (ra_71_27 hM14) rfl ?_
          refine iq_iload_n hS 90 J_MScriptRows_lay_d89 l16 rfl ?_
          obtain ⟨g90, h⟩ := ed_gd h
          refine iq_iaload hS 91 J_MScriptRows_lay_d90 ⟨(ka_81 hM14).1, (ka_81 hM14).2, g90.1, ix_lt (kl_81 hM14) g90.2⟩ rfl ?_
          obtain ⟨g91, h⟩ := ed_gd h
          refine iq_iastore hS 92 J_MScriptRows_lay_d91 ⟨(ka_82 hM14).1, (ka_82 hM14).2, g91.1, ix_lt (kl_82 hM14) g91.2⟩ rfl ?_
          refine iq_iincv hS 95 J_MScriptRows_lay_d92 (c := 1) (by decide +kernel) l16 (by decide) rfl ?_
          refine iq_goto hS J_MScriptRows_lay_d95 (t := 66) rfl ?_
          exact ih _ _ _ (lw_sI hM14) (lk_1r l15 (by decide)) lk_1s (lq_l h)
    exact I4 n4 _ _ _ hM2 (lk_1r l3 (by decide)) lk_1s hn4
  obtain ⟨r1, hr1, hq1⟩ := h
  obtain ⟨n1, hn1⟩ := lp_n hr1
  have I1 : ∀ (n : Nat) (x17 : Int32) (M18 : im_M) (L' : List (Nat × Value)), lw_S w M18 → im_lk L' 0 = some (.ref 71) → im_lk L' 1 = some (.int x17) → lpn (uc2 (f_MScriptRows_lay_L38)) n (x17, M18) = some r1 → ia (tb_G L xs) dep J_MScriptRows_lay (rwV w Q) (38, L', [], M18) := by
    intro n
    induction n with
    | zero => intro x17 M18 L' hM18 l19 l20 hn; exact (lpn_0 hn).elim
    | succ n ih =>
      intro x17 M18 L' hM18 l19 l20 hn
      have h := lpn_ed2 hn
      unfold f_MScriptRows_lay_L38 at h
      refine iq_iload_n hS 39 J_MScriptRows_lay_d38 l20 rfl ?_
      refine iq_iconst hS 40 J_MScriptRows_lay_d39 (v := 4) (by decide +kernel) rfl ?_
      refine iq_icmp_ge hS 43 J_MScriptRows_lay_d40 (t := 64) rfl (fun q40 => ?_) rfl (fun q40 => ?_)
      · replace h := ed_pos q40 h
        exact K1 _ _ hM18 l19 (lq_r h hq1)
      · replace h := ed_neg q40 h
        refine iq_aload_n hS 44 J_MScriptRows_lay_d43 l19 rfl ?_
        refine iq_getR hS 47 J_MScriptRows_lay_d44 lf_15_41 (Or.inr ⟨_, rfl⟩) (ka_71 hM18) (ra_71_27 hM18) rfl ?_
        refine iq_bipush hS 49 J_MScriptRows_lay_d47 (v := 11) (by decide +kernel) rfl ?_
        refine iq_iload_n hS 50 J_MScriptRows_lay_d49 l20 rfl ?_
        refine iq_iadd hS 51 J_MScriptRows_lay_d50 rfl ?_
        refine iq_aload_n hS 52 J_MScriptRows_lay_d51 l19 rfl ?_
        refine iq_getR hS 55 J_MScriptRows_lay_d52 lf_15_38 (Or.inr ⟨_, rfl⟩) (ka_71 hM18) (ra_71_24 hM18) rfl ?_
        refine iq_iload_n hS 56 J_MScriptRows_lay_d55 l20 rfl ?_
        obtain ⟨g56, h⟩ := ed_gd h
        refine iq_iaload hS 57 J_MScriptRows_lay_d56 ⟨(ka_80 hM18).1, (ka_80 hM18).2, g56.1, ix_lt (kl_80 hM18) g56.2⟩ rfl ?_
        obtain ⟨g57, h⟩ := ed_gd h
        refine iq_iastore hS 58 J_MScriptRows_lay_d57 ⟨(ka_81 hM18).1, (ka_81 hM18).2, g57.1, ix_lt (kl_81 hM18) g57.2⟩ rfl ?_
        refine iq_iincv hS 61 J_MScriptRows_lay_d58 (c := 1) (by decide +kernel) l20 (by decide) rfl ?_
        refine iq_goto hS J_MScriptRows_lay_d61 (t := 38) rfl ?_
        exact ih _ _ _ (lw_sI hM18) (lk_1r l19 (by decide)) lk_1s (lq_l h)
  exact I1 n1 _ _ _ (lw_sI (lw_sI hM)) (lk_1r l0 (by decide)) lk_1s hn1
theorem f_MScriptRows_lay_fr {M : im_M} {r : im_M} (h : f_MScriptRows_lay M = some r) : fr 26596368031521841843535872 [] M r := by
  replace h : ed (f_MScriptRows_lay M) (fun x => x = r) := ⟨r, h, rfl⟩
  unfold f_MScriptRows_lay at h
  obtain ⟨g10, h⟩ := ed_gd h
  obtain ⟨g16, h⟩ := ed_gd h
  obtain ⟨g29, h⟩ := ed_gd h
  obtain ⟨g35, h⟩ := ed_gd h
  obtain ⟨Q1, hQ1, h⟩ := bd1_ed h
  have K1 : ∀ (M2 : im_M), fr 26596368031521841843535872 [] M M2 → Q1 M2 → fr 26596368031521841843535872 [] M r := by
    intro M2 hM2 h
    replace h := hQ1 _ h
    obtain ⟨Q3, hQ3, h⟩ := bd1_ed h
    have K3 : ∀ (M4 : im_M), fr 26596368031521841843535872 [] M M4 → Q3 M4 → fr 26596368031521841843535872 [] M r := by
      intro M4 hM4 h
      replace h := hQ3 _ h
      obtain ⟨Q5, hQ5, h⟩ := bd1_ed h
      have K5 : ∀ (M6 : im_M), fr 26596368031521841843535872 [] M M6 → Q5 M6 → fr 26596368031521841843535872 [] M r := by
        intro M6 hM6 h
        replace h := hQ5 _ h
        exact fr_retV h hM6
      obtain ⟨r5, hr5, hq5⟩ := h
      obtain ⟨n5, hn5⟩ := lp_n hr5
      have I5 : ∀ (n : Nat) (x7 : Int32) (M8 : im_M), fr 26596368031521841843535872 [] M M8 → lpn (uc2 (f_MScriptRows_lay_L100)) n (x7, M8) = some r5 → fr 26596368031521841843535872 [] M r := by
        intro n
        induction n with
        | zero => intro x7 M8 hM8 hn; exact (lpn_0 hn).elim
        | succ n ih =>
          intro x7 M8 hM8 hn
          have h := lpn_ed2 hn
          unfold f_MScriptRows_lay_L100 at h
          by_cases q104 : 200 ≤ x7
          · replace h := ed_pos q104 h
            exact K5 _ hM8 (lq_r h hq5)
          · replace h := ed_neg q104 h
            obtain ⟨g126, h⟩ := ed_gd h
            obtain ⟨g127, h⟩ := ed_gd h
            exact ih _ _ (fr_I (by decide) hM8) (lq_l h)
      exact I5 n5 _ _ hM4 hn5
    obtain ⟨r3, hr3, hq3⟩ := h
    obtain ⟨n3, hn3⟩ := lp_n hr3
    have I3 : ∀ (n : Nat) (x9 : Int32) (M10 : im_M), fr 26596368031521841843535872 [] M M10 → lpn (uc2 (f_MScriptRows_lay_L66)) n (x9, M10) = some r3 → fr 26596368031521841843535872 [] M r := by
      intro n
      induction n with
      | zero => intro x9 M10 hM10 hn; exact (lpn_0 hn).elim
      | succ n ih =>
        intro x9 M10 hM10 hn
        have h := lpn_ed2 hn
        unfold f_MScriptRows_lay_L66 at h
        by_cases q69 : 16 ≤ x9
        · replace h := ed_pos q69 h
          exact K3 _ hM10 (lq_r h hq3)
        · replace h := ed_neg q69 h
          obtain ⟨g90, h⟩ := ed_gd h
          obtain ⟨g91, h⟩ := ed_gd h
          exact ih _ _ (fr_I (by decide) hM10) (lq_l h)
    exact I3 n3 _ _ hM2 hn3
  obtain ⟨r1, hr1, hq1⟩ := h
  obtain ⟨n1, hn1⟩ := lp_n hr1
  have I1 : ∀ (n : Nat) (x11 : Int32) (M12 : im_M), fr 26596368031521841843535872 [] M M12 → lpn (uc2 (f_MScriptRows_lay_L38)) n (x11, M12) = some r1 → fr 26596368031521841843535872 [] M r := by
    intro n
    induction n with
    | zero => intro x11 M12 hM12 hn; exact (lpn_0 hn).elim
    | succ n ih =>
      intro x11 M12 hM12 hn
      have h := lpn_ed2 hn
      unfold f_MScriptRows_lay_L38 at h
      by_cases q40 : 4 ≤ x11
      · replace h := ed_pos q40 h
        exact K1 _ hM12 (lq_r h hq1)
      · replace h := ed_neg q40 h
        obtain ⟨g56, h⟩ := ed_gd h
        obtain ⟨g57, h⟩ := ed_gd h
        exact ih _ _ (fr_I (by decide) hM12) (lq_l h)
  exact I1 n1 _ _ (fr_I (by decide) (fr_I (by decide) fr_refl)) hn1
noncomputable def f_MScriptRows_takeCopy_L16 (v2 : Int32) (v3 : Int32) (v4 : Int32) (x5 : Int32) (M6 : im_M) : Option ((Int32 × im_M) ⊕ (im_M)) := if v4 ≤ x5 then some (.inr M6) else gd (inb (((200 : Int32) * v2) + x5) 24200) <| gd (inb x5 200) <| some (.inl ((x5 + 1), (im_setI M6 85 (Int32.toNatClampNeg x5) (im_i M6 84 (Int32.toNatClampNeg (((200 : Int32) * v2) + x5))))))
noncomputable def f_MScriptRows_takeCopy_L73 (v9 : Int32) (v10 : Int32) (v11 : Int32) (M15 : im_M) (x12 : Int32) (x13 : Int64) (x14 : Int64) : Option ((Int32 × Int64 × Int64) ⊕ (Int32 × Int64 × Int64)) := if 9 ≤ x12 then some (.inr (x12, x13, x14)) else if v11 ≤ x12 then some (.inr (x12, x13, x14)) else gd (inb ((v11 - 1) - x12) 200) <| bd1 (f_MScriptRows_isDigit (im_i M15 85 (Int32.toNatClampNeg ((v11 - 1) - x12))) M15) fun (x16 : Int32) => if x16 = 0 then some (.inr (x12, x13, x14)) else gd (inb ((v11 - 1) - x12) 200) <| some (.inl ((x12 + 1), (x13 + (x14 * (Int32.toInt64 ((im_i M15 85 (Int32.toNatClampNeg ((v11 - 1) - x12))) - 48)))), ((10 : Int64) * x14)))
noncomputable def f_MScriptRows_takeCopy_L160 (v21 : Int32) (v22 : Int32) (v23 : Int64) (M25 : im_M) (x24 : Int64) : Option ((Int64) ⊕ (Int64)) := if 0 ≤ (lg_cmp x24 0) then some (.inr x24) else some (.inl (x24 + v23))
noncomputable def f_MScriptRows_takeCopy_L180 (v28 : Int32) (v29 : Int32) (x30 : Int64) (x31 : Int32) (M32 : im_M) : Option ((Int64 × Int32 × im_M) ⊕ (im_M)) := if v29 ≤ x31 then some (.inr M32) else gd (inb ((v28 - 1) - x31) 200) <| some (.inl ((x30 / 10), (x31 + 1), (im_setI M32 85 (Int32.toNatClampNeg ((v28 - 1) - x31)) ((48 : Int32) + (Int64.toInt32 (x30 - x30 / 10 * 10))))))
noncomputable def f_MScriptRows_takeCopy (p0 : Int32) (p1 : Int32) (M : im_M) : Option (im_M) := gd (inb (((16 : Int32) * p0) + 10) 2000) <| bd1 (lp (uc2 (f_MScriptRows_takeCopy_L16 p0 p1 (im_i M 82 (Int32.toNatClampNeg (((16 : Int32) * p0) + 10))))) (0, M)) fun (M7 : im_M) => gd (inb (((16 : Int32) * p0) + 8) 2000) <| if ¬ (im_i M7 82 (Int32.toNatClampNeg (((16 : Int32) * p0) + 8))) = 0 then bd3 (lp (uc3 (f_MScriptRows_takeCopy_L73 p0 p1 (im_i M 82 (Int32.toNatClampNeg (((16 : Int32) * p0) + 10))) M7)) (0, 0, 1)) fun (y17 : Int32) (y18 : Int64) (y19 : Int64) => gd (inb (((16 : Int32) * p0) + 9) 2000) <| bd1 (lp (uc1 (f_MScriptRows_takeCopy_L160 (im_i M 82 (Int32.toNatClampNeg (((16 : Int32) * p0) + 10))) y17 y19 M7)) (y18 + (Int32.toInt64 ((im_i M7 82 (Int32.toNatClampNeg (((16 : Int32) * p0) + 9))) * p1)))) fun (y26 : Int64) => bd1 (lp (uc3 (f_MScriptRows_takeCopy_L180 (im_i M 82 (Int32.toNatClampNeg (((16 : Int32) * p0) + 10))) y17)) (y26, 0, M7)) fun (M33 : im_M) => some M33 else some M7
theorem J_MScriptRows_takeCopy_d0 : decode J_MScriptRows_takeCopy.2.1 0 = .ok (.aload_n 0, 1) := by decide +kernel
theorem J_MScriptRows_takeCopy_d1 : decode J_MScriptRows_takeCopy.2.1 1 = .ok (.getfield 44, 3) := by decide +kernel
theorem J_MScriptRows_takeCopy_d4 : decode J_MScriptRows_takeCopy.2.1 4 = .ok (.bipush 16, 2) := by decide +kernel
theorem J_MScriptRows_takeCopy_d6 : decode J_MScriptRows_takeCopy.2.1 6 = .ok (.iload_n 1, 1) := by decide +kernel
theorem J_MScriptRows_takeCopy_d7 : decode J_MScriptRows_takeCopy.2.1 7 = .ok (.imul, 1) := by decide +kernel
theorem J_MScriptRows_takeCopy_d8 : decode J_MScriptRows_takeCopy.2.1 8 = .ok (.bipush 10, 2) := by decide +kernel
theorem J_MScriptRows_takeCopy_d10 : decode J_MScriptRows_takeCopy.2.1 10 = .ok (.iadd, 1) := by decide +kernel
theorem J_MScriptRows_takeCopy_d11 : decode J_MScriptRows_takeCopy.2.1 11 = .ok (.iaload, 1) := by decide +kernel
theorem J_MScriptRows_takeCopy_d12 : decode J_MScriptRows_takeCopy.2.1 12 = .ok (.istore_n 3, 1) := by decide +kernel
theorem J_MScriptRows_takeCopy_d13 : decode J_MScriptRows_takeCopy.2.1 13 = .ok (.iconst 0, 1) := by decide +kernel
theorem J_MScriptRows_takeCopy_d14 : decode J_MScriptRows_takeCopy.2.1 14 = .ok (.istore 4, 2) := by decide +kernel
theorem J_MScriptRows_takeCopy_d16 : decode J_MScriptRows_takeCopy.2.1 16 = .ok (.iload 4, 2) := by decide +kernel
theorem J_MScriptRows_takeCopy_d18 : decode J_MScriptRows_takeCopy.2.1 18 = .ok (.iload_n 3, 1) := by decide +kernel
theorem J_MScriptRows_takeCopy_d19 : decode J_MScriptRows_takeCopy.2.1 19 = .ok (.if_icmp .ge 29, 3) := by decide +kernel
theorem J_MScriptRows_takeCopy_d22 : decode J_MScriptRows_takeCopy.2.1 22 = .ok (.aload_n 0, 1) := by decide +kernel
theorem J_MScriptRows_takeCopy_d23 : decode J_MScriptRows_takeCopy.2.1 23 = .ok (.getfield 53, 3) := by decide +kernel
theorem J_MScriptRows_takeCopy_d26 : decode J_MScriptRows_takeCopy.2.1 26 = .ok (.iload 4, 2) := by decide +kernel
theorem J_MScriptRows_takeCopy_d28 : decode J_MScriptRows_takeCopy.2.1 28 = .ok (.aload_n 0, 1) := by decide +kernel
theorem J_MScriptRows_takeCopy_d29 : decode J_MScriptRows_takeCopy.2.1 29 = .ok (.getfield 50, 3) := by decide +kernel
theorem J_MScriptRows_takeCopy_d32 : decode J_MScriptRows_takeCopy.2.1 32 = .ok (.sipush 200, 3) := by decide +kernel
theorem J_MScriptRows_takeCopy_d35 : decode J_MScriptRows_takeCopy.2.1 35 = .ok (.iload_n 1, 1) := by decide +kernel
theorem J_MScriptRows_takeCopy_d36 : decode J_MScriptRows_takeCopy.2.1 36 = .ok (.imul, 1) := by decide +kernel
theorem J_MScriptRows_takeCopy_d37 : decode J_MScriptRows_takeCopy.2.1 37 = .ok (.iload 4, 2) := by decide +kernel
theorem J_MScriptRows_takeCopy_d39 : decode J_MScriptRows_takeCopy.2.1 39 = .ok (.iadd, 1) := by decide +kernel
theorem J_MScriptRows_takeCopy_d40 : decode J_MScriptRows_takeCopy.2.1 40 = .ok (.iaload, 1) := by decide +kernel
theorem J_MScriptRows_takeCopy_d41 : decode J_MScriptRows_takeCopy.2.1 41 = .ok (.iastore, 1) := by decide +kernel
theorem J_MScriptRows_takeCopy_d42 : decode J_MScriptRows_takeCopy.2.1 42 = .ok (.iinc 4 1, 3) := by decide +kernel
theorem J_MScriptRows_takeCopy_d45 : decode J_MScriptRows_takeCopy.2.1 45 = .ok (.goto (-29), 3) := by decide +kernel
theorem J_MScriptRows_takeCopy_d48 : decode J_MScriptRows_takeCopy.2.1 48 = .ok (.aload_n 0, 1) := by decide +kernel
theorem J_MScriptRows_takeCopy_d49 : decode J_MScriptRows_takeCopy.2.1 49 = .ok (.getfield 44, 3) := by decide +kernel
theorem J_MScriptRows_takeCopy_d52 : decode J_MScriptRows_takeCopy.2.1 52 = .ok (.bipush 16, 2) := by decide +kernel
theorem J_MScriptRows_takeCopy_d54 : decode J_MScriptRows_takeCopy.2.1 54 = .ok (.iload_n 1, 1) := by decide +kernel
theorem J_MScriptRows_takeCopy_d55 : decode J_MScriptRows_takeCopy.2.1 55 = .ok (.imul, 1) := by decide +kernel
theorem J_MScriptRows_takeCopy_d56 : decode J_MScriptRows_takeCopy.2.1 56 = .ok (.bipush 8, 2) := by decide +kernel
theorem J_MScriptRows_takeCopy_d58 : decode J_MScriptRows_takeCopy.2.1 58 = .ok (.iadd, 1) := by decide +kernel
theorem J_MScriptRows_takeCopy_d59 : decode J_MScriptRows_takeCopy.2.1 59 = .ok (.iaload, 1) := by decide +kernel
theorem J_MScriptRows_takeCopy_d60 : decode J_MScriptRows_takeCopy.2.1 60 = .ok (.ifCond .ne 4, 3) := by decide +kernel
theorem J_MScriptRows_takeCopy_d63 : decode J_MScriptRows_takeCopy.2.1 63 = .ok (.return_, 1) := by decide +kernel
theorem J_MScriptRows_takeCopy_d64 : decode J_MScriptRows_takeCopy.2.1 64 = .ok (.iconst 0, 1) := by decide +kernel
theorem J_MScriptRows_takeCopy_d65 : decode J_MScriptRows_takeCopy.2.1 65 = .ok (.istore 4, 2) := by decide +kernel
theorem J_MScriptRows_takeCopy_d67 : decode J_MScriptRows_takeCopy.2.1 67 = .ok (.lconst 0, 1) := by decide +kernel
theorem J_MScriptRows_takeCopy_d68 : decode J_MScriptRows_takeCopy.2.1 68 = .ok (.lstore 5, 2) := by decide +kernel
theorem J_MScriptRows_takeCopy_d70 : decode J_MScriptRows_takeCopy.2.1 70 = .ok (.lconst 1, 1) := by decide +kernel
theorem J_MScriptRows_takeCopy_d71 : decode J_MScriptRows_takeCopy.2.1 71 = .ok (.lstore 7, 2) := by decide +kernel
theorem J_MScriptRows_takeCopy_d73 : decode J_MScriptRows_takeCopy.2.1 73 = .ok (.iload 4, 2) := by decide +kernel
theorem J_MScriptRows_takeCopy_d75 : decode J_MScriptRows_takeCopy.2.1 75 = .ok (.bipush 9, 2) := by decide +kernel
theorem J_MScriptRows_takeCopy_d77 : decode J_MScriptRows_takeCopy.2.1 77 = .ok (.if_icmp .ge 63, 3) := by decide +kernel
theorem J_MScriptRows_takeCopy_d80 : decode J_MScriptRows_takeCopy.2.1 80 = .ok (.iload 4, 2) := by decide +kernel
theorem J_MScriptRows_takeCopy_d82 : decode J_MScriptRows_takeCopy.2.1 82 = .ok (.iload_n 3, 1) := by decide +kernel
theorem J_MScriptRows_takeCopy_d83 : decode J_MScriptRows_takeCopy.2.1 83 = .ok (.if_icmp .ge 57, 3) := by decide +kernel
theorem J_MScriptRows_takeCopy_d86 : decode J_MScriptRows_takeCopy.2.1 86 = .ok (.aload_n 0, 1) := by decide +kernel
theorem J_MScriptRows_takeCopy_d87 : decode J_MScriptRows_takeCopy.2.1 87 = .ok (.getfield 53, 3) := by decide +kernel
theorem J_MScriptRows_takeCopy_d90 : decode J_MScriptRows_takeCopy.2.1 90 = .ok (.iload_n 3, 1) := by decide +kernel
theorem J_MScriptRows_takeCopy_d91 : decode J_MScriptRows_takeCopy.2.1 91 = .ok (.iconst 1, 1) := by decide +kernel
theorem J_MScriptRows_takeCopy_d92 : decode J_MScriptRows_takeCopy.2.1 92 = .ok (.isub, 1) := by decide +kernel
theorem J_MScriptRows_takeCopy_d93 : decode J_MScriptRows_takeCopy.2.1 93 = .ok (.iload 4, 2) := by decide +kernel
theorem J_MScriptRows_takeCopy_d95 : decode J_MScriptRows_takeCopy.2.1 95 = .ok (.isub, 1) := by decide +kernel
theorem J_MScriptRows_takeCopy_d96 : decode J_MScriptRows_takeCopy.2.1 96 = .ok (.iaload, 1) := by decide +kernel
theorem J_MScriptRows_takeCopy_d97 : decode J_MScriptRows_takeCopy.2.1 97 = .ok (.invokestatic 80, 3) := by decide +kernel
theorem J_MScriptRows_takeCopy_d100 : decode J_MScriptRows_takeCopy.2.1 100 = .ok (.ifCond .eq 40, 3) := by decide +kernel
theorem J_MScriptRows_takeCopy_d103 : decode J_MScriptRows_takeCopy.2.1 103 = .ok (.lload 5, 2) := by decide +kernel
theorem J_MScriptRows_takeCopy_d105 : decode J_MScriptRows_takeCopy.2.1 105 = .ok (.lload 7, 2) := by decide +kernel
theorem J_MScriptRows_takeCopy_d107 : decode J_MScriptRows_takeCopy.2.1 107 = .ok (.aload_n 0, 1) := by decide +kernel
theorem J_MScriptRows_takeCopy_d108 : decode J_MScriptRows_takeCopy.2.1 108 = .ok (.getfield 53, 3) := by decide +kernel
theorem J_MScriptRows_takeCopy_d111 : decode J_MScriptRows_takeCopy.2.1 111 = .ok (.iload_n 3, 1) := by decide +kernel
theorem J_MScriptRows_takeCopy_d112 : decode J_MScriptRows_takeCopy.2.1 112 = .ok (.iconst 1, 1) := by decide +kernel
theorem J_MScriptRows_takeCopy_d113 : decode J_MScriptRows_takeCopy.2.1 113 = .ok (.isub, 1) := by decide +kernel
theorem J_MScriptRows_takeCopy_d114 : decode J_MScriptRows_takeCopy.2.1 114 = .ok (.iload 4, 2) := by decide +kernel
theorem J_MScriptRows_takeCopy_d116 : decode J_MScriptRows_takeCopy.2.1 116 = .ok (.isub, 1) := by decide +kernel
theorem J_MScriptRows_takeCopy_d117 : decode J_MScriptRows_takeCopy.2.1 117 = .ok (.iaload, 1) := by decide +kernel
theorem J_MScriptRows_takeCopy_d118 : decode J_MScriptRows_takeCopy.2.1 118 = .ok (.bipush 48, 2) := by decide +kernel
theorem J_MScriptRows_takeCopy_d120 : decode J_MScriptRows_takeCopy.2.1 120 = .ok (.isub, 1) := by decide +kernel
theorem J_MScriptRows_takeCopy_d121 : decode J_MScriptRows_takeCopy.2.1 121 = .ok (.i2l, 1) := by decide +kernel
theorem J_MScriptRows_takeCopy_d122 : decode J_MScriptRows_takeCopy.2.1 122 = .ok (.lmul, 1) := by decide +kernel
theorem J_MScriptRows_takeCopy_d123 : decode J_MScriptRows_takeCopy.2.1 123 = .ok (.ladd, 1) := by decide +kernel
theorem J_MScriptRows_takeCopy_d124 : decode J_MScriptRows_takeCopy.2.1 124 = .ok (.lstore 5, 2) := by decide +kernel
theorem J_MScriptRows_takeCopy_d126 : decode J_MScriptRows_takeCopy.2.1 126 = .ok (.ldc2_w 143, 3) := by decide +kernel
theorem J_MScriptRows_takeCopy_d129 : decode J_MScriptRows_takeCopy.2.1 129 = .ok (.lload 7, 2) := by decide +kernel
theorem J_MScriptRows_takeCopy_d131 : decode J_MScriptRows_takeCopy.2.1 131 = .ok (.lmul, 1) := by decide +kernel
theorem J_MScriptRows_takeCopy_d132 : decode J_MScriptRows_takeCopy.2.1 132 = .ok (.lstore 7, 2) := by decide +kernel
theorem J_MScriptRows_takeCopy_d134 : decode J_MScriptRows_takeCopy.2.1 134 = .ok (.iinc 4 1, 3) := by decide +kernel
theorem J_MScriptRows_takeCopy_d137 : decode J_MScriptRows_takeCopy.2.1 137 = .ok (.goto (-64), 3) := by decide +kernel
theorem J_MScriptRows_takeCopy_d140 : decode J_MScriptRows_takeCopy.2.1 140 = .ok (.lload 5, 2) := by decide +kernel
theorem J_MScriptRows_takeCopy_d142 : decode J_MScriptRows_takeCopy.2.1 142 = .ok (.aload_n 0, 1) := by decide +kernel
theorem J_MScriptRows_takeCopy_d143 : decode J_MScriptRows_takeCopy.2.1 143 = .ok (.getfield 44, 3) := by decide +kernel
theorem J_MScriptRows_takeCopy_d146 : decode J_MScriptRows_takeCopy.2.1 146 = .ok (.bipush 16, 2) := by decide +kernel
theorem J_MScriptRows_takeCopy_d148 : decode J_MScriptRows_takeCopy.2.1 148 = .ok (.iload_n 1, 1) := by decide +kernel
theorem J_MScriptRows_takeCopy_d149 : decode J_MScriptRows_takeCopy.2.1 149 = .ok (.imul, 1) := by decide +kernel
theorem J_MScriptRows_takeCopy_d150 : decode J_MScriptRows_takeCopy.2.1 150 = .ok (.bipush 9, 2) := by decide +kernel
theorem J_MScriptRows_takeCopy_d152 : decode J_MScriptRows_takeCopy.2.1 152 = .ok (.iadd, 1) := by decide +kernel
theorem J_MScriptRows_takeCopy_d153 : decode J_MScriptRows_takeCopy.2.1 153 = .ok (.iaload, 1) := by decide +kernel
theorem J_MScriptRows_takeCopy_d154 : decode J_MScriptRows_takeCopy.2.1 154 = .ok (.iload_n 2, 1) := by decide +kernel
theorem J_MScriptRows_takeCopy_d155 : decode J_MScriptRows_takeCopy.2.1 155 = .ok (.imul, 1) := by decide +kernel
theorem J_MScriptRows_takeCopy_d156 : decode J_MScriptRows_takeCopy.2.1 156 = .ok (.i2l, 1) := by decide +kernel
theorem J_MScriptRows_takeCopy_d157 : decode J_MScriptRows_takeCopy.2.1 157 = .ok (.ladd, 1) := by decide +kernel
theorem J_MScriptRows_takeCopy_d158 : decode J_MScriptRows_takeCopy.2.1 158 = .ok (.lstore 5, 2) := by decide +kernel
theorem J_MScriptRows_takeCopy_d160 : decode J_MScriptRows_takeCopy.2.1 160 = .ok (.lload 5, 2) := by decide +kernel
theorem J_MScriptRows_takeCopy_d162 : decode J_MScriptRows_takeCopy.2.1 162 = .ok (.lconst 0, 1) := by decide +kernel
theorem J_MScriptRows_takeCopy_d163 : decode J_MScriptRows_takeCopy.2.1 163 = .ok (.lcmp, 1) := by decide +kernel
theorem J_MScriptRows_takeCopy_d164 : decode J_MScriptRows_takeCopy.2.1 164 = .ok (.ifCond .ge 13, 3) := by decide +kernel
theorem J_MScriptRows_takeCopy_d167 : decode J_MScriptRows_takeCopy.2.1 167 = .ok (.lload 5, 2) := by decide +kernel
theorem J_MScriptRows_takeCopy_d169 : decode J_MScriptRows_takeCopy.2.1 169 = .ok (.lload 7, 2) := by decide +kernel
theorem J_MScriptRows_takeCopy_d171 : decode J_MScriptRows_takeCopy.2.1 171 = .ok (.ladd, 1) := by decide +kernel
theorem J_MScriptRows_takeCopy_d172 : decode J_MScriptRows_takeCopy.2.1 172 = .ok (.lstore 5, 2) := by decide +kernel
theorem J_MScriptRows_takeCopy_d174 : decode J_MScriptRows_takeCopy.2.1 174 = .ok (.goto (-14), 3) := by decide +kernel
theorem J_MScriptRows_takeCopy_d177 : decode J_MScriptRows_takeCopy.2.1 177 = .ok (.iconst 0, 1) := by decide +kernel
theorem J_MScriptRows_takeCopy_d178 : decode J_MScriptRows_takeCopy.2.1 178 = .ok (.istore 9, 2) := by decide +kernel
theorem J_MScriptRows_takeCopy_d180 : decode J_MScriptRows_takeCopy.2.1 180 = .ok (.iload 9, 2) := by decide +kernel
theorem J_MScriptRows_takeCopy_d182 : decode J_MScriptRows_takeCopy.2.1 182 = .ok (.iload 4, 2) := by decide +kernel
theorem J_MScriptRows_takeCopy_d184 : decode J_MScriptRows_takeCopy.2.1 184 = .ok (.if_icmp .ge 38, 3) := by decide +kernel
theorem J_MScriptRows_takeCopy_d187 : decode J_MScriptRows_takeCopy.2.1 187 = .ok (.aload_n 0, 1) := by decide +kernel
theorem J_MScriptRows_takeCopy_d188 : decode J_MScriptRows_takeCopy.2.1 188 = .ok (.getfield 53, 3) := by decide +kernel
theorem J_MScriptRows_takeCopy_d191 : decode J_MScriptRows_takeCopy.2.1 191 = .ok (.iload_n 3, 1) := by decide +kernel
theorem J_MScriptRows_takeCopy_d192 : decode J_MScriptRows_takeCopy.2.1 192 = .ok (.iconst 1, 1) := by decide +kernel
theorem J_MScriptRows_takeCopy_d193 : decode J_MScriptRows_takeCopy.2.1 193 = .ok (.isub, 1) := by decide +kernel
theorem J_MScriptRows_takeCopy_d194 : decode J_MScriptRows_takeCopy.2.1 194 = .ok (.iload 9, 2) := by decide +kernel
theorem J_MScriptRows_takeCopy_d196 : decode J_MScriptRows_takeCopy.2.1 196 = .ok (.isub, 1) := by decide +kernel
theorem J_MScriptRows_takeCopy_d197 : decode J_MScriptRows_takeCopy.2.1 197 = .ok (.bipush 48, 2) := by decide +kernel
theorem J_MScriptRows_takeCopy_d199 : decode J_MScriptRows_takeCopy.2.1 199 = .ok (.lload 5, 2) := by decide +kernel
theorem J_MScriptRows_takeCopy_d201 : decode J_MScriptRows_takeCopy.2.1 201 = .ok (.ldc2_w 143, 3) := by decide +kernel
theorem J_MScriptRows_takeCopy_d204 : decode J_MScriptRows_takeCopy.2.1 204 = .ok (.lrem, 1) := by decide +kernel
theorem J_MScriptRows_takeCopy_d205 : decode J_MScriptRows_takeCopy.2.1 205 = .ok (.l2i, 1) := by decide +kernel
theorem J_MScriptRows_takeCopy_d206 : decode J_MScriptRows_takeCopy.2.1 206 = .ok (.iadd, 1) := by decide +kernel
theorem J_MScriptRows_takeCopy_d207 : decode J_MScriptRows_takeCopy.2.1 207 = .ok (.iastore, 1) := by decide +kernel
theorem J_MScriptRows_takeCopy_d208 : decode J_MScriptRows_takeCopy.2.1 208 = .ok (.lload 5, 2) := by decide +kernel
theorem J_MScriptRows_takeCopy_d210 : decode J_MScriptRows_takeCopy.2.1 210 = .ok (.ldc2_w 143, 3) := by decide +kernel
theorem J_MScriptRows_takeCopy_d213 : decode J_MScriptRows_takeCopy.2.1 213 = .ok (.ldiv, 1) := by decide +kernel
theorem J_MScriptRows_takeCopy_d214 : decode J_MScriptRows_takeCopy.2.1 214 = .ok (.lstore 5, 2) := by decide +kernel
theorem J_MScriptRows_takeCopy_d216 : decode J_MScriptRows_takeCopy.2.1 216 = .ok (.iinc 9 1, 3) := by decide +kernel
theorem J_MScriptRows_takeCopy_d219 : decode J_MScriptRows_takeCopy.2.1 219 = .ok (.goto (-39), 3) := by decide +kernel
theorem J_MScriptRows_takeCopy_d222 : decode J_MScriptRows_takeCopy.2.1 222 = .ok (.return_, 1) := by decide +kernel
theorem f_MScriptRows_takeCopy_ok {L : Nat} {xs : Nat → Int32} {dep : Nat} {w : Bool} {p0 : Int32} {p1 : Int32} {M : im_M} {Q : im_M → Prop} (hM : lw_S w M) (h : ed (f_MScriptRows_takeCopy p0 p1 M) Q) : ia (tb_G L xs) (dep + 1) J_MScriptRows_takeCopy (rwV w Q) (0, lv_args 0 [.ref 71, .int p0, .int p1], [], M) := by
  have hS : im_St (tb_G L xs) (dep + 1) J_MScriptRows_takeCopy (ia (tb_G L xs) (dep + 1) J_MScriptRows_takeCopy (rwV w Q)) := ia_St
  unfold f_MScriptRows_takeCopy at h
  have l0 : im_lk (lv_args 0 [.ref 71, .int p0, .int p1]) 0 = some (.ref 71) := rfl
  have l1 : im_lk (lv_args 0 [.ref 71, .int p0, .int p1]) 1 = some (.int p0) := rfl
  have l2 : im_lk (lv_args 0 [.ref 71, .int p0, .int p1]) 2 = some (.int p1) := rfl
  refine iq_aload_n hS 1 J_MScriptRows_takeCopy_d0 l0 rfl ?_
  refine iq_getR hS 4 J_MScriptRows_takeCopy_d1 lf_15_44 (Or.inr ⟨_, rfl⟩) (ka_71 hM) (ra_71_28 hM) rfl ?_
  refine iq_bipush hS 6 J_MScriptRows_takeCopy_d4 (v := 16) (by decide +kernel) rfl ?_
  refine iq_iload_n hS 7 J_MScriptRows_takeCopy_d6 l1 rfl ?_
  refine iq_imul hS 8 J_MScriptRows_takeCopy_d7 rfl ?_
  refine iq_bipush hS 10 J_MScriptRows_takeCopy_d8 (v := 10) (by decide +kernel) rfl ?_
  refine iq_iadd hS 11 J_MScriptRows_takeCopy_d10 rfl ?_
  obtain ⟨g11, h⟩ := ed_gd h
  refine iq_iaload hS 12 J_MScriptRows_takeCopy_d11 ⟨(ka_82 hM).1, (ka_82 hM).2, g11.1, ix_lt (kl_82 hM) g11.2⟩ rfl ?_
  refine iq_istore_n hS 13 J_MScriptRows_takeCopy_d12 (by decide) rfl ?_
  refine iq_iconst hS 14 J_MScriptRows_takeCopy_d13 (v := 0) (by decide +kernel) rfl ?_
  refine iq_istore hS 16 J_MScriptRows_takeCopy_d14 (by decide) rfl ?_
  obtain ⟨Q1, hQ1, h⟩ := bd1_ed h
  have K1 : ∀ (M2 : im_M) (L' : List (Nat × Value)), lw_S w M2 → im_lk L' 0 = some (.ref 71) → im_lk L' 1 = some (.int p0) → im_lk L' 2 = some (.int p1) → im_lk L' 3 = some (.int (im_i M 82 (Int32.toNatClampNeg (((16 : Int32) * p0) + 10)))) → Q1 M2 → ia (tb_G L xs) (dep + 1) J_MScriptRows_takeCopy (rwV w Q) (48, L', [], M2) := by
    intro M2 L' hM2 l3 l4 l5 l6 h
    replace h := hQ1 _ h
    refine iq_aload_n hS 49 J_MScriptRows_takeCopy_d48 l3 rfl ?_
    refine iq_getR hS 52 J_MScriptRows_takeCopy_d49 lf_15_44 (Or.inr ⟨_, rfl⟩) (ka_71 hM2) (ra_71_28 hM2) rfl ?_
    refine iq_bipush hS 54 J_MScriptRows_takeCopy_d52 (v := 16) (by decide +kernel) rfl ?_
    refine iq_iload_n hS 55 J_MScriptRows_takeCopy_d54 l4 rfl ?_
    refine iq_imul hS 56 J_MScriptRows_takeCopy_d55 rfl ?_
    refine iq_bipush hS 58 J_MScriptRows_takeCopy_d56 (v := 8) (by decide +kernel) rfl ?_
    refine iq_iadd hS 59 J_MScriptRows_takeCopy_d58 rfl ?_
    obtain ⟨g59, h⟩ := ed_gd h
    refine iq_iaload hS 60 J_MScriptRows_takeCopy_d59 ⟨(ka_82 hM2).1, (ka_82 hM2).2, g59.1, ix_lt (kl_82 hM2) g59.2⟩ rfl ?_
    refine iq_if_ne hS 63 J_MScriptRows_takeCopy_d60 (t := 64) rfl (fun q60 => ?_) rfl (fun q60 => ?_)
    · replace h := ed_pos q60 h
      refine iq_iconst hS 65 J_MScriptRows_takeCopy_d64 (v := 0) (by decide +kernel) rfl ?_
      refine iq_istore hS 67 J_MScriptRows_takeCopy_d65 (by decide) rfl ?_
      refine iq_lconst hS 68 J_MScriptRows_takeCopy_d67 (v := 0) (by decide +kernel) rfl ?_
      refine iq_lstore hS 70 J_MScriptRows_takeCopy_d68 (by decide) rfl ?_
      refine iq_lconst hS 71 J_MScriptRows_takeCopy_d70 (v := 1) (by decide +kernel) rfl ?_
      refine iq_lstore hS 73 J_MScriptRows_takeCopy_d71 (by decide) rfl ?_
      obtain ⟨Q7, hQ7, h⟩ := bd3_ed h
      have K7 : ∀ (y8 : Int32) (y9 : Int64) (y10 : Int64) (L' : List (Nat × Value)), im_lk L' 0 = some (.ref 71) → im_lk L' 1 = some (.int p0) → im_lk L' 2 = some (.int p1) → im_lk L' 3 = some (.int (im_i M 82 (Int32.toNatClampNeg (((16 : Int32) * p0) + 10)))) → im_lk L' 4 = some (.int y8) → im_lk L' 5 = some (.long y9) → im_lk L' 7 = some (.long y10) → Q7 (y8, y9, y10) → ia (tb_G L xs) (dep + 1) J_MScriptRows_takeCopy (rwV w Q) (140, L', [], M2) := by
        intro y8 y9 y10 L' l11 l12 l13 l14 l15 l16 l17 h
        replace h := hQ7 _ _ _ h
        refine iq_lload hS 142 J_MScriptRows_takeCopy_d140 l16 rfl ?_
        refine iq_aload_n hS 143 J_MScriptRows_takeCopy_d142 l11 rfl ?_
        refine iq_getR hS 146 J_MScriptRows_takeCopy_d143 lf_15_44 (Or.inr ⟨_, rfl⟩) (ka_71 hM2) (ra_71_28 hM2) rfl ?_
        refine iq_bipush hS 148 J_MScriptRows_takeCopy_d146 (v := 16) (by decide +kernel) rfl ?_
        refine iq_iload_n hS 149 J_MScriptRows_takeCopy_d148 l12 rfl ?_
        refine iq_imul hS 150 J_MScriptRows_takeCopy_d149 rfl ?_
        refine iq_bipush hS 152 J_MScriptRows_takeCopy_d150 (v := 9) (by decide +kernel) rfl ?_
        refine iq_iadd hS 153 J_MScriptRows_takeCopy_d152 rfl ?_
        obtain ⟨g153, h⟩ := ed_gd h
        refine iq_iaload hS 154 J_MScriptRows_takeCopy_d153 ⟨(ka_82 hM2).1, (ka_82 hM2).2, g153.1, ix_lt (kl_82 hM2) g153.2⟩ rfl ?_
        refine iq_iload_n hS 155 J_MScriptRows_takeCopy_d154 l13 rfl ?_
        refine iq_imul hS 156 J_MScriptRows_takeCopy_d155 rfl ?_
        refine iq_i2l hS 157 J_MScriptRows_takeCopy_d156 rfl ?_
        refine iq_ladd hS 158 J_MScriptRows_takeCopy_d157 rfl ?_
        refine iq_lstore hS 160 J_MScriptRows_takeCopy_d158 (by decide) rfl ?_
        obtain ⟨Q18, hQ18, h⟩ := bd1_ed h
        have K18 : ∀ (y19 : Int64) (L' : List (Nat × Value)), im_lk L' 0 = some (.ref 71) → im_lk L' 3 = some (.int (im_i M 82 (Int32.toNatClampNeg (((16 : Int32) * p0) + 10)))) → im_lk L' 4 = some (.int y8) → im_lk L' 5 = some (.long y19) → Q18 y19 → ia (tb_G L xs) (dep + 1) J_MScriptRows_takeCopy (rwV w Q) (177, L', [], M2) := by
          intro y19 L' l20 l21 l22 l23 h
          replace h := hQ18 _ h
          refine iq_iconst hS 178 J_MScriptRows_takeCopy_d177 (v := 0) (by decide +kernel) rfl ?_
          refine iq_istore hS 180 J_MScriptRows_takeCopy_d178 (by decide) rfl ?_
          obtain ⟨Q24, hQ24, h⟩ := bd1_ed h
          have K24 : ∀ (M25 : im_M) (L' : List (Nat × Value)), lw_S w M25 → Q24 M25 → ia (tb_G L xs) (dep + 1) J_MScriptRows_takeCopy (rwV w Q) (222, L', [], M25) := by
            intro M25 L' hM25  h
            replace h := hQ24 _ h
            exact iq_ret J_MScriptRows_takeCopy_d222 rfl ⟨rfl, hM25, ed_some h⟩
          obtain ⟨r24, hr24, hq24⟩ := h
          obtain ⟨n24, hn24⟩ := lp_n hr24
          have I24 : ∀ (n : Nat) (x26 : Int64) (x27 : Int32) (M28 : im_M) (L' : List (Nat × Value)), lw_S w M28 → im_lk L' 0 = some (.ref 71) → im_lk L' 3 = some (.int (im_i M 82 (Int32.toNatClampNeg (((16 : Int32) * p0) + 10)))) → im_lk L' 4 = some (.int y8) → im_lk L' 5 = some (.long x26) → im_lk L' 9 = some (.int x27) → lpn (uc3 (f_MScriptRows_takeCopy_L180 (im_i M 82 (Int32.toNatClampNeg (((16 : Int32) * p0) + 10))) y8)) n (x26, x27, M28) = some r24 → ia (tb_G L xs) (dep + 1) J_MScriptRows_takeCopy (rwV w Q) (180, L', [], M28) := by
            intro n
            induction n with
            | zero => intro x26 x27 M28 L' hM28 l29 l30 l31 l32 l33 hn; exact (lpn_0 hn).elim
            | succ n ih =>
              intro x26 x27 M28 L' hM28 l29 l30 l31 l32 l33 hn
              have h := lpn_ed3 hn
              unfold f_MScriptRows_takeCopy_L180 at h
              refine iq_iload hS 182 J_MScriptRows_takeCopy_d180 l33 rfl ?_
              refine iq_iload hS 184 J_MScriptRows_takeCopy_d182 l31 rfl ?_
              refine iq_icmp_ge hS 187 J_MScriptRows_takeCopy_d184 (t := 222) rfl (fun q184 => ?_) rfl (fun q184 => ?_)
              · replace h := ed_pos q184 h
                exact K24 _ _ hM28  (lq_r h hq24)
              · replace h := ed_neg q184 h
                refine iq_aload_n hS 188 J_MScriptRows_takeCopy_d187 l29 rfl ?_
                refine iq_getR hS 191 J_MScriptRows_takeCopy_d188 lf_15_53 (Or.inr ⟨_, rfl⟩) (ka_71 hM28) (ra_71_31 hM28) rfl ?_
                refine iq_iload_n hS 192 J_MScriptRows_takeCopy_d191 l30 rfl ?_
                refine iq_iconst hS 193 J_MScriptRows_takeCopy_d192 (v := 1) (by decide +kernel) rfl ?_
                refine iq_isub hS 194 J_MScriptRows_takeCopy_d193 rfl ?_
                refine iq_iload hS 196 J_MScriptRows_takeCopy_d194 l33 rfl ?_
                refine iq_isub hS 197 J_MScriptRows_takeCopy_d196 rfl ?_
                refine iq_bipush hS 199 J_MScriptRows_takeCopy_d197 (v := 48) (by decide +kernel) rfl ?_
                refine iq_lload hS 201 J_MScriptRows_takeCopy_d199 l32 rfl ?_
                refine iq_ldc2_w hS 204 J_MScriptRows_takeCopy_d201 lk_15_143 rfl ?_
                refine iq_lrem hS 205 J_MScriptRows_takeCopy_d204 (by decide) rfl ?_
                refine iq_l2i hS 206 J_MScriptRows_takeCopy_d205 rfl ?_
                refine iq_iadd hS 207 J_MScriptRows_takeCopy_d206 rfl ?_
                obtain ⟨g207, h⟩ := ed_gd h
                refine iq_iastore hS 208 J_MScriptRows_takeCopy_d207 ⟨(ka_85 hM28).1, (ka_85 hM28).2, g207.1, ix_lt (kl_85 hM28) g207.2⟩ rfl ?_
                refine iq_lload hS 210 J_MScriptRows_takeCopy_d208 l32 rfl ?_
                refine iq_ldc2_w hS 213 J_MScriptRows_takeCopy_d210 lk_15_143 rfl ?_
                refine iq_ldiv hS 214 J_MScriptRows_takeCopy_d213 (by decide) rfl ?_
                refine iq_lstore hS 216 J_MScriptRows_takeCopy_d214 (by decide) rfl ?_
                refine iq_iincv hS 219 J_MScriptRows_takeCopy_d216 (c := 1) (by decide +kernel) (lk_2i l33 (by decide) (by decide)) (by decide) rfl ?_
                refine iq_goto hS J_MScriptRows_takeCopy_d219 (t := 180) rfl ?_
                exact ih _ _ _ _ (lw_sI hM28) (lk_1r (lk_2r l29 (by decide) (by decide)) (by decide)) (lk_1i (lk_2i l30 (by decide) (by decide)) (by decide)) (lk_1i (lk_2i l31 (by decide) (by decide)) (by decide)) (lk_1l lk_2s (by decide) (by decide)) lk_1s (lq_l h)
          exact I24 n24 _ _ _ _ hM2 (lk_1r l20 (by decide)) (lk_1i l21 (by decide)) (lk_1i l22 (by decide)) (lk_1l l23 (by decide) (by decide)) lk_1s hn24
        obtain ⟨r18, hr18, hq18⟩ := h
        obtain ⟨n18, hn18⟩ := lp_n hr18
        have I18 : ∀ (n : Nat) (x34 : Int64) (L' : List (Nat × Value)), im_lk L' 0 = some (.ref 71) → im_lk L' 3 = some (.int (im_i M 82 (Int32.toNatClampNeg (((16 : Int32) * p0) + 10)))) → im_lk L' 4 = some (.int y8) → im_lk L' 5 = some (.long x34) → im_lk L' 7 = some (.long y10) → lpn (uc1 (f_MScriptRows_takeCopy_L160 (im_i M 82 (Int32.toNatClampNeg (((16 : Int32) * p0) + 10))) y8 y10 M2)) n x34 = some r18 → ia (tb_G L xs) (dep + 1) J_MScriptRows_takeCopy (rwV w Q) (160, L', [], M2) := by
          intro n
          induction n with
          | zero => intro x34 L' l35 l36 l37 l38 l39 hn; exact (lpn_0 hn).elim
          | succ n ih =>
            intro x34 L' l35 l36 l37 l38 l39 hn
            have h := lpn_ed1 hn
            unfold f_MScriptRows_takeCopy_L160 at h
            refine iq_lload hS 162 J_MScriptRows_takeCopy_d160 l38 rfl ?_
            refine iq_lconst hS 163 J_MScriptRows_takeCopy_d162 (v := 0) (by decide +kernel) rfl ?_
            refine iq_lcmp hS 164 J_MScriptRows_takeCopy_d163 rfl ?_
            refine iq_if_ge hS 167 J_MScriptRows_takeCopy_d164 (t := 177) rfl (fun q164 => ?_) rfl (fun q164 => ?_)
            · replace h := ed_pos q164 h
              exact K18 _ _ l35 l36 l37 l38 (lq_r h hq18)
            · replace h := ed_neg q164 h
              refine iq_lload hS 169 J_MScriptRows_takeCopy_d167 l38 rfl ?_
              refine iq_lload hS 171 J_MScriptRows_takeCopy_d169 l39 rfl ?_
              refine iq_ladd hS 172 J_MScriptRows_takeCopy_d171 rfl ?_
              refine iq_lstore hS 174 J_MScriptRows_takeCopy_d172 (by decide) rfl ?_
              refine iq_goto hS J_MScriptRows_takeCopy_d174 (t := 160) rfl ?_
              exact ih _ _ (lk_2r l35 (by decide) (by decide)) (lk_2i l36 (by decide) (by decide)) (lk_2i l37 (by decide) (by decide)) lk_2s (lk_2l l39 (by decide) (by decide) (by decide)) (lq_l h)
        exact I18 n18 _ _ (lk_2r l11 (by decide) (by decide)) (lk_2i l14 (by decide) (by decide)) (lk_2i l15 (by decide) (by decide)) lk_2s (lk_2l l17 (by decide) (by decide) (by decide)) hn18
      obtain ⟨r7, hr7, hq7⟩ := h
      obtain ⟨n7, hn7⟩ := lp_n hr7
      have I7 : ∀ (n : Nat) (x40 : Int32) (x41 : Int64) (x42 : Int64) (L' : List (Nat × Value)), im_lk L' 0 = some (.ref 71) → im_lk L' 1 = some (.int p0) → im_lk L' 2 = some (.int p1) → im_lk L' 3 = some (.int (im_i M 82 (Int32.toNatClampNeg (((16 : Int32) * p0) + 10)))) → im_lk L' 4 = some (.int x40) → im_lk L' 5 = some (.long x41) → im_lk L' 7 = some (.long x42) → lpn (uc3 (f_MScriptRows_takeCopy_L73 p0 p1 (im_i M 82 (Int32.toNatClampNeg (((16 : Int32) * p0) + 10))) M2)) n (x40, x41, x42) = some r7 → ia (tb_G L xs) (dep + 1) J_MScriptRows_takeCopy (rwV w Q) (73, L', [], M2) := by
        intro n
        induction n with
        | zero => intro x40 x41 x42 L' l43 l44 l45 l46 l47 l48 l49 hn; exact (lpn_0 hn).elim
        | succ n ih =>
          intro x40 x41 x42 L' l43 l44 l45 l46 l47 l48 l49 hn
          have h := lpn_ed3 hn
          unfold f_MScriptRows_takeCopy_L73 at h
          refine iq_iload hS 75 J_MScriptRows_takeCopy_d73 l47 rfl ?_
          refine iq_bipush hS 77 J_MScriptRows_takeCopy_d75 (v := 9) (by decide +kernel) rfl ?_
          refine iq_icmp_ge hS 80 J_MScriptRows_takeCopy_d77 (t := 140) rfl (fun q77 => ?_) rfl (fun q77 => ?_)
          · replace h := ed_pos q77 h
            exact K7 _ _ _ _ l43 l44 l45 l46 l47 l48 l49 (lq_r h hq7)
          · replace h := ed_neg q77 h
            refine iq_iload hS 82 J_MScriptRows_takeCopy_d80 l47 rfl ?_
            refine iq_iload_n hS 83 J_MScriptRows_takeCopy_d82 l46 rfl ?_
            refine iq_icmp_ge hS 86 J_MScriptRows_takeCopy_d83 (t := 140) rfl (fun q83 => ?_) rfl (fun q83 => ?_)
            · replace h := ed_pos q83 h
              exact K7 _ _ _ _ l43 l44 l45 l46 l47 l48 l49 (lq_r h hq7)
            · replace h := ed_neg q83 h
              refine iq_aload_n hS 87 J_MScriptRows_takeCopy_d86 l43 rfl ?_
              refine iq_getR hS 90 J_MScriptRows_takeCopy_d87 lf_15_53 (Or.inr ⟨_, rfl⟩) (ka_71 hM2) (ra_71_31 hM2) rfl ?_
              refine iq_iload_n hS 91 J_MScriptRows_takeCopy_d90 l46 rfl ?_
              refine iq_iconst hS 92 J_MScriptRows_takeCopy_d91 (v := 1) (by decide +kernel) rfl ?_
              refine iq_isub hS 93 J_MScriptRows_takeCopy_d92 rfl ?_
              refine iq_iload hS 95 J_MScriptRows_takeCopy_d93 l47 rfl ?_
              refine iq_isub hS 96 J_MScriptRows_takeCopy_d95 rfl ?_
              obtain ⟨g96, h⟩ := ed_gd h
              refine iq_iaload hS 97 J_MScriptRows_takeCopy_d96 ⟨(ka_85 hM2).1, (ka_85 hM2).2, g96.1, ix_lt (kl_85 hM2) g96.2⟩ rfl ?_
              obtain ⟨Q50, hQ50, h⟩ := bd1_ed h
              refine iq_cpI hS 100 J_MScriptRows_takeCopy_d97 rfl (pr_stat (vs := [_]) lc_15_80 lT_289 rfl rfl (by decide) rfl (Nat.le_of_ble_eq_true rfl) (Nat.le_of_ble_eq_true rfl)) (f_MScriptRows_isDigit_ok (dep := dep + 0) hM2 h) rfl ?_
              intro x50 h
              replace h := hQ50 _ h
              refine iq_if_eq hS 103 J_MScriptRows_takeCopy_d100 (t := 140) rfl (fun q100 => ?_) rfl (fun q100 => ?_)
              · replace h := ed_pos q100 h
                exact K7 _ _ _ _ l43 l44 l45 l46 l47 l48 l49 (lq_r h hq7)
              · replace h := ed_neg q100 h
                refine iq_lload hS 105 J_MScriptRows_takeCopy_d103 l48 rfl ?_
                refine iq_lload hS 107 J_MScriptRows_takeCopy_d105 l49 rfl ?_
                refine iq_aload_n hS 108 J_MScriptRows_takeCopy_d107 l43 rfl ?_
                refine iq_getR hS 111 J_MScriptRows_takeCopy_d108 lf_15_53 (Or.inr ⟨_, rfl⟩) (ka_71 hM2) (ra_71_31 hM2) rfl ?_
                refine iq_iload_n hS 112 J_MScriptRows_takeCopy_d111 l46 rfl ?_
                refine iq_iconst hS 113 J_MScriptRows_takeCopy_d112 (v := 1) (by decide +kernel) rfl ?_
                refine iq_isub hS 114 J_MScriptRows_takeCopy_d113 rfl ?_
                refine iq_iload hS 116 J_MScriptRows_takeCopy_d114 l47 rfl ?_
                refine iq_isub hS 117 J_MScriptRows_takeCopy_d116 rfl ?_
                obtain ⟨g117, h⟩ := ed_gd h
                refine iq_iaload hS 118 J_MScriptRows_takeCopy_d117 ⟨(ka_85 hM2).1, (ka_85 hM2).2, g117.1, ix_lt (kl_85 hM2) g117.2⟩ rfl ?_
                refine iq_bipush hS 120 J_MScriptRows_takeCopy_d118 (v := 48) (by decide +kernel) rfl ?_
                refine iq_isub hS 121 J_MScriptRows_takeCopy_d120 rfl ?_
                refine iq_i2l hS 122 J_MScriptRows_takeCopy_d121 rfl ?_
                refine iq_lmul hS 123 J_MScriptRows_takeCopy_d122 rfl ?_
                refine iq_ladd hS 124 J_MScriptRows_takeCopy_d123 rfl ?_
                refine iq_lstore hS 126 J_MScriptRows_takeCopy_d124 (by decide) rfl ?_
                refine iq_ldc2_w hS 129 J_MScriptRows_takeCopy_d126 lk_15_143 rfl ?_
                refine iq_lload hS 131 J_MScriptRows_takeCopy_d129 (lk_2l l49 (by decide) (by decide) (by decide)) rfl ?_
                refine iq_lmul hS 132 J_MScriptRows_takeCopy_d131 rfl ?_
                refine iq_lstore hS 134 J_MScriptRows_takeCopy_d132 (by decide) rfl ?_
                refine iq_iincv hS 137 J_MScriptRows_takeCopy_d134 (c := 1) (by decide +kernel) (lk_2i (lk_2i l47 (by decide) (by decide)) (by decide) (by decide)) (by decide) rfl ?_
                refine iq_goto hS J_MScriptRows_takeCopy_d137 (t := 73) rfl ?_
                exact ih _ _ _ _ (lk_1r (lk_2r (lk_2r l43 (by decide) (by decide)) (by decide) (by decide)) (by decide)) (lk_1i (lk_2i (lk_2i l44 (by decide) (by decide)) (by decide) (by decide)) (by decide)) (lk_1i (lk_2i (lk_2i l45 (by decide) (by decide)) (by decide) (by decide)) (by decide)) (lk_1i (lk_2i (lk_2i l46 (by decide) (by decide)) (by decide) (by decide)) (by decide)) lk_1s (lk_1l (lk_2l lk_2s (by decide) (by decide) (by decide)) (by decide) (by decide)) (lk_1l lk_2s (by decide) (by decide)) (lq_l h)
      exact I7 n7 _ _ _ _ (lk_2r (lk_2r (lk_1r l3 (by decide)) (by decide) (by decide)) (by decide) (by decide)) (lk_2i (lk_2i (lk_1i l4 (by decide)) (by decide) (by decide)) (by decide) (by decide)) (lk_2i (lk_2i (lk_1i l5 (by decide)) (by decide) (by decide)) (by decide) (by decide)) (lk_2i (lk_2i (lk_1i l6 (by decide)) (by decide) (by decide)) (by decide) (by decide)) (lk_2i (lk_2i lk_1s (by decide) (by decide)) (by decide) (by decide)) (lk_2l lk_2s (by decide) (by decide) (by decide)) lk_2s hn7
    · replace h := ed_neg q60 h
      exact iq_ret J_MScriptRows_takeCopy_d63 rfl ⟨rfl, hM2, ed_some h⟩
  obtain ⟨r1, hr1, hq1⟩ := h
  obtain ⟨n1, hn1⟩ := lp_n hr1
  have I1 : ∀ (n : Nat) (x51 : Int32) (M52 : im_M) (L' : List (Nat × Value)), lw_S w M52 → im_lk L' 0 = some (.ref 71) → im_lk L' 1 = some (.int p0) → im_lk L' 2 = some (.int p1) → im_lk L' 3 = some (.int (im_i M 82 (Int32.toNatClampNeg (((16 : Int32) * p0) + 10)))) → im_lk L' 4 = some (.int x51) → lpn (uc2 (f_MScriptRows_takeCopy_L16 p0 p1 (im_i M 82 (Int32.toNatClampNeg (((16 : Int32) * p0) + 10))))) n (x51, M52) = some r1 → ia (tb_G L xs) (dep + 1) J_MScriptRows_takeCopy (rwV w Q) (16, L', [], M52) := by
    intro n
    induction n with
    | zero => intro x51 M52 L' hM52 l53 l54 l55 l56 l57 hn; exact (lpn_0 hn).elim
    | succ n ih =>
      intro x51 M52 L' hM52 l53 l54 l55 l56 l57 hn
      have h := lpn_ed2 hn
      unfold f_MScriptRows_takeCopy_L16 at h
      refine iq_iload hS 18 J_MScriptRows_takeCopy_d16 l57 rfl ?_
      refine iq_iload_n hS 19 J_MScriptRows_takeCopy_d18 l56 rfl ?_
      refine iq_icmp_ge hS 22 J_MScriptRows_takeCopy_d19 (t := 48) rfl (fun q19 => ?_) rfl (fun q19 => ?_)
      · replace h := ed_pos q19 h
        exact K1 _ _ hM52 l53 l54 l55 l56 (lq_r h hq1)
      · replace h := ed_neg q19 h
        refine iq_aload_n hS 23 J_MScriptRows_takeCopy_d22 l53 rfl ?_
        refine iq_getR hS 26 J_MScriptRows_takeCopy_d23 lf_15_53 (Or.inr ⟨_, rfl⟩) (ka_71 hM52) (ra_71_31 hM52) rfl ?_
        refine iq_iload hS 28 J_MScriptRows_takeCopy_d26 l57 rfl ?_
        refine iq_aload_n hS 29 J_MScriptRows_takeCopy_d28 l53 rfl ?_
        refine iq_getR hS 32 J_MScriptRows_takeCopy_d29 lf_15_50 (Or.inr ⟨_, rfl⟩) (ka_71 hM52) (ra_71_30 hM52) rfl ?_
        refine iq_sipush hS 35 J_MScriptRows_takeCopy_d32 (v := 200) (by decide +kernel) rfl ?_
        refine iq_iload_n hS 36 J_MScriptRows_takeCopy_d35 l54 rfl ?_
        refine iq_imul hS 37 J_MScriptRows_takeCopy_d36 rfl ?_
        refine iq_iload hS 39 J_MScriptRows_takeCopy_d37 l57 rfl ?_
        refine iq_iadd hS 40 J_MScriptRows_takeCopy_d39 rfl ?_
        obtain ⟨g40, h⟩ := ed_gd h
        refine iq_iaload hS 41 J_MScriptRows_takeCopy_d40 ⟨(ka_84 hM52).1, (ka_84 hM52).2, g40.1, ix_lt (kl_84 hM52) g40.2⟩ rfl ?_
        obtain ⟨g41, h⟩ := ed_gd h
        refine iq_iastore hS 42 J_MScriptRows_takeCopy_d41 ⟨(ka_85 hM52).1, (ka_85 hM52).2, g41.1, ix_lt (kl_85 hM52) g41.2⟩ rfl ?_
        refine iq_iincv hS 45 J_MScriptRows_takeCopy_d42 (c := 1) (by decide +kernel) l57 (by decide) rfl ?_
        refine iq_goto hS J_MScriptRows_takeCopy_d45 (t := 16) rfl ?_
        exact ih _ _ _ (lw_sI hM52) (lk_1r l53 (by decide)) (lk_1i l54 (by decide)) (lk_1i l55 (by decide)) (lk_1i l56 (by decide)) lk_1s (lq_l h)
  exact I1 n1 _ _ _ hM (lk_1r (lk_1r l0 (by decide)) (by decide)) (lk_1i (lk_1i l1 (by decide)) (by decide)) (lk_1i (lk_1i l2 (by decide)) (by decide)) (lk_1i lk_1s (by decide)) lk_1s hn1
theorem f_MScriptRows_takeCopy_fr {p0 : Int32} {p1 : Int32} {M : im_M} {r : im_M} (h : f_MScriptRows_takeCopy p0 p1 M = some r) : fr 38685626227668133590597632 [] M r := by
  replace h : ed (f_MScriptRows_takeCopy p0 p1 M) (fun x => x = r) := ⟨r, h, rfl⟩
  unfold f_MScriptRows_takeCopy at h
  obtain ⟨g11, h⟩ := ed_gd h
  obtain ⟨Q1, hQ1, h⟩ := bd1_ed h
  have K1 : ∀ (M2 : im_M), fr 38685626227668133590597632 [] M M2 → Q1 M2 → fr 38685626227668133590597632 [] M r := by
    intro M2 hM2 h
    replace h := hQ1 _ h
    obtain ⟨g59, h⟩ := ed_gd h
    by_cases q60 : ¬ (im_i M2 82 (Int32.toNatClampNeg (((16 : Int32) * p0) + 8))) = 0
    · replace h := ed_pos q60 h
      obtain ⟨Q3, hQ3, h⟩ := bd3_ed h
      have K3 : ∀ (y4 : Int32) (y5 : Int64) (y6 : Int64), Q3 (y4, y5, y6) → fr 38685626227668133590597632 [] M r := by
        intro y4 y5 y6 h
        replace h := hQ3 _ _ _ h
        obtain ⟨g153, h⟩ := ed_gd h
        obtain ⟨Q7, hQ7, h⟩ := bd1_ed h
        have K7 : ∀ (y8 : Int64), Q7 y8 → fr 38685626227668133590597632 [] M r := by
          intro y8 h
          replace h := hQ7 _ h
          obtain ⟨Q9, hQ9, h⟩ := bd1_ed h
          have K9 : ∀ (M10 : im_M), fr 38685626227668133590597632 [] M M10 → Q9 M10 → fr 38685626227668133590597632 [] M r := by
            intro M10 hM10 h
            replace h := hQ9 _ h
            exact fr_retV h hM10
          obtain ⟨r9, hr9, hq9⟩ := h
          obtain ⟨n9, hn9⟩ := lp_n hr9
          have I9 : ∀ (n : Nat) (x11 : Int64) (x12 : Int32) (M13 : im_M), fr 38685626227668133590597632 [] M M13 → lpn (uc3 (f_MScriptRows_takeCopy_L180 (im_i M 82 (Int32.toNatClampNeg (((16 : Int32) * p0) + 10))) y4)) n (x11, x12, M13) = some r9 → fr 38685626227668133590597632 [] M r := by
            intro n
            induction n with
            | zero => intro x11 x12 M13 hM13 hn; exact (lpn_0 hn).elim
            | succ n ih =>
              intro x11 x12 M13 hM13 hn
              have h := lpn_ed3 hn
              unfold f_MScriptRows_takeCopy_L180 at h
              by_cases q184 : y4 ≤ x12
              · replace h := ed_pos q184 h
                exact K9 _ hM13 (lq_r h hq9)
              · replace h := ed_neg q184 h
                obtain ⟨g207, h⟩ := ed_gd h
                exact ih _ _ _ (fr_I (by decide) hM13) (lq_l h)
          exact I9 n9 _ _ _ hM2 hn9
        obtain ⟨r7, hr7, hq7⟩ := h
        obtain ⟨n7, hn7⟩ := lp_n hr7
        have I7 : ∀ (n : Nat) (x14 : Int64), lpn (uc1 (f_MScriptRows_takeCopy_L160 (im_i M 82 (Int32.toNatClampNeg (((16 : Int32) * p0) + 10))) y4 y6 M2)) n x14 = some r7 → fr 38685626227668133590597632 [] M r := by
          intro n
          induction n with
          | zero => intro x14 hn; exact (lpn_0 hn).elim
          | succ n ih =>
            intro x14 hn
            have h := lpn_ed1 hn
            unfold f_MScriptRows_takeCopy_L160 at h
            by_cases q164 : 0 ≤ (lg_cmp x14 0)
            · replace h := ed_pos q164 h
              exact K7 _ (lq_r h hq7)
            · replace h := ed_neg q164 h
              exact ih _ (lq_l h)
        exact I7 n7 _ hn7
      obtain ⟨r3, hr3, hq3⟩ := h
      obtain ⟨n3, hn3⟩ := lp_n hr3
      have I3 : ∀ (n : Nat) (x15 : Int32) (x16 : Int64) (x17 : Int64), lpn (uc3 (f_MScriptRows_takeCopy_L73 p0 p1 (im_i M 82 (Int32.toNatClampNeg (((16 : Int32) * p0) + 10))) M2)) n (x15, x16, x17) = some r3 → fr 38685626227668133590597632 [] M r := by
        intro n
        induction n with
        | zero => intro x15 x16 x17 hn; exact (lpn_0 hn).elim
        | succ n ih =>
          intro x15 x16 x17 hn
          have h := lpn_ed3 hn
          unfold f_MScriptRows_takeCopy_L73 at h
          by_cases q77 : 9 ≤ x15
          · replace h := ed_pos q77 h
            exact K3 _ _ _ (lq_r h hq3)
          · replace h := ed_neg q77 h
            by_cases q83 : (im_i M 82 (Int32.toNatClampNeg (((16 : Int32) * p0) + 10))) ≤ x15
            · replace h := ed_pos q83 h
              exact K3 _ _ _ (lq_r h hq3)
            · replace h := ed_neg q83 h
              obtain ⟨g96, h⟩ := ed_gd h
              obtain ⟨Q18, hQ18, h⟩ := bd1_ed h
              obtain ⟨x18, e18, h⟩ := h
              replace h := hQ18 _ h
              by_cases q100 : x18 = 0
              · replace h := ed_pos q100 h
                exact K3 _ _ _ (lq_r h hq3)
              · replace h := ed_neg q100 h
                obtain ⟨g117, h⟩ := ed_gd h
                exact ih _ _ _ (lq_l h)
      exact I3 n3 _ _ _ hn3
    · replace h := ed_neg q60 h
      exact fr_retV h hM2
  obtain ⟨r1, hr1, hq1⟩ := h
  obtain ⟨n1, hn1⟩ := lp_n hr1
  have I1 : ∀ (n : Nat) (x19 : Int32) (M20 : im_M), fr 38685626227668133590597632 [] M M20 → lpn (uc2 (f_MScriptRows_takeCopy_L16 p0 p1 (im_i M 82 (Int32.toNatClampNeg (((16 : Int32) * p0) + 10))))) n (x19, M20) = some r1 → fr 38685626227668133590597632 [] M r := by
    intro n
    induction n with
    | zero => intro x19 M20 hM20 hn; exact (lpn_0 hn).elim
    | succ n ih =>
      intro x19 M20 hM20 hn
      have h := lpn_ed2 hn
      unfold f_MScriptRows_takeCopy_L16 at h
      by_cases q19 : (im_i M 82 (Int32.toNatClampNeg (((16 : Int32) * p0) + 10))) ≤ x19
      · replace h := ed_pos q19 h
        exact K1 _ hM20 (lq_r h hq1)
      · replace h := ed_neg q19 h
        obtain ⟨g40, h⟩ := ed_gd h
        obtain ⟨g41, h⟩ := ed_gd h
        exact ih _ _ (fr_I (by decide) hM20) (lq_l h)
  exact I1 n1 _ _ fr_refl hn1
noncomputable def f_MScriptRows_stepX (p0 : Int32) (p1 : Int32) (p2 : Int32) (p3 : Int32) (M : im_M) : Option (Int32) := if ¬ p3 = 0 then if ¬ p3 = 1 then if ¬ p3 = 2 then some (p0 + p2) else some (p0 - p1) else some (p0 - p2) else some (p0 + p1)
theorem J_MScriptRows_stepX_d0 : decode J_MScriptRows_stepX.2.1 0 = .ok (.iload_n 3, 1) := by decide +kernel
theorem J_MScriptRows_stepX_d1 : decode J_MScriptRows_stepX.2.1 1 = .ok (.ifCond .ne 9, 3) := by decide +kernel
theorem J_MScriptRows_stepX_d4 : decode J_MScriptRows_stepX.2.1 4 = .ok (.iload_n 0, 1) := by decide +kernel
theorem J_MScriptRows_stepX_d5 : decode J_MScriptRows_stepX.2.1 5 = .ok (.iload_n 1, 1) := by decide +kernel
theorem J_MScriptRows_stepX_d6 : decode J_MScriptRows_stepX.2.1 6 = .ok (.iadd, 1) := by decide +kernel
theorem J_MScriptRows_stepX_d7 : decode J_MScriptRows_stepX.2.1 7 = .ok (.goto 28, 3) := by decide +kernel
theorem J_MScriptRows_stepX_d10 : decode J_MScriptRows_stepX.2.1 10 = .ok (.iload_n 3, 1) := by decide +kernel
theorem J_MScriptRows_stepX_d11 : decode J_MScriptRows_stepX.2.1 11 = .ok (.iconst 1, 1) := by decide +kernel
theorem J_MScriptRows_stepX_d12 : decode J_MScriptRows_stepX.2.1 12 = .ok (.if_icmp .ne 9, 3) := by decide +kernel
theorem J_MScriptRows_stepX_d15 : decode J_MScriptRows_stepX.2.1 15 = .ok (.iload_n 0, 1) := by decide +kernel
theorem J_MScriptRows_stepX_d16 : decode J_MScriptRows_stepX.2.1 16 = .ok (.iload_n 2, 1) := by decide +kernel
theorem J_MScriptRows_stepX_d17 : decode J_MScriptRows_stepX.2.1 17 = .ok (.isub, 1) := by decide +kernel
theorem J_MScriptRows_stepX_d18 : decode J_MScriptRows_stepX.2.1 18 = .ok (.goto 17, 3) := by decide +kernel
theorem J_MScriptRows_stepX_d21 : decode J_MScriptRows_stepX.2.1 21 = .ok (.iload_n 3, 1) := by decide +kernel
theorem J_MScriptRows_stepX_d22 : decode J_MScriptRows_stepX.2.1 22 = .ok (.iconst 2, 1) := by decide +kernel
theorem J_MScriptRows_stepX_d23 : decode J_MScriptRows_stepX.2.1 23 = .ok (.if_icmp .ne 9, 3) := by decide +kernel
theorem J_MScriptRows_stepX_d26 : decode J_MScriptRows_stepX.2.1 26 = .ok (.iload_n 0, 1) := by decide +kernel
theorem J_MScriptRows_stepX_d27 : decode J_MScriptRows_stepX.2.1 27 = .ok (.iload_n 1, 1) := by decide +kernel
theorem J_MScriptRows_stepX_d28 : decode J_MScriptRows_stepX.2.1 28 = .ok (.isub, 1) := by decide +kernel
theorem J_MScriptRows_stepX_d29 : decode J_MScriptRows_stepX.2.1 29 = .ok (.goto 6, 3) := by decide +kernel
theorem J_MScriptRows_stepX_d32 : decode J_MScriptRows_stepX.2.1 32 = .ok (.iload_n 0, 1) := by decide +kernel
theorem J_MScriptRows_stepX_d33 : decode J_MScriptRows_stepX.2.1 33 = .ok (.iload_n 2, 1) := by decide +kernel
theorem J_MScriptRows_stepX_d34 : decode J_MScriptRows_stepX.2.1 34 = .ok (.iadd, 1) := by decide +kernel
theorem J_MScriptRows_stepX_d35 : decode J_MScriptRows_stepX.2.1 35 = .ok (.ireturn, 1) := by decide +kernel
theorem f_MScriptRows_stepX_ok {L : Nat} {xs : Nat → Int32} {dep : Nat} {w : Bool} {p0 : Int32} {p1 : Int32} {p2 : Int32} {p3 : Int32} {M : im_M} {Q : Int32 → Prop} (hM : lw_S w M) (h : ed (f_MScriptRows_stepX p0 p1 p2 p3 M) Q) : ia (tb_G L xs) dep J_MScriptRows_stepX (rpI M Q) (0, lv_args 0 [.int p0, .int p1, .int p2, .int p3], [], M) := by
  have hS : im_St (tb_G L xs) dep J_MScriptRows_stepX (ia (tb_G L xs) dep J_MScriptRows_stepX (rpI M Q)) := ia_St
  unfold f_MScriptRows_stepX at h
  have l0 : im_lk (lv_args 0 [.int p0, .int p1, .int p2, .int p3]) 0 = some (.int p0) := rfl
  have l1 : im_lk (lv_args 0 [.int p0, .int p1, .int p2, .int p3]) 1 = some (.int p1) := rfl
  have l2 : im_lk (lv_args 0 [.int p0, .int p1, .int p2, .int p3]) 2 = some (.int p2) := rfl
  have l3 : im_lk (lv_args 0 [.int p0, .int p1, .int p2, .int p3]) 3 = some (.int p3) := rfl
  refine iq_iload_n hS 1 J_MScriptRows_stepX_d0 l3 rfl ?_
  refine iq_if_ne hS 4 J_MScriptRows_stepX_d1 (t := 10) rfl (fun q1 => ?_) rfl (fun q1 => ?_)
  · replace h := ed_pos q1 h
    refine iq_iload_n hS 11 J_MScriptRows_stepX_d10 l3 rfl ?_
    refine iq_iconst hS 12 J_MScriptRows_stepX_d11 (v := 1) (by decide +kernel) rfl ?_
    refine iq_icmp_ne hS 15 J_MScriptRows_stepX_d12 (t := 21) rfl (fun q12 => ?_) rfl (fun q12 => ?_)
    · replace h := ed_pos q12 h
      refine iq_iload_n hS 22 J_MScriptRows_stepX_d21 l3 rfl ?_
      refine iq_iconst hS 23 J_MScriptRows_stepX_d22 (v := 2) (by decide +kernel) rfl ?_
      refine iq_icmp_ne hS 26 J_MScriptRows_stepX_d23 (t := 32) rfl (fun q23 => ?_) rfl (fun q23 => ?_)
      · replace h := ed_pos q23 h
        refine iq_iload_n hS 33 J_MScriptRows_stepX_d32 l0 rfl ?_
        refine iq_iload_n hS 34 J_MScriptRows_stepX_d33 l2 rfl ?_
        refine iq_iadd hS 35 J_MScriptRows_stepX_d34 rfl ?_
        exact iq_iret J_MScriptRows_stepX_d35 rfl rfl ⟨_, rfl, rfl, ed_some h⟩
      · replace h := ed_neg q23 h
        refine iq_iload_n hS 27 J_MScriptRows_stepX_d26 l0 rfl ?_
        refine iq_iload_n hS 28 J_MScriptRows_stepX_d27 l1 rfl ?_
        refine iq_isub hS 29 J_MScriptRows_stepX_d28 rfl ?_
        refine iq_goto hS J_MScriptRows_stepX_d29 (t := 35) rfl ?_
        exact iq_iret J_MScriptRows_stepX_d35 rfl rfl ⟨_, rfl, rfl, ed_some h⟩
    · replace h := ed_neg q12 h
      refine iq_iload_n hS 16 J_MScriptRows_stepX_d15 l0 rfl ?_
      refine iq_iload_n hS 17 J_MScriptRows_stepX_d16 l2 rfl ?_
      refine iq_isub hS 18 J_MScriptRows_stepX_d17 rfl ?_
      refine iq_goto hS J_MScriptRows_stepX_d18 (t := 35) rfl ?_
      exact iq_iret J_MScriptRows_stepX_d35 rfl rfl ⟨_, rfl, rfl, ed_some h⟩
  · replace h := ed_neg q1 h
    refine iq_iload_n hS 5 J_MScriptRows_stepX_d4 l0 rfl ?_
    refine iq_iload_n hS 6 J_MScriptRows_stepX_d5 l1 rfl ?_
    refine iq_iadd hS 7 J_MScriptRows_stepX_d6 rfl ?_
    refine iq_goto hS J_MScriptRows_stepX_d7 (t := 35) rfl ?_
    exact iq_iret J_MScriptRows_stepX_d35 rfl rfl ⟨_, rfl, rfl, ed_some h⟩
noncomputable def f_MScriptRows_stepY (p0 : Int32) (p1 : Int32) (p2 : Int32) (p3 : Int32) (M : im_M) : Option (Int32) := if ¬ p3 = 0 then if ¬ p3 = 1 then if ¬ p3 = 2 then some (p0 - p1) else some (p0 - p2) else some (p0 + p1) else some (p0 + p2)
theorem J_MScriptRows_stepY_d0 : decode J_MScriptRows_stepY.2.1 0 = .ok (.iload_n 3, 1) := by decide +kernel
theorem J_MScriptRows_stepY_d1 : decode J_MScriptRows_stepY.2.1 1 = .ok (.ifCond .ne 9, 3) := by decide +kernel
theorem J_MScriptRows_stepY_d4 : decode J_MScriptRows_stepY.2.1 4 = .ok (.iload_n 0, 1) := by decide +kernel
theorem J_MScriptRows_stepY_d5 : decode J_MScriptRows_stepY.2.1 5 = .ok (.iload_n 2, 1) := by decide +kernel
theorem J_MScriptRows_stepY_d6 : decode J_MScriptRows_stepY.2.1 6 = .ok (.iadd, 1) := by decide +kernel
theorem J_MScriptRows_stepY_d7 : decode J_MScriptRows_stepY.2.1 7 = .ok (.goto 28, 3) := by decide +kernel
theorem J_MScriptRows_stepY_d10 : decode J_MScriptRows_stepY.2.1 10 = .ok (.iload_n 3, 1) := by decide +kernel
theorem J_MScriptRows_stepY_d11 : decode J_MScriptRows_stepY.2.1 11 = .ok (.iconst 1, 1) := by decide +kernel
theorem J_MScriptRows_stepY_d12 : decode J_MScriptRows_stepY.2.1 12 = .ok (.if_icmp .ne 9, 3) := by decide +kernel
theorem J_MScriptRows_stepY_d15 : decode J_MScriptRows_stepY.2.1 15 = .ok (.iload_n 0, 1) := by decide +kernel
theorem J_MScriptRows_stepY_d16 : decode J_MScriptRows_stepY.2.1 16 = .ok (.iload_n 1, 1) := by decide +kernel
theorem J_MScriptRows_stepY_d17 : decode J_MScriptRows_stepY.2.1 17 = .ok (.iadd, 1) := by decide +kernel
theorem J_MScriptRows_stepY_d18 : decode J_MScriptRows_stepY.2.1 18 = .ok (.goto 17, 3) := by decide +kernel
theorem J_MScriptRows_stepY_d21 : decode J_MScriptRows_stepY.2.1 21 = .ok (.iload_n 3, 1) := by decide +kernel
theorem J_MScriptRows_stepY_d22 : decode J_MScriptRows_stepY.2.1 22 = .ok (.iconst 2, 1) := by decide +kernel
theorem J_MScriptRows_stepY_d23 : decode J_MScriptRows_stepY.2.1 23 = .ok (.if_icmp .ne 9, 3) := by decide +kernel
theorem J_MScriptRows_stepY_d26 : decode J_MScriptRows_stepY.2.1 26 = .ok (.iload_n 0, 1) := by decide +kernel
theorem J_MScriptRows_stepY_d27 : decode J_MScriptRows_stepY.2.1 27 = .ok (.iload_n 2, 1) := by decide +kernel
theorem J_MScriptRows_stepY_d28 : decode J_MScriptRows_stepY.2.1 28 = .ok (.isub, 1) := by decide +kernel
theorem J_MScriptRows_stepY_d29 : decode J_MScriptRows_stepY.2.1 29 = .ok (.goto 6, 3) := by decide +kernel
theorem J_MScriptRows_stepY_d32 : decode J_MScriptRows_stepY.2.1 32 = .ok (.iload_n 0, 1) := by decide +kernel
theorem J_MScriptRows_stepY_d33 : decode J_MScriptRows_stepY.2.1 33 = .ok (.iload_n 1, 1) := by decide +kernel
theorem J_MScriptRows_stepY_d34 : decode J_MScriptRows_stepY.2.1 34 = .ok (.isub, 1) := by decide +kernel
theorem J_MScriptRows_stepY_d35 : decode J_MScriptRows_stepY.2.1 35 = .ok (.ireturn, 1) := by decide +kernel
theorem f_MScriptRows_stepY_ok {L : Nat} {xs : Nat → Int32} {dep : Nat} {w : Bool} {p0 : Int32} {p1 : Int32} {p2 : Int32} {p3 : Int32} {M : im_M} {Q : Int32 → Prop} (hM : lw_S w M) (h : ed (f_MScriptRows_stepY p0 p1 p2 p3 M) Q) : ia (tb_G L xs) dep J_MScriptRows_stepY (rpI M Q) (0, lv_args 0 [.int p0, .int p1, .int p2, .int p3], [], M) := by
  have hS : im_St (tb_G L xs) dep J_MScriptRows_stepY (ia (tb_G L xs) dep J_MScriptRows_stepY (rpI M Q)) := ia_St
  unfold f_MScriptRows_stepY at h
  have l0 : im_lk (lv_args 0 [.int p0, .int p1, .int p2, .int p3]) 0 = some (.int p0) := rfl
  have l1 : im_lk (lv_args 0 [.int p0, .int p1, .int p2, .int p3]) 1 = some (.int p1) := rfl
  have l2 : im_lk (lv_args 0 [.int p0, .int p1, .int p2, .int p3]) 2 = some (.int p2) := rfl
  have l3 : im_lk (lv_args 0 [.int p0, .int p1, .int p2, .int p3]) 3 = some (.int p3) := rfl
  refine iq_iload_n hS 1 J_MScriptRows_stepY_d0 l3 rfl ?_
  refine iq_if_ne hS 4 J_MScriptRows_stepY_d1 (t := 10) rfl (fun q1 => ?_) rfl (fun q1 => ?_)
  · replace h := ed_pos q1 h
    refine iq_iload_n hS 11 J_MScriptRows_stepY_d10 l3 rfl ?_
    refine iq_iconst hS 12 J_MScriptRows_stepY_d11 (v := 1) (by decide +kernel) rfl ?_
    refine iq_icmp_ne hS 15 J_MScriptRows_stepY_d12 (t := 21) rfl (fun q12 => ?_) rfl (fun q12 => ?_)
    · replace h := ed_pos q12 h
      refine iq_iload_n hS 22 J_MScriptRows_stepY_d21 l3 rfl ?_
      refine iq_iconst hS 23 J_MScriptRows_stepY_d22 (v := 2) (by decide +kernel) rfl ?_
      refine iq_icmp_ne hS 26 J_MScriptRows_stepY_d23 (t := 32) rfl (fun q23 => ?_) rfl (fun q23 => ?_)
      · replace h := ed_pos q23 h
        refine iq_iload_n hS 33 J_MScriptRows_stepY_d32 l0 rfl ?_
        refine iq_iload_n hS 34 J_MScriptRows_stepY_d33 l1 rfl ?_
        refine iq_isub hS 35 J_MScriptRows_stepY_d34 rfl ?_
        exact iq_iret J_MScriptRows_stepY_d35 rfl rfl ⟨_, rfl, rfl, ed_some h⟩
      · replace h := ed_neg q23 h
        refine iq_iload_n hS 27 J_MScriptRows_stepY_d26 l0 rfl ?_
        refine iq_iload_n hS 28 J_MScriptRows_stepY_d27 l2 rfl ?_
        refine iq_isub hS 29 J_MScriptRows_stepY_d28 rfl ?_
        refine iq_goto hS J_MScriptRows_stepY_d29 (t := 35) rfl ?_
        exact iq_iret J_MScriptRows_stepY_d35 rfl rfl ⟨_, rfl, rfl, ed_some h⟩
    · replace h := ed_neg q12 h
      refine iq_iload_n hS 16 J_MScriptRows_stepY_d15 l0 rfl ?_
      refine iq_iload_n hS 17 J_MScriptRows_stepY_d16 l1 rfl ?_
      refine iq_iadd hS 18 J_MScriptRows_stepY_d17 rfl ?_
      refine iq_goto hS J_MScriptRows_stepY_d18 (t := 35) rfl ?_
      exact iq_iret J_MScriptRows_stepY_d35 rfl rfl ⟨_, rfl, rfl, ed_some h⟩
  · replace h := ed_neg q1 h
    refine iq_iload_n hS 5 J_MScriptRows_stepY_d4 l0 rfl ?_
    refine iq_iload_n hS 6 J_MScriptRows_stepY_d5 l2 rfl ?_
    refine iq_iadd hS 7 J_MScriptRows_stepY_d6 rfl ?_
    refine iq_goto hS J_MScriptRows_stepY_d7 (t := 35) rfl ?_
    exact iq_iret J_MScriptRows_stepY_d35 rfl rfl ⟨_, rfl, rfl, ed_some h⟩
noncomputable def f_MScriptRows_isFar (p0 : Int32) (M : im_M) : Option (Int32) := jn0 (fun (_ : Unit) => some 1) fun k1 => if p0 < (-4096) then k1 () else if p0 ≤ 4096 then some 0 else k1 ()
theorem J_MScriptRows_isFar_d0 : decode J_MScriptRows_isFar.2.1 0 = .ok (.iload_n 0, 1) := by decide +kernel
theorem J_MScriptRows_isFar_d1 : decode J_MScriptRows_isFar.2.1 1 = .ok (.sipush (-4096), 3) := by decide +kernel
theorem J_MScriptRows_isFar_d4 : decode J_MScriptRows_isFar.2.1 4 = .ok (.if_icmp .lt 10, 3) := by decide +kernel
theorem J_MScriptRows_isFar_d7 : decode J_MScriptRows_isFar.2.1 7 = .ok (.iload_n 0, 1) := by decide +kernel
theorem J_MScriptRows_isFar_d8 : decode J_MScriptRows_isFar.2.1 8 = .ok (.sipush 4096, 3) := by decide +kernel
theorem J_MScriptRows_isFar_d11 : decode J_MScriptRows_isFar.2.1 11 = .ok (.if_icmp .le 7, 3) := by decide +kernel
theorem J_MScriptRows_isFar_d14 : decode J_MScriptRows_isFar.2.1 14 = .ok (.iconst 1, 1) := by decide +kernel
theorem J_MScriptRows_isFar_d15 : decode J_MScriptRows_isFar.2.1 15 = .ok (.goto 4, 3) := by decide +kernel
theorem J_MScriptRows_isFar_d18 : decode J_MScriptRows_isFar.2.1 18 = .ok (.iconst 0, 1) := by decide +kernel
theorem J_MScriptRows_isFar_d19 : decode J_MScriptRows_isFar.2.1 19 = .ok (.ireturn, 1) := by decide +kernel
theorem f_MScriptRows_isFar_ok {L : Nat} {xs : Nat → Int32} {dep : Nat} {w : Bool} {p0 : Int32} {M : im_M} {Q : Int32 → Prop} (hM : lw_S w M) (h : ed (f_MScriptRows_isFar p0 M) Q) : ia (tb_G L xs) dep J_MScriptRows_isFar (rpI M Q) (0, lv_args 0 [.int p0], [], M) := by
  have hS : im_St (tb_G L xs) dep J_MScriptRows_isFar (ia (tb_G L xs) dep J_MScriptRows_isFar (rpI M Q)) := ia_St
  unfold f_MScriptRows_isFar at h
  have l0 : im_lk (lv_args 0 [.int p0]) 0 = some (.int p0) := rfl
  refine iq_iload_n hS 1 J_MScriptRows_isFar_d0 l0 rfl ?_
  refine iq_sipush hS 4 J_MScriptRows_isFar_d1 (v := (-4096)) (by decide +kernel) rfl ?_
  obtain ⟨k1, Q1, hQ1, hk1, h⟩ := jn0_ed h
  have J1 : ∀  (L' : List (Nat × Value)), Q1 () → ia (tb_G L xs) dep J_MScriptRows_isFar (rpI M Q) (14, L', [], M) := by
    intro  L'  h
    replace h := hQ1  h
    refine iq_iconst hS 15 J_MScriptRows_isFar_d14 (v := 1) (by decide +kernel) rfl ?_
    refine iq_goto hS J_MScriptRows_isFar_d15 (t := 19) rfl ?_
    exact iq_iret J_MScriptRows_isFar_d19 rfl rfl ⟨_, rfl, rfl, ed_some h⟩
  refine iq_icmp_lt hS 7 J_MScriptRows_isFar_d4 (t := 14) rfl (fun q4 => ?_) rfl (fun q4 => ?_)
  · replace h := ed_pos q4 h
    exact J1  _  (hk1  h)
  · replace h := ed_neg q4 h
    refine iq_iload_n hS 8 J_MScriptRows_isFar_d7 l0 rfl ?_
    refine iq_sipush hS 11 J_MScriptRows_isFar_d8 (v := 4096) (by decide +kernel) rfl ?_
    refine iq_icmp_le hS 14 J_MScriptRows_isFar_d11 (t := 18) rfl (fun q11 => ?_) rfl (fun q11 => ?_)
    · replace h := ed_pos q11 h
      refine iq_iconst hS 19 J_MScriptRows_isFar_d18 (v := 0) (by decide +kernel) rfl ?_
      exact iq_iret J_MScriptRows_isFar_d19 rfl rfl ⟨_, rfl, rfl, ed_some h⟩
    · replace h := ed_neg q11 h
      exact J1  _  (hk1  h)
noncomputable def f_MScriptRows_give_L210 (v25 : Int32) (v26 : Int32) (v27 : Int32) (x28 : Int32) (M29 : im_M) : Option ((Int32 × im_M) ⊕ (im_M)) := if v27 ≤ x28 then some (.inr M29) else bd1 (if ¬ v25 = 7 then gd (inb (v26 + x28) 200) <| some (im_i M29 85 (Int32.toNatClampNeg (v26 + x28))) else gd (inb ((2 : Int32) * x28) 200) <| bd1 (f_MScriptRows_hex (im_i M29 85 (Int32.toNatClampNeg ((2 : Int32) * x28))) M29) fun (x31 : Int32) => gd (inb (((2 : Int32) * x28) + 1) 200) <| bd1 (f_MScriptRows_hex (im_i M29 85 (Int32.toNatClampNeg (((2 : Int32) * x28) + 1))) M29) fun (x32 : Int32) => some (((16 : Int32) * x31) + x32)) fun (y33 : Int32) => gd (inb (((200 : Int32) * (im_i M29 71 37)) + x28) 24000) <| some (.inl ((x28 + 1), (im_setI M29 88 (Int32.toNatClampNeg (((200 : Int32) * (im_i M29 71 37)) + x28)) y33)))
noncomputable def f_MScriptRows_give (p0 : Int32) (p1 : Int32) (p2 : Int32) (p3 : Int32) (p4 : Int32) (p5 : Int32) (p6 : Int32) (M : im_M) : Option (im_M) := gd (inb (((16 : Int32) * p0) + 5) 2000) <| bd1 (f_MScriptRows_stepX (im_i M 82 (Int32.toNatClampNeg (((16 : Int32) * p0) + 5))) p3 p4 p2 M) fun (x1 : Int32) => gd (inb (((16 : Int32) * p0) + 6) 2000) <| bd1 (f_MScriptRows_stepY (im_i M 82 (Int32.toNatClampNeg (((16 : Int32) * p0) + 6))) p3 p4 p2 M) fun (x2 : Int32) => bd1 (jn0 (fun (_ : Unit) => some 1) fun k4 => if ¬ (im_i M 71 32) = 0 then k4 () else bd1 (f_MScriptRows_isFar x1 M) fun (x5 : Int32) => if ¬ x5 = 0 then k4 () else bd1 (f_MScriptRows_isFar x2 M) fun (x6 : Int32) => if x6 = 0 then some 0 else k4 ()) fun (y15 : Int32) => gd (y15 = 0 ∨ y15 = 1) <| if ¬ (im_i (im_setI (im_setI M 71 32 y15) 71 26 ((im_i (im_setI M 71 32 y15) 71 26) + 1)) 71 33) = 0 then gd (inb ((9 : Int32) * (im_i (im_setI (im_setI M 71 32 y15) 71 26 ((im_i (im_setI M 71 32 y15) 71 26) + 1)) 71 37)) 1080) <| gd (inb (((9 : Int32) * (im_i (im_setI (im_setI M 71 32 y15) 71 26 ((im_i (im_setI M 71 32 y15) 71 26) + 1)) 71 37)) + 1) 1080) <| gd (inb (((9 : Int32) * (im_i (im_setI (im_setI M 71 32 y15) 71 26 ((im_i (im_setI M 71 32 y15) 71 26) + 1)) 71 37)) + 2) 1080) <| gd (inb (((9 : Int32) * (im_i (im_setI (im_setI M 71 32 y15) 71 26 ((im_i (im_setI M 71 32 y15) 71 26) + 1)) 71 37)) + 3) 1080) <| gd (inb (((16 : Int32) * p0) + 7) 2000) <| gd (inb (((9 : Int32) * (im_i (im_setI (im_setI M 71 32 y15) 71 26 ((im_i (im_setI M 71 32 y15) 71 26) + 1)) 71 37)) + 4) 1080) <| gd (inb (((9 : Int32) * (im_i (im_setI (im_setI M 71 32 y15) 71 26 ((im_i (im_setI M 71 32 y15) 71 26) + 1)) 71 37)) + 5) 1080) <| gd (inb (((9 : Int32) * (im_i (im_setI (im_setI M 71 32 y15) 71 26 ((im_i (im_setI M 71 32 y15) 71 26) + 1)) 71 37)) + 6) 1080) <| gd (inb (((9 : Int32) * (im_i (im_setI (im_setI M 71 32 y15) 71 26 ((im_i (im_setI M 71 32 y15) 71 26) + 1)) 71 37)) + 7) 1080) <| gd (inb (((9 : Int32) * (im_i (im_setI (im_setI M 71 32 y15) 71 26 ((im_i (im_setI M 71 32 y15) 71 26) + 1)) 71 37)) + 8) 1080) <| bd1 (lp (uc2 (f_MScriptRows_give_L210 p1 p5 p6)) (0, (im_setI (im_setI (im_setI (im_setI (im_setI (im_setI (im_setI (im_setI (im_setI (im_setI (im_setI M 71 32 y15) 71 26 ((im_i (im_setI M 71 32 y15) 71 26) + 1)) 87 (Int32.toNatClampNeg ((9 : Int32) * (im_i (im_setI (im_setI M 71 32 y15) 71 26 ((im_i (im_setI M 71 32 y15) 71 26) + 1)) 71 37))) p1) 87 (Int32.toNatClampNeg (((9 : Int32) * (im_i (im_setI (im_setI M 71 32 y15) 71 26 ((im_i (im_setI M 71 32 y15) 71 26) + 1)) 71 37)) + 1)) x1) 87 (Int32.toNatClampNeg (((9 : Int32) * (im_i (im_setI (im_setI M 71 32 y15) 71 26 ((im_i (im_setI M 71 32 y15) 71 26) + 1)) 71 37)) + 2)) x2) 87 (Int32.toNatClampNeg (((9 : Int32) * (im_i (im_setI (im_setI M 71 32 y15) 71 26 ((im_i (im_setI M 71 32 y15) 71 26) + 1)) 71 37)) + 3)) p2) 87 (Int32.toNatClampNeg (((9 : Int32) * (im_i (im_setI (im_setI M 71 32 y15) 71 26 ((im_i (im_setI M 71 32 y15) 71 26) + 1)) 71 37)) + 4)) (im_i (im_setI (im_setI (im_setI (im_setI (im_setI (im_setI M 71 32 y15) 71 26 ((im_i (im_setI M 71 32 y15) 71 26) + 1)) 87 (Int32.toNatClampNeg ((9 : Int32) * (im_i (im_setI (im_setI M 71 32 y15) 71 26 ((im_i (im_setI M 71 32 y15) 71 26) + 1)) 71 37))) p1) 87 (Int32.toNatClampNeg (((9 : Int32) * (im_i (im_setI (im_setI M 71 32 y15) 71 26 ((im_i (im_setI M 71 32 y15) 71 26) + 1)) 71 37)) + 1)) x1) 87 (Int32.toNatClampNeg (((9 : Int32) * (im_i (im_setI (im_setI M 71 32 y15) 71 26 ((im_i (im_setI M 71 32 y15) 71 26) + 1)) 71 37)) + 2)) x2) 87 (Int32.toNatClampNeg (((9 : Int32) * (im_i (im_setI (im_setI M 71 32 y15) 71 26 ((im_i (im_setI M 71 32 y15) 71 26) + 1)) 71 37)) + 3)) p2) 82 (Int32.toNatClampNeg (((16 : Int32) * p0) + 7)))) 87 (Int32.toNatClampNeg (((9 : Int32) * (im_i (im_setI (im_setI M 71 32 y15) 71 26 ((im_i (im_setI M 71 32 y15) 71 26) + 1)) 71 37)) + 5)) 0) 87 (Int32.toNatClampNeg (((9 : Int32) * (im_i (im_setI (im_setI M 71 32 y15) 71 26 ((im_i (im_setI M 71 32 y15) 71 26) + 1)) 71 37)) + 6)) 0) 87 (Int32.toNatClampNeg (((9 : Int32) * (im_i (im_setI (im_setI M 71 32 y15) 71 26 ((im_i (im_setI M 71 32 y15) 71 26) + 1)) 71 37)) + 7)) 0) 87 (Int32.toNatClampNeg (((9 : Int32) * (im_i (im_setI (im_setI M 71 32 y15) 71 26 ((im_i (im_setI M 71 32 y15) 71 26) + 1)) 71 37)) + 8)) p6))) fun (M39 : im_M) => some (im_setI M39 71 37 ((im_i M39 71 37) + 1)) else some (im_setI (im_setI M 71 32 y15) 71 26 ((im_i (im_setI M 71 32 y15) 71 26) + 1))
theorem J_MScriptRows_give_d0 : decode J_MScriptRows_give.2.1 0 = .ok (.aload_n 0, 1) := by decide +kernel
theorem J_MScriptRows_give_d1 : decode J_MScriptRows_give.2.1 1 = .ok (.getfield 44, 3) := by decide +kernel
theorem J_MScriptRows_give_d4 : decode J_MScriptRows_give.2.1 4 = .ok (.bipush 16, 2) := by decide +kernel
theorem J_MScriptRows_give_d6 : decode J_MScriptRows_give.2.1 6 = .ok (.iload_n 1, 1) := by decide +kernel
theorem J_MScriptRows_give_d7 : decode J_MScriptRows_give.2.1 7 = .ok (.imul, 1) := by decide +kernel
theorem J_MScriptRows_give_d8 : decode J_MScriptRows_give.2.1 8 = .ok (.iconst 5, 1) := by decide +kernel
theorem J_MScriptRows_give_d9 : decode J_MScriptRows_give.2.1 9 = .ok (.iadd, 1) := by decide +kernel
theorem J_MScriptRows_give_d10 : decode J_MScriptRows_give.2.1 10 = .ok (.iaload, 1) := by decide +kernel
theorem J_MScriptRows_give_d11 : decode J_MScriptRows_give.2.1 11 = .ok (.iload 4, 2) := by decide +kernel
theorem J_MScriptRows_give_d13 : decode J_MScriptRows_give.2.1 13 = .ok (.iload 5, 2) := by decide +kernel
theorem J_MScriptRows_give_d15 : decode J_MScriptRows_give.2.1 15 = .ok (.iload_n 3, 1) := by decide +kernel
theorem J_MScriptRows_give_d16 : decode J_MScriptRows_give.2.1 16 = .ok (.invokestatic 145, 3) := by decide +kernel
theorem J_MScriptRows_give_d19 : decode J_MScriptRows_give.2.1 19 = .ok (.istore 8, 2) := by decide +kernel
theorem J_MScriptRows_give_d21 : decode J_MScriptRows_give.2.1 21 = .ok (.aload_n 0, 1) := by decide +kernel
theorem J_MScriptRows_give_d22 : decode J_MScriptRows_give.2.1 22 = .ok (.getfield 44, 3) := by decide +kernel
theorem J_MScriptRows_give_d25 : decode J_MScriptRows_give.2.1 25 = .ok (.bipush 16, 2) := by decide +kernel
theorem J_MScriptRows_give_d27 : decode J_MScriptRows_give.2.1 27 = .ok (.iload_n 1, 1) := by decide +kernel
theorem J_MScriptRows_give_d28 : decode J_MScriptRows_give.2.1 28 = .ok (.imul, 1) := by decide +kernel
theorem J_MScriptRows_give_d29 : decode J_MScriptRows_give.2.1 29 = .ok (.bipush 6, 2) := by decide +kernel
theorem J_MScriptRows_give_d31 : decode J_MScriptRows_give.2.1 31 = .ok (.iadd, 1) := by decide +kernel
theorem J_MScriptRows_give_d32 : decode J_MScriptRows_give.2.1 32 = .ok (.iaload, 1) := by decide +kernel
theorem J_MScriptRows_give_d33 : decode J_MScriptRows_give.2.1 33 = .ok (.iload 4, 2) := by decide +kernel
theorem J_MScriptRows_give_d35 : decode J_MScriptRows_give.2.1 35 = .ok (.iload 5, 2) := by decide +kernel
theorem J_MScriptRows_give_d37 : decode J_MScriptRows_give.2.1 37 = .ok (.iload_n 3, 1) := by decide +kernel
theorem J_MScriptRows_give_d38 : decode J_MScriptRows_give.2.1 38 = .ok (.invokestatic 149, 3) := by decide +kernel
theorem J_MScriptRows_give_d41 : decode J_MScriptRows_give.2.1 41 = .ok (.istore 9, 2) := by decide +kernel
theorem J_MScriptRows_give_d43 : decode J_MScriptRows_give.2.1 43 = .ok (.aload_n 0, 1) := by decide +kernel
theorem J_MScriptRows_give_d44 : decode J_MScriptRows_give.2.1 44 = .ok (.aload_n 0, 1) := by decide +kernel
theorem J_MScriptRows_give_d45 : decode J_MScriptRows_give.2.1 45 = .ok (.getfield 132, 3) := by decide +kernel
theorem J_MScriptRows_give_d48 : decode J_MScriptRows_give.2.1 48 = .ok (.ifCond .ne 19, 3) := by decide +kernel
theorem J_MScriptRows_give_d51 : decode J_MScriptRows_give.2.1 51 = .ok (.iload 8, 2) := by decide +kernel
theorem J_MScriptRows_give_d53 : decode J_MScriptRows_give.2.1 53 = .ok (.invokestatic 152, 3) := by decide +kernel
theorem J_MScriptRows_give_d56 : decode J_MScriptRows_give.2.1 56 = .ok (.ifCond .ne 11, 3) := by decide +kernel
theorem J_MScriptRows_give_d59 : decode J_MScriptRows_give.2.1 59 = .ok (.iload 9, 2) := by decide +kernel
theorem J_MScriptRows_give_d61 : decode J_MScriptRows_give.2.1 61 = .ok (.invokestatic 152, 3) := by decide +kernel
theorem J_MScriptRows_give_d64 : decode J_MScriptRows_give.2.1 64 = .ok (.ifCond .eq 7, 3) := by decide +kernel
theorem J_MScriptRows_give_d67 : decode J_MScriptRows_give.2.1 67 = .ok (.iconst 1, 1) := by decide +kernel
theorem J_MScriptRows_give_d68 : decode J_MScriptRows_give.2.1 68 = .ok (.goto 4, 3) := by decide +kernel
theorem J_MScriptRows_give_d71 : decode J_MScriptRows_give.2.1 71 = .ok (.iconst 0, 1) := by decide +kernel
theorem J_MScriptRows_give_d72 : decode J_MScriptRows_give.2.1 72 = .ok (.putfield 132, 3) := by decide +kernel
theorem J_MScriptRows_give_d75 : decode J_MScriptRows_give.2.1 75 = .ok (.aload_n 0, 1) := by decide +kernel
theorem J_MScriptRows_give_d76 : decode J_MScriptRows_give.2.1 76 = .ok (.dup, 1) := by decide +kernel
theorem J_MScriptRows_give_d77 : decode J_MScriptRows_give.2.1 77 = .ok (.getfield 123, 3) := by decide +kernel
theorem J_MScriptRows_give_d80 : decode J_MScriptRows_give.2.1 80 = .ok (.iconst 1, 1) := by decide +kernel
theorem J_MScriptRows_give_d81 : decode J_MScriptRows_give.2.1 81 = .ok (.iadd, 1) := by decide +kernel
theorem J_MScriptRows_give_d82 : decode J_MScriptRows_give.2.1 82 = .ok (.putfield 123, 3) := by decide +kernel
theorem J_MScriptRows_give_d85 : decode J_MScriptRows_give.2.1 85 = .ok (.aload_n 0, 1) := by decide +kernel
theorem J_MScriptRows_give_d86 : decode J_MScriptRows_give.2.1 86 = .ok (.getfield 136, 3) := by decide +kernel
theorem J_MScriptRows_give_d89 : decode J_MScriptRows_give.2.1 89 = .ok (.ifCond .ne 4, 3) := by decide +kernel
theorem J_MScriptRows_give_d92 : decode J_MScriptRows_give.2.1 92 = .ok (.return_, 1) := by decide +kernel
theorem J_MScriptRows_give_d93 : decode J_MScriptRows_give.2.1 93 = .ok (.bipush 9, 2) := by decide +kernel
theorem J_MScriptRows_give_d95 : decode J_MScriptRows_give.2.1 95 = .ok (.aload_n 0, 1) := by decide +kernel
theorem J_MScriptRows_give_d96 : decode J_MScriptRows_give.2.1 96 = .ok (.getfield 155, 3) := by decide +kernel
theorem J_MScriptRows_give_d99 : decode J_MScriptRows_give.2.1 99 = .ok (.imul, 1) := by decide +kernel
theorem J_MScriptRows_give_d100 : decode J_MScriptRows_give.2.1 100 = .ok (.istore 10, 2) := by decide +kernel
theorem J_MScriptRows_give_d102 : decode J_MScriptRows_give.2.1 102 = .ok (.aload_n 0, 1) := by decide +kernel
theorem J_MScriptRows_give_d103 : decode J_MScriptRows_give.2.1 103 = .ok (.getfield 59, 3) := by decide +kernel
theorem J_MScriptRows_give_d106 : decode J_MScriptRows_give.2.1 106 = .ok (.iload 10, 2) := by decide +kernel
theorem J_MScriptRows_give_d108 : decode J_MScriptRows_give.2.1 108 = .ok (.iload_n 2, 1) := by decide +kernel
theorem J_MScriptRows_give_d109 : decode J_MScriptRows_give.2.1 109 = .ok (.iastore, 1) := by decide +kernel
theorem J_MScriptRows_give_d110 : decode J_MScriptRows_give.2.1 110 = .ok (.aload_n 0, 1) := by decide +kernel
theorem J_MScriptRows_give_d111 : decode J_MScriptRows_give.2.1 111 = .ok (.getfield 59, 3) := by decide +kernel
theorem J_MScriptRows_give_d114 : decode J_MScriptRows_give.2.1 114 = .ok (.iload 10, 2) := by decide +kernel
theorem J_MScriptRows_give_d116 : decode J_MScriptRows_give.2.1 116 = .ok (.iconst 1, 1) := by decide +kernel
theorem J_MScriptRows_give_d117 : decode J_MScriptRows_give.2.1 117 = .ok (.iadd, 1) := by decide +kernel
theorem J_MScriptRows_give_d118 : decode J_MScriptRows_give.2.1 118 = .ok (.iload 8, 2) := by decide +kernel
theorem J_MScriptRows_give_d120 : decode J_MScriptRows_give.2.1 120 = .ok (.iastore, 1) := by decide +kernel
theorem J_MScriptRows_give_d121 : decode J_MScriptRows_give.2.1 121 = .ok (.aload_n 0, 1) := by decide +kernel
theorem J_MScriptRows_give_d122 : decode J_MScriptRows_give.2.1 122 = .ok (.getfield 59, 3) := by decide +kernel
theorem J_MScriptRows_give_d125 : decode J_MScriptRows_give.2.1 125 = .ok (.iload 10, 2) := by decide +kernel
theorem J_MScriptRows_give_d127 : decode J_MScriptRows_give.2.1 127 = .ok (.iconst 2, 1) := by decide +kernel
theorem J_MScriptRows_give_d128 : decode J_MScriptRows_give.2.1 128 = .ok (.iadd, 1) := by decide +kernel
theorem J_MScriptRows_give_d129 : decode J_MScriptRows_give.2.1 129 = .ok (.iload 9, 2) := by decide +kernel
theorem J_MScriptRows_give_d131 : decode J_MScriptRows_give.2.1 131 = .ok (.iastore, 1) := by decide +kernel
theorem J_MScriptRows_give_d132 : decode J_MScriptRows_give.2.1 132 = .ok (.aload_n 0, 1) := by decide +kernel
theorem J_MScriptRows_give_d133 : decode J_MScriptRows_give.2.1 133 = .ok (.getfield 59, 3) := by decide +kernel
theorem J_MScriptRows_give_d136 : decode J_MScriptRows_give.2.1 136 = .ok (.iload 10, 2) := by decide +kernel
theorem J_MScriptRows_give_d138 : decode J_MScriptRows_give.2.1 138 = .ok (.iconst 3, 1) := by decide +kernel
theorem J_MScriptRows_give_d139 : decode J_MScriptRows_give.2.1 139 = .ok (.iadd, 1) := by decide +kernel
theorem J_MScriptRows_give_d140 : decode J_MScriptRows_give.2.1 140 = .ok (.iload_n 3, 1) := by decide +kernel
theorem J_MScriptRows_give_d141 : decode J_MScriptRows_give.2.1 141 = .ok (.iastore, 1) := by decide +kernel
theorem J_MScriptRows_give_d142 : decode J_MScriptRows_give.2.1 142 = .ok (.aload_n 0, 1) := by decide +kernel
theorem J_MScriptRows_give_d143 : decode J_MScriptRows_give.2.1 143 = .ok (.getfield 59, 3) := by decide +kernel
theorem J_MScriptRows_give_d146 : decode J_MScriptRows_give.2.1 146 = .ok (.iload 10, 2) := by decide +kernel
theorem J_MScriptRows_give_d148 : decode J_MScriptRows_give.2.1 148 = .ok (.iconst 4, 1) := by decide +kernel
theorem J_MScriptRows_give_d149 : decode J_MScriptRows_give.2.1 149 = .ok (.iadd, 1) := by decide +kernel
theorem J_MScriptRows_give_d150 : decode J_MScriptRows_give.2.1 150 = .ok (.aload_n 0, 1) := by decide +kernel
theorem J_MScriptRows_give_d151 : decode J_MScriptRows_give.2.1 151 = .ok (.getfield 44, 3) := by decide +kernel
theorem J_MScriptRows_give_d154 : decode J_MScriptRows_give.2.1 154 = .ok (.bipush 16, 2) := by decide +kernel
theorem J_MScriptRows_give_d156 : decode J_MScriptRows_give.2.1 156 = .ok (.iload_n 1, 1) := by decide +kernel
theorem J_MScriptRows_give_d157 : decode J_MScriptRows_give.2.1 157 = .ok (.imul, 1) := by decide +kernel
theorem J_MScriptRows_give_d158 : decode J_MScriptRows_give.2.1 158 = .ok (.bipush 7, 2) := by decide +kernel
theorem J_MScriptRows_give_d160 : decode J_MScriptRows_give.2.1 160 = .ok (.iadd, 1) := by decide +kernel
theorem J_MScriptRows_give_d161 : decode J_MScriptRows_give.2.1 161 = .ok (.iaload, 1) := by decide +kernel
theorem J_MScriptRows_give_d162 : decode J_MScriptRows_give.2.1 162 = .ok (.iastore, 1) := by decide +kernel
theorem J_MScriptRows_give_d163 : decode J_MScriptRows_give.2.1 163 = .ok (.aload_n 0, 1) := by decide +kernel
theorem J_MScriptRows_give_d164 : decode J_MScriptRows_give.2.1 164 = .ok (.getfield 59, 3) := by decide +kernel
theorem J_MScriptRows_give_d167 : decode J_MScriptRows_give.2.1 167 = .ok (.iload 10, 2) := by decide +kernel
theorem J_MScriptRows_give_d169 : decode J_MScriptRows_give.2.1 169 = .ok (.iconst 5, 1) := by decide +kernel
theorem J_MScriptRows_give_d170 : decode J_MScriptRows_give.2.1 170 = .ok (.iadd, 1) := by decide +kernel
theorem J_MScriptRows_give_d171 : decode J_MScriptRows_give.2.1 171 = .ok (.iconst 0, 1) := by decide +kernel
theorem J_MScriptRows_give_d172 : decode J_MScriptRows_give.2.1 172 = .ok (.iastore, 1) := by decide +kernel
theorem J_MScriptRows_give_d173 : decode J_MScriptRows_give.2.1 173 = .ok (.aload_n 0, 1) := by decide +kernel
theorem J_MScriptRows_give_d174 : decode J_MScriptRows_give.2.1 174 = .ok (.getfield 59, 3) := by decide +kernel
theorem J_MScriptRows_give_d177 : decode J_MScriptRows_give.2.1 177 = .ok (.iload 10, 2) := by decide +kernel
theorem J_MScriptRows_give_d179 : decode J_MScriptRows_give.2.1 179 = .ok (.bipush 6, 2) := by decide +kernel
theorem J_MScriptRows_give_d181 : decode J_MScriptRows_give.2.1 181 = .ok (.iadd, 1) := by decide +kernel
theorem J_MScriptRows_give_d182 : decode J_MScriptRows_give.2.1 182 = .ok (.iconst 0, 1) := by decide +kernel
theorem J_MScriptRows_give_d183 : decode J_MScriptRows_give.2.1 183 = .ok (.iastore, 1) := by decide +kernel
theorem J_MScriptRows_give_d184 : decode J_MScriptRows_give.2.1 184 = .ok (.aload_n 0, 1) := by decide +kernel
theorem J_MScriptRows_give_d185 : decode J_MScriptRows_give.2.1 185 = .ok (.getfield 59, 3) := by decide +kernel
theorem J_MScriptRows_give_d188 : decode J_MScriptRows_give.2.1 188 = .ok (.iload 10, 2) := by decide +kernel
theorem J_MScriptRows_give_d190 : decode J_MScriptRows_give.2.1 190 = .ok (.bipush 7, 2) := by decide +kernel
theorem J_MScriptRows_give_d192 : decode J_MScriptRows_give.2.1 192 = .ok (.iadd, 1) := by decide +kernel
theorem J_MScriptRows_give_d193 : decode J_MScriptRows_give.2.1 193 = .ok (.iconst 0, 1) := by decide +kernel
theorem J_MScriptRows_give_d194 : decode J_MScriptRows_give.2.1 194 = .ok (.iastore, 1) := by decide +kernel
theorem J_MScriptRows_give_d195 : decode J_MScriptRows_give.2.1 195 = .ok (.aload_n 0, 1) := by decide +kernel
theorem J_MScriptRows_give_d196 : decode J_MScriptRows_give.2.1 196 = .ok (.getfield 59, 3) := by decide +kernel
theorem J_MScriptRows_give_d199 : decode J_MScriptRows_give.2.1 199 = .ok (.iload 10, 2) := by decide +kernel
theorem J_MScriptRows_give_d201 : decode J_MScriptRows_give.2.1 201 = .ok (.bipush 8, 2) := by decide +kernel
theorem J_MScriptRows_give_d203 : decode J_MScriptRows_give.2.1 203 = .ok (.iadd, 1) := by decide +kernel
theorem J_MScriptRows_give_d204 : decode J_MScriptRows_give.2.1 204 = .ok (.iload 7, 2) := by decide +kernel
theorem J_MScriptRows_give_d206 : decode J_MScriptRows_give.2.1 206 = .ok (.iastore, 1) := by decide +kernel
theorem J_MScriptRows_give_d207 : decode J_MScriptRows_give.2.1 207 = .ok (.iconst 0, 1) := by decide +kernel
theorem J_MScriptRows_give_d208 : decode J_MScriptRows_give.2.1 208 = .ok (.istore 11, 2) := by decide +kernel
theorem J_MScriptRows_give_d210 : decode J_MScriptRows_give.2.1 210 = .ok (.iload 11, 2) := by decide +kernel
theorem J_MScriptRows_give_d212 : decode J_MScriptRows_give.2.1 212 = .ok (.iload 7, 2) := by decide +kernel
theorem J_MScriptRows_give_d214 : decode J_MScriptRows_give.2.1 214 = .ok (.if_icmp .ge 74, 3) := by decide +kernel
theorem J_MScriptRows_give_d217 : decode J_MScriptRows_give.2.1 217 = .ok (.aload_n 0, 1) := by decide +kernel
theorem J_MScriptRows_give_d218 : decode J_MScriptRows_give.2.1 218 = .ok (.getfield 62, 3) := by decide +kernel
theorem J_MScriptRows_give_d221 : decode J_MScriptRows_give.2.1 221 = .ok (.sipush 200, 3) := by decide +kernel
theorem J_MScriptRows_give_d224 : decode J_MScriptRows_give.2.1 224 = .ok (.aload_n 0, 1) := by decide +kernel
theorem J_MScriptRows_give_d225 : decode J_MScriptRows_give.2.1 225 = .ok (.getfield 155, 3) := by decide +kernel
theorem J_MScriptRows_give_d228 : decode J_MScriptRows_give.2.1 228 = .ok (.imul, 1) := by decide +kernel
theorem J_MScriptRows_give_d229 : decode J_MScriptRows_give.2.1 229 = .ok (.iload 11, 2) := by decide +kernel
theorem J_MScriptRows_give_d231 : decode J_MScriptRows_give.2.1 231 = .ok (.iadd, 1) := by decide +kernel
theorem J_MScriptRows_give_d232 : decode J_MScriptRows_give.2.1 232 = .ok (.iload_n 2, 1) := by decide +kernel
theorem J_MScriptRows_give_d233 : decode J_MScriptRows_give.2.1 233 = .ok (.bipush 7, 2) := by decide +kernel
theorem J_MScriptRows_give_d235 : decode J_MScriptRows_give.2.1 235 = .ok (.if_icmp .ne 36, 3) := by decide +kernel
theorem J_MScriptRows_give_d238 : decode J_MScriptRows_give.2.1 238 = .ok (.bipush 16, 2) := by decide +kernel
theorem J_MScriptRows_give_d240 : decode J_MScriptRows_give.2.1 240 = .ok (.aload_n 0, 1) := by decide +kernel
theorem J_MScriptRows_give_d241 : decode J_MScriptRows_give.2.1 241 = .ok (.getfield 53, 3) := by decide +kernel
theorem J_MScriptRows_give_d244 : decode J_MScriptRows_give.2.1 244 = .ok (.iconst 2, 1) := by decide +kernel
theorem J_MScriptRows_give_d245 : decode J_MScriptRows_give.2.1 245 = .ok (.iload 11, 2) := by decide +kernel
theorem J_MScriptRows_give_d247 : decode J_MScriptRows_give.2.1 247 = .ok (.imul, 1) := by decide +kernel
theorem J_MScriptRows_give_d248 : decode J_MScriptRows_give.2.1 248 = .ok (.iaload, 1) := by decide +kernel
theorem J_MScriptRows_give_d249 : decode J_MScriptRows_give.2.1 249 = .ok (.invokestatic 104, 3) := by decide +kernel
theorem J_MScriptRows_give_d252 : decode J_MScriptRows_give.2.1 252 = .ok (.imul, 1) := by decide +kernel
theorem J_MScriptRows_give_d253 : decode J_MScriptRows_give.2.1 253 = .ok (.aload_n 0, 1) := by decide +kernel
theorem J_MScriptRows_give_d254 : decode J_MScriptRows_give.2.1 254 = .ok (.getfield 53, 3) := by decide +kernel
theorem J_MScriptRows_give_d257 : decode J_MScriptRows_give.2.1 257 = .ok (.iconst 2, 1) := by decide +kernel
theorem J_MScriptRows_give_d258 : decode J_MScriptRows_give.2.1 258 = .ok (.iload 11, 2) := by decide +kernel
theorem J_MScriptRows_give_d260 : decode J_MScriptRows_give.2.1 260 = .ok (.imul, 1) := by decide +kernel
theorem J_MScriptRows_give_d261 : decode J_MScriptRows_give.2.1 261 = .ok (.iconst 1, 1) := by decide +kernel
theorem J_MScriptRows_give_d262 : decode J_MScriptRows_give.2.1 262 = .ok (.iadd, 1) := by decide +kernel
theorem J_MScriptRows_give_d263 : decode J_MScriptRows_give.2.1 263 = .ok (.iaload, 1) := by decide +kernel
theorem J_MScriptRows_give_d264 : decode J_MScriptRows_give.2.1 264 = .ok (.invokestatic 104, 3) := by decide +kernel
theorem J_MScriptRows_give_d267 : decode J_MScriptRows_give.2.1 267 = .ok (.iadd, 1) := by decide +kernel
theorem J_MScriptRows_give_d268 : decode J_MScriptRows_give.2.1 268 = .ok (.goto 13, 3) := by decide +kernel
theorem J_MScriptRows_give_d271 : decode J_MScriptRows_give.2.1 271 = .ok (.aload_n 0, 1) := by decide +kernel
theorem J_MScriptRows_give_d272 : decode J_MScriptRows_give.2.1 272 = .ok (.getfield 53, 3) := by decide +kernel
theorem J_MScriptRows_give_d275 : decode J_MScriptRows_give.2.1 275 = .ok (.iload 6, 2) := by decide +kernel
theorem J_MScriptRows_give_d277 : decode J_MScriptRows_give.2.1 277 = .ok (.iload 11, 2) := by decide +kernel
theorem J_MScriptRows_give_d279 : decode J_MScriptRows_give.2.1 279 = .ok (.iadd, 1) := by decide +kernel
theorem J_MScriptRows_give_d280 : decode J_MScriptRows_give.2.1 280 = .ok (.iaload, 1) := by decide +kernel
theorem J_MScriptRows_give_d281 : decode J_MScriptRows_give.2.1 281 = .ok (.iastore, 1) := by decide +kernel
theorem J_MScriptRows_give_d282 : decode J_MScriptRows_give.2.1 282 = .ok (.iinc 11 1, 3) := by decide +kernel
theorem J_MScriptRows_give_d285 : decode J_MScriptRows_give.2.1 285 = .ok (.goto (-75), 3) := by decide +kernel
theorem J_MScriptRows_give_d288 : decode J_MScriptRows_give.2.1 288 = .ok (.aload_n 0, 1) := by decide +kernel
theorem J_MScriptRows_give_d289 : decode J_MScriptRows_give.2.1 289 = .ok (.dup, 1) := by decide +kernel
theorem J_MScriptRows_give_d290 : decode J_MScriptRows_give.2.1 290 = .ok (.getfield 155, 3) := by decide +kernel
theorem J_MScriptRows_give_d293 : decode J_MScriptRows_give.2.1 293 = .ok (.iconst 1, 1) := by decide +kernel
theorem J_MScriptRows_give_d294 : decode J_MScriptRows_give.2.1 294 = .ok (.iadd, 1) := by decide +kernel
theorem J_MScriptRows_give_d295 : decode J_MScriptRows_give.2.1 295 = .ok (.putfield 155, 3) := by decide +kernel
theorem J_MScriptRows_give_d298 : decode J_MScriptRows_give.2.1 298 = .ok (.return_, 1) := by decide +kernel
theorem f_MScriptRows_give_ok {L : Nat} {xs : Nat → Int32} {dep : Nat} {w : Bool} {p0 : Int32} {p1 : Int32} {p2 : Int32} {p3 : Int32} {p4 : Int32} {p5 : Int32} {p6 : Int32} {M : im_M} {Q : im_M → Prop} (hM : lw_S w M) (h : ed (f_MScriptRows_give p0 p1 p2 p3 p4 p5 p6 M) Q) : ia (tb_G L xs) (dep + 2) J_MScriptRows_give (rwV w Q) (0, lv_args 0 [.ref 71, .int p0, .int p1, .int p2, .int p3, .int p4, .int p5, .int p6], [], M) := by
  have hS : im_St (tb_G L xs) (dep + 2) J_MScriptRows_give (ia (tb_G L xs) (dep + 2) J_MScriptRows_give (rwV w Q)) := ia_St
  unfold f_MScriptRows_give at h
  have l0 : im_lk (lv_args 0 [.ref 71, .int p0, .int p1, .int p2, .int p3, .int p4, .int p5, .int p6]) 0 = some (.ref 71) := rfl
  have l1 : im_lk (lv_args 0 [.ref 71, .int p0, .int p1, .int p2, .int p3, .int p4, .int p5, .int p6]) 1 = some (.int p0) := rfl
  have l2 : im_lk (lv_args 0 [.ref 71, .int p0, .int p1, .int p2, .int p3, .int p4, .int p5, .int p6]) 2 = some (.int p1) := rfl
  have l3 : im_lk (lv_args 0 [.ref 71, .int p0, .int p1, .int p2, .int p3, .int p4, .int p5, .int p6]) 3 = some (.int p2) := rfl
  have l4 : im_lk (lv_args 0 [.ref 71, .int p0, .int p1, .int p2, .int p3, .int p4, .int p5, .int p6]) 4 = some (.int p3) := rfl
  have l5 : im_lk (lv_args 0 [.ref 71, .int p0, .int p1, .int p2, .int p3, .int p4, .int p5, .int p6]) 5 = some (.int p4) := rfl
  have l6 : im_lk (lv_args 0 [.ref 71, .int p0, .int p1, .int p2, .int p3, .int p4, .int p5, .int p6]) 6 = some (.int p5) := rfl
  have l7 : im_lk (lv_args 0 [.ref 71, .int p0, .int p1, .int p2, .int p3, .int p4, .int p5, .int p6]) 7 = some (.int p6) := rfl
  refine iq_aload_n hS 1 J_MScriptRows_give_d0 l0 rfl ?_
  refine iq_getR hS 4 J_MScriptRows_give_d1 lf_15_44 (Or.inr ⟨_, rfl⟩) (ka_71 hM) (ra_71_28 hM) rfl ?_
  refine iq_bipush hS 6 J_MScriptRows_give_d4 (v := 16) (by decide +kernel) rfl ?_
  refine iq_iload_n hS 7 J_MScriptRows_give_d6 l1 rfl ?_
  refine iq_imul hS 8 J_MScriptRows_give_d7 rfl ?_
  refine iq_iconst hS 9 J_MScriptRows_give_d8 (v := 5) (by decide +kernel) rfl ?_
  refine iq_iadd hS 10 J_MScriptRows_give_d9 rfl ?_
  obtain ⟨g10, h⟩ := ed_gd h
  refine iq_iaload hS 11 J_MScriptRows_give_d10 ⟨(ka_82 hM).1, (ka_82 hM).2, g10.1, ix_lt (kl_82 hM) g10.2⟩ rfl ?_
  refine iq_iload hS 13 J_MScriptRows_give_d11 l4 rfl ?_
  refine iq_iload hS 15 J_MScriptRows_give_d13 l5 rfl ?_
  refine iq_iload_n hS 16 J_MScriptRows_give_d15 l3 rfl ?_
  obtain ⟨Q1, hQ1, h⟩ := bd1_ed h
  refine iq_cpI hS 19 J_MScriptRows_give_d16 rfl (pr_stat (vs := [_, _, _, _]) lc_15_145 lT_303 rfl rfl (by decide) rfl (Nat.le_of_ble_eq_true rfl) (Nat.le_of_ble_eq_true rfl)) (f_MScriptRows_stepX_ok (dep := dep + 1) hM h) rfl ?_
  intro x1 h
  replace h := hQ1 _ h
  refine iq_istore hS 21 J_MScriptRows_give_d19 (by decide) rfl ?_
  refine iq_aload_n hS 22 J_MScriptRows_give_d21 (lk_1r l0 (by decide)) rfl ?_
  refine iq_getR hS 25 J_MScriptRows_give_d22 lf_15_44 (Or.inr ⟨_, rfl⟩) (ka_71 hM) (ra_71_28 hM) rfl ?_
  refine iq_bipush hS 27 J_MScriptRows_give_d25 (v := 16) (by decide +kernel) rfl ?_
  refine iq_iload_n hS 28 J_MScriptRows_give_d27 (lk_1i l1 (by decide)) rfl ?_
  refine iq_imul hS 29 J_MScriptRows_give_d28 rfl ?_
  refine iq_bipush hS 31 J_MScriptRows_give_d29 (v := 6) (by decide +kernel) rfl ?_
  refine iq_iadd hS 32 J_MScriptRows_give_d31 rfl ?_
  obtain ⟨g32, h⟩ := ed_gd h
  refine iq_iaload hS 33 J_MScriptRows_give_d32 ⟨(ka_82 hM).1, (ka_82 hM).2, g32.1, ix_lt (kl_82 hM) g32.2⟩ rfl ?_
  refine iq_iload hS 35 J_MScriptRows_give_d33 (lk_1i l4 (by decide)) rfl ?_
  refine iq_iload hS 37 J_MScriptRows_give_d35 (lk_1i l5 (by decide)) rfl ?_
  refine iq_iload_n hS 38 J_MScriptRows_give_d37 (lk_1i l3 (by decide)) rfl ?_
  obtain ⟨Q2, hQ2, h⟩ := bd1_ed h
  refine iq_cpI hS 41 J_MScriptRows_give_d38 rfl (pr_stat (vs := [_, _, _, _]) lc_15_149 lT_304 rfl rfl (by decide) rfl (Nat.le_of_ble_eq_true rfl) (Nat.le_of_ble_eq_true rfl)) (f_MScriptRows_stepY_ok (dep := dep + 1) hM h) rfl ?_
  intro x2 h
  replace h := hQ2 _ h
  refine iq_istore hS 43 J_MScriptRows_give_d41 (by decide) rfl ?_
  refine iq_aload_n hS 44 J_MScriptRows_give_d43 (lk_1r (lk_1r l0 (by decide)) (by decide)) rfl ?_
  refine iq_aload_n hS 45 J_MScriptRows_give_d44 (lk_1r (lk_1r l0 (by decide)) (by decide)) rfl ?_
  refine iq_getI hS 48 J_MScriptRows_give_d45 lf_15_132 (Or.inr rfl) (ka_71 hM) rfl ?_
  obtain ⟨Q3, hQ3, h⟩ := bd1_ed h
  have J3 : ∀ (y15 : Int32) (L' : List (Nat × Value)), im_lk L' 0 = some (.ref 71) → im_lk L' 1 = some (.int p0) → im_lk L' 2 = some (.int p1) → im_lk L' 3 = some (.int p2) → im_lk L' 6 = some (.int p5) → im_lk L' 7 = some (.int p6) → im_lk L' 8 = some (.int x1) → im_lk L' 9 = some (.int x2) → Q3 y15 → ia (tb_G L xs) (dep + 2) J_MScriptRows_give (rwV w Q) (72, L', [.int y15, .ref 71], M) := by
    intro y15 L' l16 l17 l18 l19 l20 l21 l22 l23 h
    replace h := hQ3 _ h
    obtain ⟨g72, h⟩ := ed_gd h
    refine iq_putZ hS 75 J_MScriptRows_give_d72 lf_15_132 (Or.inl rfl) rfl (ka_71 hM) g72 rfl ?_
    refine iq_aload_n hS 76 J_MScriptRows_give_d75 l16 rfl ?_
    refine iq_dup hS 77 J_MScriptRows_give_d76 rfl rfl ?_
    refine iq_getI hS 80 J_MScriptRows_give_d77 lf_15_123 (Or.inl rfl) (ka_71 (lw_sI hM)) rfl ?_
    refine iq_iconst hS 81 J_MScriptRows_give_d80 (v := 1) (by decide +kernel) rfl ?_
    refine iq_iadd hS 82 J_MScriptRows_give_d81 rfl ?_
    refine iq_putI hS 85 J_MScriptRows_give_d82 lf_15_123 (Or.inl rfl) rfl (ka_71 (lw_sI hM)) rfl ?_
    refine iq_aload_n hS 86 J_MScriptRows_give_d85 l16 rfl ?_
    refine iq_getI hS 89 J_MScriptRows_give_d86 lf_15_136 (Or.inr rfl) (ka_71 (lw_sI (lw_sI hM))) rfl ?_
    refine iq_if_ne hS 92 J_MScriptRows_give_d89 (t := 93) rfl (fun q89 => ?_) rfl (fun q89 => ?_)
    · replace h := ed_pos q89 h
      refine iq_bipush hS 95 J_MScriptRows_give_d93 (v := 9) (by decide +kernel) rfl ?_
      refine iq_aload_n hS 96 J_MScriptRows_give_d95 l16 rfl ?_
      refine iq_getI hS 99 J_MScriptRows_give_d96 lf_15_155 (Or.inl rfl) (ka_71 (lw_sI (lw_sI hM))) rfl ?_
      refine iq_imul hS 100 J_MScriptRows_give_d99 rfl ?_
      refine iq_istore hS 102 J_MScriptRows_give_d100 (by decide) rfl ?_
      refine iq_aload_n hS 103 J_MScriptRows_give_d102 (lk_1r l16 (by decide)) rfl ?_
      refine iq_getR hS 106 J_MScriptRows_give_d103 lf_15_59 (Or.inr ⟨_, rfl⟩) (ka_71 (lw_sI (lw_sI hM))) (ra_71_38 (lw_sI (lw_sI hM))) rfl ?_
      refine iq_iload hS 108 J_MScriptRows_give_d106 lk_1s rfl ?_
      refine iq_iload_n hS 109 J_MScriptRows_give_d108 (lk_1i l18 (by decide)) rfl ?_
      obtain ⟨g109, h⟩ := ed_gd h
      refine iq_iastore hS 110 J_MScriptRows_give_d109 ⟨(ka_87 (lw_sI (lw_sI hM))).1, (ka_87 (lw_sI (lw_sI hM))).2, g109.1, ix_lt (kl_87 (lw_sI (lw_sI hM))) g109.2⟩ rfl ?_
      refine iq_aload_n hS 111 J_MScriptRows_give_d110 (lk_1r l16 (by decide)) rfl ?_
      refine iq_getR hS 114 J_MScriptRows_give_d111 lf_15_59 (Or.inr ⟨_, rfl⟩) (ka_71 (lw_sI (lw_sI (lw_sI hM)))) (ra_71_38 (lw_sI (lw_sI (lw_sI hM)))) rfl ?_
      refine iq_iload hS 116 J_MScriptRows_give_d114 lk_1s rfl ?_
      refine iq_iconst hS 117 J_MScriptRows_give_d116 (v := 1) (by decide +kernel) rfl ?_
      refine iq_iadd hS 118 J_MScriptRows_give_d117 rfl ?_
      refine iq_iload hS 120 J_MScriptRows_give_d118 (lk_1i l22 (by decide)) rfl ?_
      obtain ⟨g120, h⟩ := ed_gd h
      refine iq_iastore hS 121 J_MScriptRows_give_d120 ⟨(ka_87 (lw_sI (lw_sI (lw_sI hM)))).1, (ka_87 (lw_sI (lw_sI (lw_sI hM)))).2, g120.1, ix_lt (kl_87 (lw_sI (lw_sI (lw_sI hM)))) g120.2⟩ rfl ?_
      refine iq_aload_n hS 122 J_MScriptRows_give_d121 (lk_1r l16 (by decide)) rfl ?_
      refine iq_getR hS 125 J_MScriptRows_give_d122 lf_15_59 (Or.inr ⟨_, rfl⟩) (ka_71 (lw_sI (lw_sI (lw_sI (lw_sI hM))))) (ra_71_38 (lw_sI (lw_sI (lw_sI (lw_sI hM))))) rfl ?_
      refine iq_iload hS 127 J_MScriptRows_give_d125 lk_1s rfl ?_
      refine iq_iconst hS 128 J_MScriptRows_give_d127 (v := 2) (by decide +kernel) rfl ?_
      refine iq_iadd hS 129 J_MScriptRows_give_d128 rfl ?_
      refine iq_iload hS 131 J_MScriptRows_give_d129 (lk_1i l23 (by decide)) rfl ?_
      obtain ⟨g131, h⟩ := ed_gd h
      refine iq_iastore hS 132 J_MScriptRows_give_d131 ⟨(ka_87 (lw_sI (lw_sI (lw_sI (lw_sI hM))))).1, (ka_87 (lw_sI (lw_sI (lw_sI (lw_sI hM))))).2, g131.1, ix_lt (kl_87 (lw_sI (lw_sI (lw_sI (lw_sI hM))))) g131.2⟩ rfl ?_
      refine iq_aload_n hS 133 J_MScriptRows_give_d132 (lk_1r l16 (by decide)) rfl ?_
      refine iq_getR hS 136 J_MScriptRows_give_d133 lf_15_59 (Or.inr ⟨_, rfl⟩) (ka_71 (lw_sI (lw_sI (lw_sI (lw_sI (lw_sI hM)))))) (ra_71_38 (lw_sI (lw_sI (lw_sI (lw_sI (lw_sI hM)))))) rfl ?_
      refine iq_iload hS 138 J_MScriptRows_give_d136 lk_1s rfl ?_
      refine iq_iconst hS 139 J_MScriptRows_give_d138 (v := 3) (by decide +kernel) rfl ?_
      refine iq_iadd hS 140 J_MScriptRows_give_d139 rfl ?_
      refine iq_iload_n hS 141 J_MScriptRows_give_d140 (lk_1i l19 (by decide)) rfl ?_
      obtain ⟨g141, h⟩ := ed_gd h
      refine iq_iastore hS 142 J_MScriptRows_give_d141 ⟨(ka_87 (lw_sI (lw_sI (lw_sI (lw_sI (lw_sI hM)))))).1, (ka_87 (lw_sI (lw_sI (lw_sI (lw_sI (lw_sI hM)))))).2, g141.1, ix_lt (kl_87 (lw_sI (lw_sI (lw_sI (lw_sI (lw_sI hM)))))) g141.2⟩ rfl ?_
      refine iq_aload_n hS 143 J_MScriptRows_give_d142 (lk_1r l16 (by decide)) rfl ?_
      refine iq_getR hS 146 J_MScriptRows_give_d143 lf_15_59 (Or.inr ⟨_, rfl⟩) (ka_71 (lw_sI (lw_sI (lw_sI (lw_sI (lw_sI (lw_sI hM))))))) (ra_71_38 (lw_sI (lw_sI (lw_sI (lw_sI (lw_sI (lw_sI hM))))))) rfl ?_
      refine iq_iload hS 148 J_MScriptRows_give_d146 lk_1s rfl ?_
      refine iq_iconst hS 149 J_MScriptRows_give_d148 (v := 4) (by decide +kernel) rfl ?_
      refine iq_iadd hS 150 J_MScriptRows_give_d149 rfl ?_
      refine iq_aload_n hS 151 J_MScriptRows_give_d150 (lk_1r l16 (by decide)) rfl ?_
      refine iq_getR hS 154 J_MScriptRows_give_d151 lf_15_44 (Or.inr ⟨_, rfl⟩) (ka_71 (lw_sI (lw_sI (lw_sI (lw_sI (lw_sI (lw_sI hM))))))) (ra_71_28 (lw_sI (lw_sI (lw_sI (lw_sI (lw_sI (lw_sI hM))))))) rfl ?_
      refine iq_bipush hS 156 J_MScriptRows_give_d154 (v := 16) (by decide +kernel) rfl ?_
      refine iq_iload_n hS 157 J_MScriptRows_give_d156 (lk_1i l17 (by decide)) rfl ?_
      refine iq_imul hS 158 J_MScriptRows_give_d157 rfl ?_
      refine iq_bipush hS 160 J_MScriptRows_give_d158 (v := 7) (by decide +kernel) rfl ?_
      refine iq_iadd hS 161 J_MScriptRows_give_d160 rfl ?_
      obtain ⟨g161, h⟩ := ed_gd h
      refine iq_iaload hS 162 J_MScriptRows_give_d161 ⟨(ka_82 (lw_sI (lw_sI (lw_sI (lw_sI (lw_sI (lw_sI hM))))))).1, (ka_82 (lw_sI (lw_sI (lw_sI (lw_sI (lw_sI (lw_sI hM))))))).2, g161.1, ix_lt (kl_82 (lw_sI (lw_sI (lw_sI (lw_sI (lw_sI (lw_sI hM))))))) g161.2⟩ rfl ?_
      obtain ⟨g162, h⟩ := ed_gd h
      refine iq_iastore hS 163 J_MScriptRows_give_d162 ⟨(ka_87 (lw_sI (lw_sI (lw_sI (lw_sI (lw_sI (lw_sI hM))))))).1, (ka_87 (lw_sI (lw_sI (lw_sI (lw_sI (lw_sI (lw_sI hM))))))).2, g162.1, ix_lt (kl_87 (lw_sI (lw_sI (lw_sI (lw_sI (lw_sI (lw_sI hM))))))) g162.2⟩ rfl ?_
      refine iq_aload_n hS 164 J_MScriptRows_give_d163 (lk_1r l16 (by decide)) rfl ?_
      refine iq_getR hS 167 J_MScriptRows_give_d164 lf_15_59 (Or.inr ⟨_, rfl⟩) (ka_71 (lw_sI (lw_sI (lw_sI (lw_sI (lw_sI (lw_sI (lw_sI hM)))))))) (ra_71_38 (lw_sI (lw_sI (lw_sI (lw_sI (lw_sI (lw_sI (lw_sI hM)))))))) rfl ?_
      refine iq_iload hS 169 J_MScriptRows_give_d167 lk_1s rfl ?_
      refine iq_iconst hS 170 J_MScriptRows_give_d169 (v := 5) (by decide +kernel) rfl ?_
      refine iq_iadd hS 171 J_MScriptRows_give_d170 rfl ?_
      refine iq_iconst hS 172 J_MScriptRows_give_d171 (v := 0) (by decide +kernel) rfl ?_
      obtain ⟨g172, h⟩ := ed_gd h
      refine iq_iastore hS 173 J_MScriptRows_give_d172 ⟨(ka_87 (lw_sI (lw_sI (lw_sI (lw_sI (lw_sI (lw_sI (lw_sI hM)))))))).1, (ka_87 (lw_sI (lw_sI (lw_sI (lw_sI (lw_sI (lw_sI (lw_sI hM)))))))).2, g172.1, ix_lt (kl_87 (lw_sI (lw_sI (lw_sI (lw_sI (lw_sI (lw_sI (lw_sI hM)))))))) g172.2⟩ rfl ?_
      refine iq_aload_n hS 174 J_MScriptRows_give_d173 (lk_1r l16 (by decide)) rfl ?_
      refine iq_getR hS 177 J_MScriptRows_give_d174 lf_15_59 (Or.inr ⟨_, rfl⟩) (ka_71 (lw_sI (lw_sI (lw_sI (lw_sI (lw_sI (lw_sI (lw_sI (lw_sI hM))))))))) (ra_71_38 (lw_sI (lw_sI (lw_sI (lw_sI (lw_sI (lw_sI (lw_sI (lw_sI hM))))))))) rfl ?_
      refine iq_iload hS 179 J_MScriptRows_give_d177 lk_1s rfl ?_
      refine iq_bipush hS 181 J_MScriptRows_give_d179 (v := 6) (by decide +kernel) rfl ?_
      refine iq_iadd hS 182 J_MScriptRows_give_d181 rfl ?_
      refine iq_iconst hS 183 J_MScriptRows_give_d182 (v := 0) (by decide +kernel) rfl ?_
      obtain ⟨g183, h⟩ := ed_gd h
      refine iq_iastore hS 184 J_MScriptRows_give_d183 ⟨(ka_87 (lw_sI (lw_sI (lw_sI (lw_sI (lw_sI (lw_sI (lw_sI (lw_sI hM))))))))).1, (ka_87 (lw_sI (lw_sI (lw_sI (lw_sI (lw_sI (lw_sI (lw_sI (lw_sI hM))))))))).2, g183.1, ix_lt (kl_87 (lw_sI (lw_sI (lw_sI (lw_sI (lw_sI (lw_sI (lw_sI (lw_sI hM))))))))) g183.2⟩ rfl ?_
      refine iq_aload_n hS 185 J_MScriptRows_give_d184 (lk_1r l16 (by decide)) rfl ?_
      refine iq_getR hS 188 J_MScriptRows_give_d185 lf_15_59 (Or.inr ⟨_, rfl⟩) (ka_71 (lw_sI (lw_sI (lw_sI (lw_sI (lw_sI (lw_sI (lw_sI (lw_sI (lw_sI hM)))))))))) (ra_71_38 (lw_sI (lw_sI (lw_sI (lw_sI (lw_sI (lw_sI (lw_sI (lw_sI (lw_sI hM)))))))))) rfl ?_
      refine iq_iload hS 190 J_MScriptRows_give_d188 lk_1s rfl ?_
      refine iq_bipush hS 192 J_MScriptRows_give_d190 (v := 7) (by decide +kernel) rfl ?_
      refine iq_iadd hS 193 J_MScriptRows_give_d192 rfl ?_
      refine iq_iconst hS 194 J_MScriptRows_give_d193 (v := 0) (by decide +kernel) rfl ?_
      obtain ⟨g194, h⟩ := ed_gd h
      refine iq_iastore hS 195 J_MScriptRows_give_d194 ⟨(ka_87 (lw_sI (lw_sI (lw_sI (lw_sI (lw_sI (lw_sI (lw_sI (lw_sI (lw_sI hM)))))))))).1, (ka_87 (lw_sI (lw_sI (lw_sI (lw_sI (lw_sI (lw_sI (lw_sI (lw_sI (lw_sI hM)))))))))).2, g194.1, ix_lt (kl_87 (lw_sI (lw_sI (lw_sI (lw_sI (lw_sI (lw_sI (lw_sI (lw_sI (lw_sI hM)))))))))) g194.2⟩ rfl ?_
      refine iq_aload_n hS 196 J_MScriptRows_give_d195 (lk_1r l16 (by decide)) rfl ?_
      refine iq_getR hS 199 J_MScriptRows_give_d196 lf_15_59 (Or.inr ⟨_, rfl⟩) (ka_71 (lw_sI (lw_sI (lw_sI (lw_sI (lw_sI (lw_sI (lw_sI (lw_sI (lw_sI (lw_sI hM))))))))))) (ra_71_38 (lw_sI (lw_sI (lw_sI (lw_sI (lw_sI (lw_sI (lw_sI (lw_sI (lw_sI (lw_sI hM))))))))))) rfl ?_
      refine iq_iload hS 201 J_MScriptRows_give_d199 lk_1s rfl ?_
      refine iq_bipush hS 203 J_MScriptRows_give_d201 (v := 8) (by decide +kernel) rfl ?_
      refine iq_iadd hS 204 J_MScriptRows_give_d203 rfl ?_
      refine iq_iload hS 206 J_MScriptRows_give_d204 (lk_1i l21 (by decide)) rfl ?_
      obtain ⟨g206, h⟩ := ed_gd h
      refine iq_iastore hS 207 J_MScriptRows_give_d206 ⟨(ka_87 (lw_sI (lw_sI (lw_sI (lw_sI (lw_sI (lw_sI (lw_sI (lw_sI (lw_sI (lw_sI hM))))))))))).1, (ka_87 (lw_sI (lw_sI (lw_sI (lw_sI (lw_sI (lw_sI (lw_sI (lw_sI (lw_sI (lw_sI hM))))))))))).2, g206.1, ix_lt (kl_87 (lw_sI (lw_sI (lw_sI (lw_sI (lw_sI (lw_sI (lw_sI (lw_sI (lw_sI (lw_sI hM))))))))))) g206.2⟩ rfl ?_
      refine iq_iconst hS 208 J_MScriptRows_give_d207 (v := 0) (by decide +kernel) rfl ?_
      refine iq_istore hS 210 J_MScriptRows_give_d208 (by decide) rfl ?_
      obtain ⟨Q24, hQ24, h⟩ := bd1_ed h
      have K24 : ∀ (M25 : im_M) (L' : List (Nat × Value)), lw_S w M25 → im_lk L' 0 = some (.ref 71) → Q24 M25 → ia (tb_G L xs) (dep + 2) J_MScriptRows_give (rwV w Q) (288, L', [], M25) := by
        intro M25 L' hM25 l26 h
        replace h := hQ24 _ h
        refine iq_aload_n hS 289 J_MScriptRows_give_d288 l26 rfl ?_
        refine iq_dup hS 290 J_MScriptRows_give_d289 rfl rfl ?_
        refine iq_getI hS 293 J_MScriptRows_give_d290 lf_15_155 (Or.inl rfl) (ka_71 hM25) rfl ?_
        refine iq_iconst hS 294 J_MScriptRows_give_d293 (v := 1) (by decide +kernel) rfl ?_
        refine iq_iadd hS 295 J_MScriptRows_give_d294 rfl ?_
        refine iq_putI hS 298 J_MScriptRows_give_d295 lf_15_155 (Or.inl rfl) rfl (ka_71 hM25) rfl ?_
        exact iq_ret J_MScriptRows_give_d298 rfl ⟨rfl, (lw_sI hM25), ed_some h⟩
      obtain ⟨r24, hr24, hq24⟩ := h
      obtain ⟨n24, hn24⟩ := lp_n hr24
      have I24 : ∀ (n : Nat) (x27 : Int32) (M28 : im_M) (L' : List (Nat × Value)), lw_S w M28 → im_lk L' 0 = some (.ref 71) → im_lk L' 2 = some (.int p1) → im_lk L' 6 = some (.int p5) → im_lk L' 7 = some (.int p6) → im_lk L' 11 = some (.int x27) → lpn (uc2 (f_MScriptRows_give_L210 p1 p5 p6)) n (x27, M28) = some r24 → ia (tb_G L xs) (dep + 2) J_MScriptRows_give (rwV w Q) (210, L', [], M28) := by
        intro n
        induction n with
        | zero => intro x27 M28 L' hM28 l29 l30 l31 l32 l33 hn; exact (lpn_0 hn).elim
        | succ n ih =>
          intro x27 M28 L' hM28 l29 l30 l31 l32 l33 hn
          have h := lpn_ed2 hn
          unfold f_MScriptRows_give_L210 at h
          refine iq_iload hS 212 J_MScriptRows_give_d210 l33 rfl ?_
          refine iq_iload hS 214 J_MScriptRows_give_d212 l32 rfl ?_
          refine iq_icmp_ge hS 217 J_MScriptRows_give_d214 (t := 288) rfl (fun q214 => ?_) rfl (fun q214 => ?_)
          · replace h := ed_pos q214 h
            exact K24 _ _ hM28 l29 (lq_r h hq24)
          · replace h := ed_neg q214 h
            refine iq_aload_n hS 218 J_MScriptRows_give_d217 l29 rfl ?_
            refine iq_getR hS 221 J_MScriptRows_give_d218 lf_15_62 (Or.inr ⟨_, rfl⟩) (ka_71 hM28) (ra_71_39 hM28) rfl ?_
            refine iq_sipush hS 224 J_MScriptRows_give_d221 (v := 200) (by decide +kernel) rfl ?_
            refine iq_aload_n hS 225 J_MScriptRows_give_d224 l29 rfl ?_
            refine iq_getI hS 228 J_MScriptRows_give_d225 lf_15_155 (Or.inl rfl) (ka_71 hM28) rfl ?_
            refine iq_imul hS 229 J_MScriptRows_give_d228 rfl ?_
            refine iq_iload hS 231 J_MScriptRows_give_d229 l33 rfl ?_
            refine iq_iadd hS 232 J_MScriptRows_give_d231 rfl ?_
            refine iq_iload_n hS 233 J_MScriptRows_give_d232 l30 rfl ?_
            refine iq_bipush hS 235 J_MScriptRows_give_d233 (v := 7) (by decide +kernel) rfl ?_
            obtain ⟨Q34, hQ34, h⟩ := bd1_ed h
            have J34 : ∀ (y37 : Int32) (L' : List (Nat × Value)), im_lk L' 0 = some (.ref 71) → im_lk L' 2 = some (.int p1) → im_lk L' 6 = some (.int p5) → im_lk L' 7 = some (.int p6) → im_lk L' 11 = some (.int x27) → Q34 y37 → ia (tb_G L xs) (dep + 2) J_MScriptRows_give (rwV w Q) (281, L', [.int y37, .int (((200 : Int32) * (im_i M28 71 37)) + x27), .ref 88], M28) := by
              intro y37 L' l38 l39 l40 l41 l42 h
              replace h := hQ34 _ h
              obtain ⟨g281, h⟩ := ed_gd h
              refine iq_iastore hS 282 J_MScriptRows_give_d281 ⟨(ka_88 hM28).1, (ka_88 hM28).2, g281.1, ix_lt (kl_88 hM28) g281.2⟩ rfl ?_
              refine iq_iincv hS 285 J_MScriptRows_give_d282 (c := 1) (by decide +kernel) l42 (by decide) rfl ?_
              refine iq_goto hS J_MScriptRows_give_d285 (t := 210) rfl ?_
              exact ih _ _ _ (lw_sI hM28) (lk_1r l38 (by decide)) (lk_1i l39 (by decide)) (lk_1i l40 (by decide)) (lk_1i l41 (by decide)) lk_1s (lq_l h)
            refine iq_icmp_ne hS 238 J_MScriptRows_give_d235 (t := 271) rfl (fun q235 => ?_) rfl (fun q235 => ?_)
            · replace h := ed_pos q235 h
              refine iq_aload_n hS 272 J_MScriptRows_give_d271 l29 rfl ?_
              refine iq_getR hS 275 J_MScriptRows_give_d272 lf_15_53 (Or.inr ⟨_, rfl⟩) (ka_71 hM28) (ra_71_31 hM28) rfl ?_
              refine iq_iload hS 277 J_MScriptRows_give_d275 l31 rfl ?_
              refine iq_iload hS 279 J_MScriptRows_give_d277 l33 rfl ?_
              refine iq_iadd hS 280 J_MScriptRows_give_d279 rfl ?_
              obtain ⟨g280, h⟩ := ed_gd h
              refine iq_iaload hS 281 J_MScriptRows_give_d280 ⟨(ka_85 hM28).1, (ka_85 hM28).2, g280.1, ix_lt (kl_85 hM28) g280.2⟩ rfl ?_
              exact J34 _ _ l29 l30 l31 l32 l33 (ed_some h)
            · replace h := ed_neg q235 h
              refine iq_bipush hS 240 J_MScriptRows_give_d238 (v := 16) (by decide +kernel) rfl ?_
              refine iq_aload_n hS 241 J_MScriptRows_give_d240 l29 rfl ?_
              refine iq_getR hS 244 J_MScriptRows_give_d241 lf_15_53 (Or.inr ⟨_, rfl⟩) (ka_71 hM28) (ra_71_31 hM28) rfl ?_
              refine iq_iconst hS 245 J_MScriptRows_give_d244 (v := 2) (by decide +kernel) rfl ?_
              refine iq_iload hS 247 J_MScriptRows_give_d245 l33 rfl ?_
              refine iq_imul hS 248 J_MScriptRows_give_d247 rfl ?_
              obtain ⟨g248, h⟩ := ed_gd h
              refine iq_iaload hS 249 J_MScriptRows_give_d248 ⟨(ka_85 hM28).1, (ka_85 hM28).2, g248.1, ix_lt (kl_85 hM28) g248.2⟩ rfl ?_
              obtain ⟨Q35, hQ35, h⟩ := bd1_ed h
              refine iq_cpI hS 252 J_MScriptRows_give_d249 rfl (pr_stat (vs := [_]) lc_15_104 lT_294 rfl rfl (by decide) rfl (Nat.le_of_ble_eq_true rfl) (Nat.le_of_ble_eq_true rfl)) (f_MScriptRows_hex_ok (dep := dep + 0) hM28 h) rfl ?_
              intro x35 h
              replace h := hQ35 _ h
              refine iq_imul hS 253 J_MScriptRows_give_d252 rfl ?_
              refine iq_aload_n hS 254 J_MScriptRows_give_d253 l29 rfl ?_
              refine iq_getR hS 257 J_MScriptRows_give_d254 lf_15_53 (Or.inr ⟨_, rfl⟩) (ka_71 hM28) (ra_71_31 hM28) rfl ?_
              refine iq_iconst hS 258 J_MScriptRows_give_d257 (v := 2) (by decide +kernel) rfl ?_
              refine iq_iload hS 260 J_MScriptRows_give_d258 l33 rfl ?_
              refine iq_imul hS 261 J_MScriptRows_give_d260 rfl ?_
              refine iq_iconst hS 262 J_MScriptRows_give_d261 (v := 1) (by decide +kernel) rfl ?_
              refine iq_iadd hS 263 J_MScriptRows_give_d262 rfl ?_
              obtain ⟨g263, h⟩ := ed_gd h
              refine iq_iaload hS 264 J_MScriptRows_give_d263 ⟨(ka_85 hM28).1, (ka_85 hM28).2, g263.1, ix_lt (kl_85 hM28) g263.2⟩ rfl ?_
              obtain ⟨Q36, hQ36, h⟩ := bd1_ed h
              refine iq_cpI hS 267 J_MScriptRows_give_d264 rfl (pr_stat (vs := [_]) lc_15_104 lT_294 rfl rfl (by decide) rfl (Nat.le_of_ble_eq_true rfl) (Nat.le_of_ble_eq_true rfl)) (f_MScriptRows_hex_ok (dep := dep + 0) hM28 h) rfl ?_
              intro x36 h
              replace h := hQ36 _ h
              refine iq_iadd hS 268 J_MScriptRows_give_d267 rfl ?_
              refine iq_goto hS J_MScriptRows_give_d268 (t := 281) rfl ?_
              exact J34 _ _ l29 l30 l31 l32 l33 (ed_some h)
      exact I24 n24 _ _ _ (lw_sI (lw_sI (lw_sI (lw_sI (lw_sI (lw_sI (lw_sI (lw_sI (lw_sI (lw_sI (lw_sI hM))))))))))) (lk_1r (lk_1r l16 (by decide)) (by decide)) (lk_1i (lk_1i l18 (by decide)) (by decide)) (lk_1i (lk_1i l20 (by decide)) (by decide)) (lk_1i (lk_1i l21 (by decide)) (by decide)) lk_1s hn24
    · replace h := ed_neg q89 h
      exact iq_ret J_MScriptRows_give_d92 rfl ⟨rfl, (lw_sI (lw_sI hM)), ed_some h⟩
  obtain ⟨k4, Q4, hQ4, hk4, h⟩ := jn0_ed h
  have J4 : ∀  (L' : List (Nat × Value)), im_lk L' 0 = some (.ref 71) → im_lk L' 1 = some (.int p0) → im_lk L' 2 = some (.int p1) → im_lk L' 3 = some (.int p2) → im_lk L' 6 = some (.int p5) → im_lk L' 7 = some (.int p6) → im_lk L' 8 = some (.int x1) → im_lk L' 9 = some (.int x2) → Q4 () → ia (tb_G L xs) (dep + 2) J_MScriptRows_give (rwV w Q) (67, L', [.ref 71], M) := by
    intro  L' l7 l8 l9 l10 l11 l12 l13 l14 h
    replace h := hQ4  h
    refine iq_iconst hS 68 J_MScriptRows_give_d67 (v := 1) (by decide +kernel) rfl ?_
    refine iq_goto hS J_MScriptRows_give_d68 (t := 72) rfl ?_
    exact J3 _ _ l7 l8 l9 l10 l11 l12 l13 l14 (ed_some h)
  refine iq_if_ne hS 51 J_MScriptRows_give_d48 (t := 67) rfl (fun q48 => ?_) rfl (fun q48 => ?_)
  · replace h := ed_pos q48 h
    exact J4  _ (lk_1r (lk_1r l0 (by decide)) (by decide)) (lk_1i (lk_1i l1 (by decide)) (by decide)) (lk_1i (lk_1i l2 (by decide)) (by decide)) (lk_1i (lk_1i l3 (by decide)) (by decide)) (lk_1i (lk_1i l6 (by decide)) (by decide)) (lk_1i (lk_1i l7 (by decide)) (by decide)) (lk_1i lk_1s (by decide)) lk_1s (hk4  h)
  · replace h := ed_neg q48 h
    refine iq_iload hS 53 J_MScriptRows_give_d51 (lk_1i lk_1s (by decide)) rfl ?_
    obtain ⟨Q5, hQ5, h⟩ := bd1_ed h
    refine iq_cpI hS 56 J_MScriptRows_give_d53 rfl (pr_stat (vs := [_]) lc_15_152 lT_305 rfl rfl (by decide) rfl (Nat.le_of_ble_eq_true rfl) (Nat.le_of_ble_eq_true rfl)) (f_MScriptRows_isFar_ok (dep := dep + 1) hM h) rfl ?_
    intro x5 h
    replace h := hQ5 _ h
    refine iq_if_ne hS 59 J_MScriptRows_give_d56 (t := 67) rfl (fun q56 => ?_) rfl (fun q56 => ?_)
    · replace h := ed_pos q56 h
      exact J4  _ (lk_1r (lk_1r l0 (by decide)) (by decide)) (lk_1i (lk_1i l1 (by decide)) (by decide)) (lk_1i (lk_1i l2 (by decide)) (by decide)) (lk_1i (lk_1i l3 (by decide)) (by decide)) (lk_1i (lk_1i l6 (by decide)) (by decide)) (lk_1i (lk_1i l7 (by decide)) (by decide)) (lk_1i lk_1s (by decide)) lk_1s (hk4  h)
    · replace h := ed_neg q56 h
      refine iq_iload hS 61 J_MScriptRows_give_d59 lk_1s rfl ?_
      obtain ⟨Q6, hQ6, h⟩ := bd1_ed h
      refine iq_cpI hS 64 J_MScriptRows_give_d61 rfl (pr_stat (vs := [_]) lc_15_152 lT_305 rfl rfl (by decide) rfl (Nat.le_of_ble_eq_true rfl) (Nat.le_of_ble_eq_true rfl)) (f_MScriptRows_isFar_ok (dep := dep + 1) hM h) rfl ?_
      intro x6 h
      replace h := hQ6 _ h
      refine iq_if_eq hS 67 J_MScriptRows_give_d64 (t := 71) rfl (fun q64 => ?_) rfl (fun q64 => ?_)
      · replace h := ed_pos q64 h
        refine iq_iconst hS 72 J_MScriptRows_give_d71 (v := 0) (by decide +kernel) rfl ?_
        exact J3 _ _ (lk_1r (lk_1r l0 (by decide)) (by decide)) (lk_1i (lk_1i l1 (by decide)) (by decide)) (lk_1i (lk_1i l2 (by decide)) (by decide)) (lk_1i (lk_1i l3 (by decide)) (by decide)) (lk_1i (lk_1i l6 (by decide)) (by decide)) (lk_1i (lk_1i l7 (by decide)) (by decide)) (lk_1i lk_1s (by decide)) lk_1s (ed_some h)
      · replace h := ed_neg q64 h
        exact J4  _ (lk_1r (lk_1r l0 (by decide)) (by decide)) (lk_1i (lk_1i l1 (by decide)) (by decide)) (lk_1i (lk_1i l2 (by decide)) (by decide)) (lk_1i (lk_1i l3 (by decide)) (by decide)) (lk_1i (lk_1i l6 (by decide)) (by decide)) (lk_1i (lk_1i l7 (by decide)) (by decide)) (lk_1i lk_1s (by decide)) lk_1s (hk4  h)
theorem f_MScriptRows_give_fr {p0 : Int32} {p1 : Int32} {p2 : Int32} {p3 : Int32} {p4 : Int32} {p5 : Int32} {p6 : Int32} {M : im_M} {r : im_M} (h : f_MScriptRows_give p0 p1 p2 p3 p4 p5 p6 M = some r) : fr 464227514732017603087171584 [(71, 26), (71, 32), (71, 37)] M r := by
  replace h : ed (f_MScriptRows_give p0 p1 p2 p3 p4 p5 p6 M) (fun x => x = r) := ⟨r, h, rfl⟩
  unfold f_MScriptRows_give at h
  obtain ⟨g10, h⟩ := ed_gd h
  obtain ⟨Q1, hQ1, h⟩ := bd1_ed h
  obtain ⟨x1, e1, h⟩ := h
  replace h := hQ1 _ h
  obtain ⟨g32, h⟩ := ed_gd h
  obtain ⟨Q2, hQ2, h⟩ := bd1_ed h
  obtain ⟨x2, e2, h⟩ := h
  replace h := hQ2 _ h
  obtain ⟨Q3, hQ3, h⟩ := bd1_ed h
  have J3 : ∀ (y15 : Int32), Q3 y15 → fr 464227514732017603087171584 [(71, 26), (71, 32), (71, 37)] M r := by
    intro y15 h
    replace h := hQ3 _ h
    obtain ⟨g72, h⟩ := ed_gd h
    by_cases q89 : ¬ (im_i (im_setI (im_setI M 71 32 y15) 71 26 ((im_i (im_setI M 71 32 y15) 71 26) + 1)) 71 33) = 0
    · replace h := ed_pos q89 h
      obtain ⟨g109, h⟩ := ed_gd h
      obtain ⟨g120, h⟩ := ed_gd h
      obtain ⟨g131, h⟩ := ed_gd h
      obtain ⟨g141, h⟩ := ed_gd h
      obtain ⟨g161, h⟩ := ed_gd h
      obtain ⟨g162, h⟩ := ed_gd h
      obtain ⟨g172, h⟩ := ed_gd h
      obtain ⟨g183, h⟩ := ed_gd h
      obtain ⟨g194, h⟩ := ed_gd h
      obtain ⟨g206, h⟩ := ed_gd h
      obtain ⟨Q24, hQ24, h⟩ := bd1_ed h
      have K24 : ∀ (M25 : im_M), fr 464227514732017603087171584 [(71, 26), (71, 32), (71, 37)] M M25 → Q24 M25 → fr 464227514732017603087171584 [(71, 26), (71, 32), (71, 37)] M r := by
        intro M25 hM25 h
        replace h := hQ24 _ h
        exact fr_retV h (fr_F (by decide) hM25)
      obtain ⟨r24, hr24, hq24⟩ := h
      obtain ⟨n24, hn24⟩ := lp_n hr24
      have I24 : ∀ (n : Nat) (x26 : Int32) (M27 : im_M), fr 464227514732017603087171584 [(71, 26), (71, 32), (71, 37)] M M27 → lpn (uc2 (f_MScriptRows_give_L210 p1 p5 p6)) n (x26, M27) = some r24 → fr 464227514732017603087171584 [(71, 26), (71, 32), (71, 37)] M r := by
        intro n
        induction n with
        | zero => intro x26 M27 hM27 hn; exact (lpn_0 hn).elim
        | succ n ih =>
          intro x26 M27 hM27 hn
          have h := lpn_ed2 hn
          unfold f_MScriptRows_give_L210 at h
          by_cases q214 : p6 ≤ x26
          · replace h := ed_pos q214 h
            exact K24 _ hM27 (lq_r h hq24)
          · replace h := ed_neg q214 h
            obtain ⟨Q28, hQ28, h⟩ := bd1_ed h
            have J28 : ∀ (y31 : Int32), Q28 y31 → fr 464227514732017603087171584 [(71, 26), (71, 32), (71, 37)] M r := by
              intro y31 h
              replace h := hQ28 _ h
              obtain ⟨g281, h⟩ := ed_gd h
              exact ih _ _ (fr_I (by decide) hM27) (lq_l h)
            by_cases q235 : ¬ p1 = 7
            · replace h := ed_pos q235 h
              obtain ⟨g280, h⟩ := ed_gd h
              exact J28 _ (ed_some h)
            · replace h := ed_neg q235 h
              obtain ⟨g248, h⟩ := ed_gd h
              obtain ⟨Q29, hQ29, h⟩ := bd1_ed h
              obtain ⟨x29, e29, h⟩ := h
              replace h := hQ29 _ h
              obtain ⟨g263, h⟩ := ed_gd h
              obtain ⟨Q30, hQ30, h⟩ := bd1_ed h
              obtain ⟨x30, e30, h⟩ := h
              replace h := hQ30 _ h
              exact J28 _ (ed_some h)
      exact I24 n24 _ _ (fr_I (by decide) (fr_I (by decide) (fr_I (by decide) (fr_I (by decide) (fr_I (by decide) (fr_I (by decide) (fr_I (by decide) (fr_I (by decide) (fr_I (by decide) (fr_F (by decide) (fr_F (by decide) fr_refl))))))))))) hn24
    · replace h := ed_neg q89 h
      exact fr_retV h (fr_F (by decide) (fr_F (by decide) fr_refl))
  obtain ⟨k4, Q4, hQ4, hk4, h⟩ := jn0_ed h
  have J4 : Q4 () → fr 464227514732017603087171584 [(71, 26), (71, 32), (71, 37)] M r := by
    intro  h
    replace h := hQ4  h
    exact J3 _ (ed_some h)
  by_cases q48 : ¬ (im_i M 71 32) = 0
  · replace h := ed_pos q48 h
    exact J4  (hk4  h)
  · replace h := ed_neg q48 h
    obtain ⟨Q5, hQ5, h⟩ := bd1_ed h
    obtain ⟨x5, e5, h⟩ := h
    replace h := hQ5 _ h
    by_cases q56 : ¬ x5 = 0
    · replace h := ed_pos q56 h
      exact J4  (hk4  h)
    · replace h := ed_neg q56 h
      obtain ⟨Q6, hQ6, h⟩ := bd1_ed h
      obtain ⟨x6, e6, h⟩ := h
      replace h := hQ6 _ h
      by_cases q64 : x6 = 0
      · replace h := ed_pos q64 h
        exact J3 _ (ed_some h)
      · replace h := ed_neg q64 h
        exact J4  (hk4  h)
