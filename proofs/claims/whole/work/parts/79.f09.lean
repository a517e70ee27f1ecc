/-! METHODS AS FUNCTIONS -/
noncomputable def f_HSheet_rotate_L25 (w : Bool) (v7 : Int32) (v8 : Int32) (x9 : Int32) (M10 : im_M) : Option ((Int32 × im_M) ⊕ (im_M)) := if 8 ≤ x9 then some (.inr M10) else gd (inb ((v8 * 8) + x9) 4096) <| bd1 (if (lg_cmp (im_l M10 (sw w) (Int32.toNatClampNeg ((v8 * 8) + x9))) 0) = 0 then some M10 else bd1 (f_HSheet_rotateWord w x9 v8 v7 M10) fun (M12 : im_M) => some M12) fun (M13 : im_M) => some (.inl ((x9 + 1), M13))
noncomputable def f_HSheet_rotate_L15 (w : Bool) (v3 : Int32) (x4 : Int32) (M5 : im_M) : Option ((Int32 × im_M) ⊕ (im_M)) := if (im_i M5 28 1) ≤ x4 then some (.inr M5) else bd1 (lp (uc2 (f_HSheet_rotate_L25 w v3 x4)) (0, M5)) fun (M18 : im_M) => some (.inl ((x4 + 1), M18))
noncomputable def f_HSheet_rotate (w : Bool) (p0 : Int32) (M : im_M) : Option (Bool × im_M) := if ¬ p0 = 0 then bd1 (f_Arrays_fill2_1 0 M) fun (M1 : im_M) => bd1 (lp (uc2 (f_HSheet_rotate_L15 w p0)) (0, M1)) fun (M19 : im_M) => if p0 = 2 then some ((!w), (im_setR (im_setR M19 28 4 (some (ss w))) 28 5 (some (sw w)))) else some ((!w), (im_setI (im_setI (im_setR (im_setR M19 28 4 (some (ss w))) 28 5 (some (sw w))) 28 1 (im_i (im_setR (im_setR M19 28 4 (some (ss w))) 28 5 (some (sw w))) 28 0)) 28 0 (im_i (im_setR (im_setR M19 28 4 (some (ss w))) 28 5 (some (sw w))) 28 1))) else some (w, M)
theorem J_HSheet_rotate_d0 : decode J_HSheet_rotate.2.1 0 = .ok (.iload_n 1, 1) := by decide +kernel
theorem J_HSheet_rotate_d1 : decode J_HSheet_rotate.2.1 1 = .ok (.ifCond .ne 4, 3) := by decide +kernel
theorem J_HSheet_rotate_d4 : decode J_HSheet_rotate.2.1 4 = .ok (.return_, 1) := by decide +kernel
theorem J_HSheet_rotate_d5 : decode J_HSheet_rotate.2.1 5 = .ok (.aload_n 0, 1) := by decide +kernel
theorem J_HSheet_rotate_d6 : decode J_HSheet_rotate.2.1 6 = .ok (.getfield 22, 3) := by decide +kernel
theorem J_HSheet_rotate_d9 : decode J_HSheet_rotate.2.1 9 = .ok (.lconst 0, 1) := by decide +kernel
theorem J_HSheet_rotate_d10 : decode J_HSheet_rotate.2.1 10 = .ok (.invokestatic 25, 3) := by decide +kernel
theorem J_HSheet_rotate_d13 : decode J_HSheet_rotate.2.1 13 = .ok (.iconst 0, 1) := by decide +kernel
theorem J_HSheet_rotate_d14 : decode J_HSheet_rotate.2.1 14 = .ok (.istore_n 2, 1) := by decide +kernel
theorem J_HSheet_rotate_d15 : decode J_HSheet_rotate.2.1 15 = .ok (.iload_n 2, 1) := by decide +kernel
theorem J_HSheet_rotate_d16 : decode J_HSheet_rotate.2.1 16 = .ok (.aload_n 0, 1) := by decide +kernel
theorem J_HSheet_rotate_d17 : decode J_HSheet_rotate.2.1 17 = .ok (.getfield 15, 3) := by decide +kernel
theorem J_HSheet_rotate_d20 : decode J_HSheet_rotate.2.1 20 = .ok (.if_icmp .ge 46, 3) := by decide +kernel
theorem J_HSheet_rotate_d23 : decode J_HSheet_rotate.2.1 23 = .ok (.iconst 0, 1) := by decide +kernel
theorem J_HSheet_rotate_d24 : decode J_HSheet_rotate.2.1 24 = .ok (.istore_n 3, 1) := by decide +kernel
theorem J_HSheet_rotate_d25 : decode J_HSheet_rotate.2.1 25 = .ok (.iload_n 3, 1) := by decide +kernel
theorem J_HSheet_rotate_d26 : decode J_HSheet_rotate.2.1 26 = .ok (.bipush 8, 2) := by decide +kernel
theorem J_HSheet_rotate_d28 : decode J_HSheet_rotate.2.1 28 = .ok (.if_icmp .ge 32, 3) := by decide +kernel
theorem J_HSheet_rotate_d31 : decode J_HSheet_rotate.2.1 31 = .ok (.aload_n 0, 1) := by decide +kernel
theorem J_HSheet_rotate_d32 : decode J_HSheet_rotate.2.1 32 = .ok (.getfield 18, 3) := by decide +kernel
theorem J_HSheet_rotate_d35 : decode J_HSheet_rotate.2.1 35 = .ok (.iload_n 2, 1) := by decide +kernel
theorem J_HSheet_rotate_d36 : decode J_HSheet_rotate.2.1 36 = .ok (.bipush 8, 2) := by decide +kernel
theorem J_HSheet_rotate_d38 : decode J_HSheet_rotate.2.1 38 = .ok (.imul, 1) := by decide +kernel
theorem J_HSheet_rotate_d39 : decode J_HSheet_rotate.2.1 39 = .ok (.iload_n 3, 1) := by decide +kernel
theorem J_HSheet_rotate_d40 : decode J_HSheet_rotate.2.1 40 = .ok (.iadd, 1) := by decide +kernel
theorem J_HSheet_rotate_d41 : decode J_HSheet_rotate.2.1 41 = .ok (.laload, 1) := by decide +kernel
theorem J_HSheet_rotate_d42 : decode J_HSheet_rotate.2.1 42 = .ok (.lconst 0, 1) := by decide +kernel
theorem J_HSheet_rotate_d43 : decode J_HSheet_rotate.2.1 43 = .ok (.lcmp, 1) := by decide +kernel
theorem J_HSheet_rotate_d44 : decode J_HSheet_rotate.2.1 44 = .ok (.ifCond .eq 10, 3) := by decide +kernel
theorem J_HSheet_rotate_d47 : decode J_HSheet_rotate.2.1 47 = .ok (.aload_n 0, 1) := by decide +kernel
theorem J_HSheet_rotate_d48 : decode J_HSheet_rotate.2.1 48 = .ok (.iload_n 3, 1) := by decide +kernel
theorem J_HSheet_rotate_d49 : decode J_HSheet_rotate.2.1 49 = .ok (.iload_n 2, 1) := by decide +kernel
theorem J_HSheet_rotate_d50 : decode J_HSheet_rotate.2.1 50 = .ok (.iload_n 1, 1) := by decide +kernel
theorem J_HSheet_rotate_d51 : decode J_HSheet_rotate.2.1 51 = .ok (.invokevirtual 59, 3) := by decide +kernel
theorem J_HSheet_rotate_d54 : decode J_HSheet_rotate.2.1 54 = .ok (.iinc 3 1, 3) := by decide +kernel
theorem J_HSheet_rotate_d57 : decode J_HSheet_rotate.2.1 57 = .ok (.goto (-32), 3) := by decide +kernel
theorem J_HSheet_rotate_d60 : decode J_HSheet_rotate.2.1 60 = .ok (.iinc 2 1, 3) := by decide +kernel
theorem J_HSheet_rotate_d63 : decode J_HSheet_rotate.2.1 63 = .ok (.goto (-48), 3) := by decide +kernel
theorem J_HSheet_rotate_d66 : decode J_HSheet_rotate.2.1 66 = .ok (.aload_n 0, 1) := by decide +kernel
theorem J_HSheet_rotate_d67 : decode J_HSheet_rotate.2.1 67 = .ok (.getfield 18, 3) := by decide +kernel
theorem J_HSheet_rotate_d70 : decode J_HSheet_rotate.2.1 70 = .ok (.astore_n 2, 1) := by decide +kernel
theorem J_HSheet_rotate_d71 : decode J_HSheet_rotate.2.1 71 = .ok (.aload_n 0, 1) := by decide +kernel
theorem J_HSheet_rotate_d72 : decode J_HSheet_rotate.2.1 72 = .ok (.aload_n 0, 1) := by decide +kernel
theorem J_HSheet_rotate_d73 : decode J_HSheet_rotate.2.1 73 = .ok (.getfield 22, 3) := by decide +kernel
theorem J_HSheet_rotate_d76 : decode J_HSheet_rotate.2.1 76 = .ok (.putfield 18, 3) := by decide +kernel
theorem J_HSheet_rotate_d79 : decode J_HSheet_rotate.2.1 79 = .ok (.aload_n 0, 1) := by decide +kernel
theorem J_HSheet_rotate_d80 : decode J_HSheet_rotate.2.1 80 = .ok (.aload_n 2, 1) := by decide +kernel
theorem J_HSheet_rotate_d81 : decode J_HSheet_rotate.2.1 81 = .ok (.putfield 22, 3) := by decide +kernel
theorem J_HSheet_rotate_d84 : decode J_HSheet_rotate.2.1 84 = .ok (.iload_n 1, 1) := by decide +kernel
theorem J_HSheet_rotate_d85 : decode J_HSheet_rotate.2.1 85 = .ok (.iconst 2, 1) := by decide +kernel
theorem J_HSheet_rotate_d86 : decode J_HSheet_rotate.2.1 86 = .ok (.if_icmp .eq 21, 3) := by decide +kernel
theorem J_HSheet_rotate_d89 : decode J_HSheet_rotate.2.1 89 = .ok (.aload_n 0, 1) := by decide +kernel
theorem J_HSheet_rotate_d90 : decode J_HSheet_rotate.2.1 90 = .ok (.getfield 15, 3) := by decide +kernel
theorem J_HSheet_rotate_d93 : decode J_HSheet_rotate.2.1 93 = .ok (.istore_n 3, 1) := by decide +kernel
theorem J_HSheet_rotate_d94 : decode J_HSheet_rotate.2.1 94 = .ok (.aload_n 0, 1) := by decide +kernel
theorem J_HSheet_rotate_d95 : decode J_HSheet_rotate.2.1 95 = .ok (.aload_n 0, 1) := by decide +kernel
theorem J_HSheet_rotate_d96 : decode J_HSheet_rotate.2.1 96 = .ok (.getfield 9, 3) := by decide +kernel
theorem J_HSheet_rotate_d99 : decode J_HSheet_rotate.2.1 99 = .ok (.putfield 15, 3) := by decide +kernel
theorem J_HSheet_rotate_d102 : decode J_HSheet_rotate.2.1 102 = .ok (.aload_n 0, 1) := by decide +kernel
theorem J_HSheet_rotate_d103 : decode J_HSheet_rotate.2.1 103 = .ok (.iload_n 3, 1) := by decide +kernel
theorem J_HSheet_rotate_d104 : decode J_HSheet_rotate.2.1 104 = .ok (.putfield 9, 3) := by decide +kernel
theorem J_HSheet_rotate_d107 : decode J_HSheet_rotate.2.1 107 = .ok (.return_, 1) := by decide +kernel
theorem f_HSheet_rotate_ok {L : Nat} {xs : Nat → Int32} {dep : Nat} {w : Bool} {p0 : Int32} {M : im_M} {Q : Bool × im_M → Prop} (hM : lw_S w M) (h : ed (f_HSheet_rotate w p0 M) Q) : ia (tb_G L xs) (dep + 1) J_HSheet_rotate (rtV Q) (0, lv_args 0 [.ref 28, .int p0], [], M) := by
  have hS : im_St (tb_G L xs) (dep + 1) J_HSheet_rotate (ia (tb_G L xs) (dep + 1) J_HSheet_rotate (rtV Q)) := ia_St
  unfold f_HSheet_rotate at h
  have l0 : im_lk (lv_args 0 [.ref 28, .int p0]) 0 = some (.ref 28) := rfl
  have l1 : im_lk (lv_args 0 [.ref 28, .int p0]) 1 = some (.int p0) := rfl
  refine iq_iload_n hS 1 J_HSheet_rotate_d0 l1 rfl ?_
  refine iq_if_ne hS 4 J_HSheet_rotate_d1 (t := 5) rfl (fun q1 => ?_) rfl (fun q1 => ?_)
  · replace h := ed_pos q1 h
    refine iq_aload_n hS 6 J_HSheet_rotate_d5 l0 rfl ?_
    refine iq_getR hS 9 J_HSheet_rotate_d6 lf_9_22 (Or.inr ⟨_, rfl⟩) (ka_28 hM) (ra_28_ss hM) rfl ?_
    refine iq_lconst hS 10 J_HSheet_rotate_d9 (v := 0) (by decide +kernel) rfl ?_
    obtain ⟨Q1, hQ1, h⟩ := bd1_ed h
    refine iq_cwV hS 13 J_HSheet_rotate_d10 rfl (pr_stat (vs := [_, _]) lc_9_25 lT_107 rfl rfl (by decide) rfl (Nat.le_of_ble_eq_true rfl) (Nat.le_of_ble_eq_true rfl)) (f_Arrays_fill2_1_ok (dep := dep + 0) hM h) rfl ?_
    intro M1 hM1 h
    replace h := hQ1 _ h
    refine iq_iconst hS 14 J_HSheet_rotate_d13 (v := 0) (by decide +kernel) rfl ?_
    refine iq_istore_n hS 15 J_HSheet_rotate_d14 (by decide) rfl ?_
    obtain ⟨Q2, hQ2, h⟩ := bd1_ed h
    have K2 : ∀ (M3 : im_M) (L' : List (Nat × Value)), lw_S w M3 → im_lk L' 0 = some (.ref 28) → im_lk L' 1 = some (.int p0) → Q2 M3 → ia (tb_G L xs) (dep + 1) J_HSheet_rotate (rtV Q) (66, L', [], M3) := by
      intro M3 L' hM3 l4 l5 h
      replace h := hQ2 _ h
      refine iq_aload_n hS 67 J_HSheet_rotate_d66 l4 rfl ?_
      refine iq_getR hS 70 J_HSheet_rotate_d67 lf_9_18 (Or.inr ⟨_, rfl⟩) (ka_28 hM3) (ra_28_sw hM3) rfl ?_
      refine iq_astore_n hS 71 J_HSheet_rotate_d70 (by decide) rfl ?_
      refine iq_aload_n hS 72 J_HSheet_rotate_d71 (lk_1r l4 (by decide)) rfl ?_
      refine iq_aload_n hS 73 J_HSheet_rotate_d72 (lk_1r l4 (by decide)) rfl ?_
      refine iq_getR hS 76 J_HSheet_rotate_d73 lf_9_22 (Or.inr ⟨_, rfl⟩) (ka_28 hM3) (ra_28_ss hM3) rfl ?_
      refine iq_putR hS 79 J_HSheet_rotate_d76 lf_9_18 (Or.inl rfl) (Or.inr ⟨_, rfl⟩) (ka_28 hM3) rfl ?_
      refine iq_aload_n hS 80 J_HSheet_rotate_d79 (lk_1r l4 (by decide)) rfl ?_
      refine iq_aload_n hS 81 J_HSheet_rotate_d80 lk_1s rfl ?_
      refine iq_putR hS 84 J_HSheet_rotate_d81 lf_9_22 (Or.inl rfl) (Or.inr ⟨_, rfl⟩) (ka_28 (M := M3) hM3) rfl ?_
      refine iq_iload_n hS 85 J_HSheet_rotate_d84 (lk_1i l5 (by decide)) rfl ?_
      refine iq_iconst hS 86 J_HSheet_rotate_d85 (v := 2) (by decide +kernel) rfl ?_
      refine iq_icmp_eq hS 89 J_HSheet_rotate_d86 (t := 107) rfl (fun q86 => ?_) rfl (fun q86 => ?_)
      · replace h := ed_pos q86 h
        exact iq_ret J_HSheet_rotate_d107 rfl ⟨rfl, _, (lw_swap (M := M3) hM3), ed_some h⟩
      · replace h := ed_neg q86 h
        refine iq_aload_n hS 90 J_HSheet_rotate_d89 (lk_1r l4 (by decide)) rfl ?_
        refine iq_getI hS 93 J_HSheet_rotate_d90 lf_9_15 (Or.inl rfl) (ka_28 (lw_swap (M := M3) hM3)) rfl ?_
        refine iq_istore_n hS 94 J_HSheet_rotate_d93 (by decide) rfl ?_
        refine iq_aload_n hS 95 J_HSheet_rotate_d94 (lk_1r (lk_1r l4 (by decide)) (by decide)) rfl ?_
        refine iq_aload_n hS 96 J_HSheet_rotate_d95 (lk_1r (lk_1r l4 (by decide)) (by decide)) rfl ?_
        refine iq_getI hS 99 J_HSheet_rotate_d96 lf_9_9 (Or.inl rfl) (ka_28 (lw_swap (M := M3) hM3)) rfl ?_
        refine iq_putI hS 102 J_HSheet_rotate_d99 lf_9_15 (Or.inl rfl) rfl (ka_28 (lw_swap (M := M3) hM3)) rfl ?_
        refine iq_aload_n hS 103 J_HSheet_rotate_d102 (lk_1r (lk_1r l4 (by decide)) (by decide)) rfl ?_
        refine iq_iload_n hS 104 J_HSheet_rotate_d103 lk_1s rfl ?_
        refine iq_putI hS 107 J_HSheet_rotate_d104 lf_9_9 (Or.inl rfl) rfl (ka_28 (lw_swap (M := M3) hM3)) rfl ?_
        exact iq_ret J_HSheet_rotate_d107 rfl ⟨rfl, _, (lw_swap (M := M3) hM3), ed_some h⟩
    obtain ⟨r2, hr2, hq2⟩ := h
    obtain ⟨n2, hn2⟩ := lp_n hr2
    have I2 : ∀ (n : Nat) (x6 : Int32) (M7 : im_M) (L' : List (Nat × Value)), lw_S w M7 → im_lk L' 0 = some (.ref 28) → im_lk L' 1 = some (.int p0) → im_lk L' 2 = some (.int x6) → lpn (uc2 (f_HSheet_rotate_L15 w p0)) n (x6, M7) = some r2 → ia (tb_G L xs) (dep + 1) J_HSheet_rotate (rtV Q) (15, L', [], M7) := by
      intro n
      induction n with
      | zero => intro x6 M7 L' hM7 l8 l9 l10 hn; exact (lpn_0 hn).elim
      | succ n ih =>
        intro x6 M7 L' hM7 l8 l9 l10 hn
        have h := lpn_ed2 hn
        unfold f_HSheet_rotate_L15 at h
        refine iq_iload_n hS 16 J_HSheet_rotate_d15 l10 rfl ?_
        refine iq_aload_n hS 17 J_HSheet_rotate_d16 l8 rfl ?_
        refine iq_getI hS 20 J_HSheet_rotate_d17 lf_9_15 (Or.inl rfl) (ka_28 hM7) rfl ?_
        refine iq_icmp_ge hS 23 J_HSheet_rotate_d20 (t := 66) rfl (fun q20 => ?_) rfl (fun q20 => ?_)
        · replace h := ed_pos q20 h
          exact K2 _ _ hM7 l8 l9 (lq_r h hq2)
        · replace h := ed_neg q20 h
          refine iq_iconst hS 24 J_HSheet_rotate_d23 (v := 0) (by decide +kernel) rfl ?_
          refine iq_istore_n hS 25 J_HSheet_rotate_d24 (by decide) rfl ?_
          obtain ⟨Q11, hQ11, h⟩ := bd1_ed h
          have K11 : ∀ (M12 : im_M) (L' : List (Nat × Value)), lw_S w M12 → im_lk L' 0 = some (.ref 28) → im_lk L' 1 = some (.int p0) → im_lk L' 2 = some (.int x6) → Q11 M12 → ia (tb_G L xs) (dep + 1) J_HSheet_rotate (rtV Q) (60, L', [], M12) := by
            intro M12 L' hM12 l13 l14 l15 h
            replace h := hQ11 _ h
            refine iq_iincv hS 63 J_HSheet_rotate_d60 (c := 1) (by decide +kernel) l15 (by decide) rfl ?_
            refine iq_goto hS J_HSheet_rotate_d63 (t := 15) rfl ?_
            exact ih _ _ _ hM12 (lk_1r l13 (by decide)) (lk_1i l14 (by decide)) lk_1s (lq_l h)
          obtain ⟨r11, hr11, hq11⟩ := h
          obtain ⟨n11, hn11⟩ := lp_n hr11
          have I11 : ∀ (n : Nat) (x16 : Int32) (M17 : im_M) (L' : List (Nat × Value)), lw_S w M17 → im_lk L' 0 = some (.ref 28) → im_lk L' 1 = some (.int p0) → im_lk L' 2 = some (.int x6) → im_lk L' 3 = some (.int x16) → lpn (uc2 (f_HSheet_rotate_L25 w p0 x6)) n (x16, M17) = some r11 → ia (tb_G L xs) (dep + 1) J_HSheet_rotate (rtV Q) (25, L', [], M17) := by
            intro n
            induction n with
            | zero => intro x16 M17 L' hM17 l18 l19 l20 l21 hn; exact (lpn_0 hn).elim
            | succ n ih =>
              intro x16 M17 L' hM17 l18 l19 l20 l21 hn
              have h := lpn_ed2 hn
              unfold f_HSheet_rotate_L25 at h
              refine iq_iload_n hS 26 J_HSheet_rotate_d25 l21 rfl ?_
              refine iq_bipush hS 28 J_HSheet_rotate_d26 (v := 8) (by decide +kernel) rfl ?_
              refine iq_icmp_ge hS 31 J_HSheet_rotate_d28 (t := 60) rfl (fun q28 => ?_) rfl (fun q28 => ?_)
              · replace h := ed_pos q28 h
                exact K11 _ _ hM17 l18 l19 l20 (lq_r h hq11)
              · replace h := ed_neg q28 h
                refine iq_aload_n hS 32 J_HSheet_rotate_d31 l18 rfl ?_
                refine iq_getR hS 35 J_HSheet_rotate_d32 lf_9_18 (Or.inr ⟨_, rfl⟩) (ka_28 hM17) (ra_28_sw hM17) rfl ?_
                refine iq_iload_n hS 36 J_HSheet_rotate_d35 l20 rfl ?_
                refine iq_bipush hS 38 J_HSheet_rotate_d36 (v := 8) (by decide +kernel) rfl ?_
                refine iq_imul hS 39 J_HSheet_rotate_d38 rfl ?_
                refine iq_iload_n hS 40 J_HSheet_rotate_d39 l21 rfl ?_
                refine iq_iadd hS 41 J_HSheet_rotate_d40 rfl ?_
                obtain ⟨g41, h⟩ := ed_gd h
                refine iq_laload hS 42 J_HSheet_rotate_d41 ⟨(ka_sw hM17).1, (ka_sw hM17).2, g41.1, ix_lt (kl_sw hM17) g41.2⟩ rfl ?_
                refine iq_lconst hS 43 J_HSheet_rotate_d42 (v := 0) (by decide +kernel) rfl ?_
                refine iq_lcmp hS 44 J_HSheet_rotate_d43 rfl ?_
                obtain ⟨Q22, hQ22, h⟩ := bd1_ed h
                have J22 : ∀ (M24 : im_M) (L' : List (Nat × Value)), lw_S w M24 → im_lk L' 0 = some (.ref 28) → im_lk L' 1 = some (.int p0) → im_lk L' 2 = some (.int x6) → im_lk L' 3 = some (.int x16) → Q22 M24 → ia (tb_G L xs) (dep + 1) J_HSheet_rotate (rtV Q) (54, L', [], M24) := by
                  intro M24 L' hM24 l25 l26 l27 l28 h
                  replace h := hQ22 _ h
                  refine iq_iincv hS 57 J_HSheet_rotate_d54 (c := 1) (by decide +kernel) l28 (by decide) rfl ?_
                  refine iq_goto hS J_HSheet_rotate_d57 (t := 25) rfl ?_
                  exact ih _ _ _ hM24 (lk_1r l25 (by decide)) (lk_1i l26 (by decide)) (lk_1i l27 (by decide)) lk_1s (lq_l h)
                refine iq_if_eq hS 47 J_HSheet_rotate_d44 (t := 54) rfl (fun q44 => ?_) rfl (fun q44 => ?_)
                · replace h := ed_pos q44 h
                  exact J22 _ _ hM17 l18 l19 l20 l21 (ed_some h)
                · replace h := ed_neg q44 h
                  refine iq_aload_n hS 48 J_HSheet_rotate_d47 l18 rfl ?_
                  refine iq_iload_n hS 49 J_HSheet_rotate_d48 l21 rfl ?_
                  refine iq_iload_n hS 50 J_HSheet_rotate_d49 l20 rfl ?_
                  refine iq_iload_n hS 51 J_HSheet_rotate_d50 l19 rfl ?_
                  obtain ⟨Q23, hQ23, h⟩ := bd1_ed h
                  refine iq_cwV hS 54 J_HSheet_rotate_d51 rfl (pr_inst (vs := [_, _, _]) lc_9_59 lT_190 rfl rfl (by decide) (by decide) rfl (Nat.le_of_ble_eq_true rfl) (Nat.le_of_ble_eq_true rfl) (fun _ => Or.inl (pr_b (ka_28 hM17) (by decide) rfl))) (f_HSheet_rotateWord_ok (dep := dep + 0) hM17 h) rfl ?_
                  intro M23 hM23 h
                  replace h := hQ23 _ h
                  exact J22 _ _ hM23 l18 l19 l20 l21 (ed_some h)
          exact I11 n11 _ _ _ hM7 (lk_1r l8 (by decide)) (lk_1i l9 (by decide)) (lk_1i l10 (by decide)) lk_1s hn11
    exact I2 n2 _ _ _ hM1 (lk_1r l0 (by decide)) (lk_1i l1 (by decide)) lk_1s hn2
  · replace h := ed_neg q1 h
    exact iq_ret J_HSheet_rotate_d4 rfl ⟨rfl, _, hM, ed_some h⟩
noncomputable def f_H_turn (w : Bool) (p0 : Int32) (M : im_M) : Option (Bool × im_M) := if p0 < 0 then none else if p0 ≤ 3 then bd2 (f_HSheet_rotate w p0 (im_setI M 59 0 0)) fun (w1 : Bool) (M1 : im_M) => some (w1, M1) else none
theorem J_H_turn_d17 : decode J_H_turn.2.1 17 = .ok (.aload_n 0, 1) := by decide +kernel
theorem J_H_turn_d18 : decode J_H_turn.2.1 18 = .ok (.getfield 69, 3) := by decide +kernel
theorem J_H_turn_d21 : decode J_H_turn.2.1 21 = .ok (.iconst 0, 1) := by decide +kernel
theorem J_H_turn_d22 : decode J_H_turn.2.1 22 = .ok (.putfield 146, 3) := by decide +kernel
theorem J_H_turn_d25 : decode J_H_turn.2.1 25 = .ok (.aload_n 0, 1) := by decide +kernel
theorem J_H_turn_d26 : decode J_H_turn.2.1 26 = .ok (.getfield 37, 3) := by decide +kernel
theorem J_H_turn_d29 : decode J_H_turn.2.1 29 = .ok (.iload_n 1, 1) := by decide +kernel
theorem J_H_turn_d30 : decode J_H_turn.2.1 30 = .ok (.invokevirtual 160, 3) := by decide +kernel
theorem J_H_turn_d33 : decode J_H_turn.2.1 33 = .ok (.return_, 1) := by decide +kernel
theorem f_H_turn_ok {L : Nat} {xs : Nat → Int32} {dep : Nat} {w : Bool} {p0 : Int32} {M : im_M} {Q : Bool × im_M → Prop} (hM : lw_S w M) (h : ed (f_H_turn w p0 M) Q) : ia (tb_G L xs) (dep + 2) J_H_turn (rtV Q) (0, lv_args 0 [.ref 0, .int p0], [], M) := by
  have hS : im_St (tb_G L xs) (dep + 2) J_H_turn (ia (tb_G L xs) (dep + 2) J_H_turn (rtV Q)) := ia_St
  unfold f_H_turn at h
  have l0 : im_lk (lv_args 0 [.ref 0, .int p0]) 0 = some (.ref 0) := rfl
  have l1 : im_lk (lv_args 0 [.ref 0, .int p0]) 1 = some (.int p0) := rfl
  refine iq_iload_n hS 1 J_H_turn_d0 l1 rfl ?_
  refine iq_if_lt hS 4 J_H_turn_d1 (t := 9) rfl (fun q1 => ?_) rfl (fun q1 => ?_)
  · replace h := ed_pos q1 h
    exact (ed_none h).elim
  · replace h := ed_neg q1 h
    refine iq_iload_n hS 5 J_H_turn_d4 l1 rfl ?_
    refine iq_iconst hS 6 J_H_turn_d5 (v := 3) (by decide +kernel) rfl ?_
    refine iq_icmp_le hS 9 J_H_turn_d6 (t := 17) rfl (fun q6 => ?_) rfl (fun q6 => ?_)
    · replace h := ed_pos q6 h
      refine iq_aload_n hS 18 J_H_turn_d17 l0 rfl ?_
      refine iq_getR hS 21 J_H_turn_d18 lf_11_69 (Or.inl ⟨_, rfl⟩) (ka_0 hM) (ra_0_7 hM) rfl ?_
      refine iq_iconst hS 22 J_H_turn_d21 (v := 0) (by decide +kernel) rfl ?_
      refine iq_putI hS 25 J_H_turn_d22 lf_11_146 (Or.inl rfl) rfl (ka_59 hM) rfl ?_
      refine iq_aload_n hS 26 J_H_turn_d25 l0 rfl ?_
      refine iq_getR hS 29 J_H_turn_d26 lf_11_37 (Or.inl ⟨_, rfl⟩) (ka_0 hM) (ra_0_3 hM) rfl ?_
      refine iq_iload_n hS 30 J_H_turn_d29 l1 rfl ?_
      obtain ⟨Q1, hQ1, h⟩ := bd2_ed h
      refine iq_ctV hS 33 J_H_turn_d30 rfl (pr_inst (vs := [_]) lc_11_160 lT_189 rfl rfl (by decide) (by decide) rfl (Nat.le_of_ble_eq_true rfl) (Nat.le_of_ble_eq_true rfl) (fun _ => Or.inl (pr_b (ka_28 hM) (by decide) rfl))) (f_HSheet_rotate_ok (dep := dep + 0) hM h) rfl ?_
      intro w1 M1 hM1 h
      replace h := hQ1 _ _ h
      exact iq_ret J_H_turn_d33 rfl ⟨rfl, _, hM1, ed_some h⟩
    · replace h := ed_neg q6 h
      exact (ed_none h).elim
noncomputable def f_HSheet_edgeBit_L14 (v3 : Int64) (v4 : Int32) (M7 : im_M) (x5 : Int32) (x6 : Int32) : Option ((Int32 × Int32) ⊕ (Int32)) := if 63 ≤ x6 then some (.inr x5) else if ¬ (lg_cmp ((Int64.toUInt64 v3 >>> ((Int32.toInt64 x5).toUInt64 &&& Int64.toUInt64 63)).toInt64 &&& 1) 0) = 0 then some (.inr x5) else some (.inl ((x5 + v4), (x6 + 1)))
noncomputable def f_HSheet_edgeBit (p0 : Int64) (p1 : Int32) (M : im_M) : Option (Int32) := bd1 (lp (uc2 (f_HSheet_edgeBit_L14 p0 p1 M)) (((if p1 ≤ 0 then 63 else 0) : Int32), 0)) fun (y8 : Int32) => some y8
theorem J_HSheet_edgeBit_d0 : decode J_HSheet_edgeBit.2.1 0 = .ok (.iload_n 2, 1) := by decide +kernel
theorem J_HSheet_edgeBit_d1 : decode J_HSheet_edgeBit.2.1 1 = .ok (.ifCond .le 7, 3) := by decide +kernel
theorem J_HSheet_edgeBit_d4 : decode J_HSheet_edgeBit.2.1 4 = .ok (.iconst 0, 1) := by decide +kernel
theorem J_HSheet_edgeBit_d5 : decode J_HSheet_edgeBit.2.1 5 = .ok (.goto 5, 3) := by decide +kernel
theorem J_HSheet_edgeBit_d8 : decode J_HSheet_edgeBit.2.1 8 = .ok (.bipush 63, 2) := by decide +kernel
theorem J_HSheet_edgeBit_d10 : decode J_HSheet_edgeBit.2.1 10 = .ok (.istore_n 3, 1) := by decide +kernel
theorem J_HSheet_edgeBit_d11 : decode J_HSheet_edgeBit.2.1 11 = .ok (.iconst 0, 1) := by decide +kernel
theorem J_HSheet_edgeBit_d12 : decode J_HSheet_edgeBit.2.1 12 = .ok (.istore 4, 2) := by decide +kernel
theorem J_HSheet_edgeBit_d14 : decode J_HSheet_edgeBit.2.1 14 = .ok (.iload 4, 2) := by decide +kernel
theorem J_HSheet_edgeBit_d16 : decode J_HSheet_edgeBit.2.1 16 = .ok (.bipush 63, 2) := by decide +kernel
theorem J_HSheet_edgeBit_d18 : decode J_HSheet_edgeBit.2.1 18 = .ok (.if_icmp .ge 23, 3) := by decide +kernel
theorem J_HSheet_edgeBit_d21 : decode J_HSheet_edgeBit.2.1 21 = .ok (.lload_n 0, 1) := by decide +kernel
theorem J_HSheet_edgeBit_d22 : decode J_HSheet_edgeBit.2.1 22 = .ok (.iload_n 3, 1) := by decide +kernel
theorem J_HSheet_edgeBit_d23 : decode J_HSheet_edgeBit.2.1 23 = .ok (.lushr, 1) := by decide +kernel
theorem J_HSheet_edgeBit_d24 : decode J_HSheet_edgeBit.2.1 24 = .ok (.lconst 1, 1) := by decide +kernel
theorem J_HSheet_edgeBit_d25 : decode J_HSheet_edgeBit.2.1 25 = .ok (.land, 1) := by decide +kernel
theorem J_HSheet_edgeBit_d26 : decode J_HSheet_edgeBit.2.1 26 = .ok (.lconst 0, 1) := by decide +kernel
theorem J_HSheet_edgeBit_d27 : decode J_HSheet_edgeBit.2.1 27 = .ok (.lcmp, 1) := by decide +kernel
theorem J_HSheet_edgeBit_d28 : decode J_HSheet_edgeBit.2.1 28 = .ok (.ifCond .ne 13, 3) := by decide +kernel
theorem J_HSheet_edgeBit_d31 : decode J_HSheet_edgeBit.2.1 31 = .ok (.iload_n 3, 1) := by decide +kernel
theorem J_HSheet_edgeBit_d32 : decode J_HSheet_edgeBit.2.1 32 = .ok (.iload_n 2, 1) := by decide +kernel
theorem J_HSheet_edgeBit_d33 : decode J_HSheet_edgeBit.2.1 33 = .ok (.iadd, 1) := by decide +kernel
theorem J_HSheet_edgeBit_d34 : decode J_HSheet_edgeBit.2.1 34 = .ok (.istore_n 3, 1) := by decide +kernel
theorem J_HSheet_edgeBit_d35 : decode J_HSheet_edgeBit.2.1 35 = .ok (.iinc 4 1, 3) := by decide +kernel
theorem J_HSheet_edgeBit_d38 : decode J_HSheet_edgeBit.2.1 38 = .ok (.goto (-24), 3) := by decide +kernel
theorem J_HSheet_edgeBit_d41 : decode J_HSheet_edgeBit.2.1 41 = .ok (.iload_n 3, 1) := by decide +kernel
theorem J_HSheet_edgeBit_d42 : decode J_HSheet_edgeBit.2.1 42 = .ok (.ireturn, 1) := by decide +kernel
theorem f_HSheet_edgeBit_ok {L : Nat} {xs : Nat → Int32} {dep : Nat} {w : Bool} {p0 : Int64} {p1 : Int32} {M : im_M} {Q : Int32 → Prop} (hM : lw_S w M) (h : ed (f_HSheet_edgeBit p0 p1 M) Q) : ia (tb_G L xs) dep J_HSheet_edgeBit (rpI M Q) (0, lv_args 0 [.long p0, .int p1], [], M) := by
  have hS : im_St (tb_G L xs) dep J_HSheet_edgeBit (ia (tb_G L xs) dep J_HSheet_edgeBit (rpI M Q)) := ia_St
  unfold f_HSheet_edgeBit at h
  have l0 : im_lk (lv_args 0 [.long p0, .int p1]) 0 = some (.long p0) := rfl
  have l2 : im_lk (lv_args 0 [.long p0, .int p1]) 2 = some (.int p1) := rfl
  refine iq_iload_n hS 1 J_HSheet_edgeBit_d0 l2 rfl ?_
  have J1 : ∀ (z2 : Int32) (L' : List (Nat × Value)), z2 = ((if p1 ≤ 0 then 63 else 0) : Int32) → im_lk L' 0 = some (.long p0) → im_lk L' 2 = some (.int p1) → ia (tb_G L xs) dep J_HSheet_edgeBit (rpI M Q) (10, L', [.int z2], M) := by
    intro z2 L' e3 l4 l5
    subst e3
    refine iq_istore_n hS 11 J_HSheet_edgeBit_d10 (by decide) rfl ?_
    refine iq_iconst hS 12 J_HSheet_edgeBit_d11 (v := 0) (by decide +kernel) rfl ?_
    refine iq_istore hS 14 J_HSheet_edgeBit_d12 (by decide) rfl ?_
    obtain ⟨Q6, hQ6, h⟩ := bd1_ed h
    have K6 : ∀ (y7 : Int32) (L' : List (Nat × Value)), im_lk L' 3 = some (.int y7) → Q6 y7 → ia (tb_G L xs) dep J_HSheet_edgeBit (rpI M Q) (41, L', [], M) := by
      intro y7 L' l8 h
      replace h := hQ6 _ h
      refine iq_iload_n hS 42 J_HSheet_edgeBit_d41 l8 rfl ?_
      exact iq_iret J_HSheet_edgeBit_d42 rfl rfl ⟨_, rfl, rfl, ed_some h⟩
    obtain ⟨r6, hr6, hq6⟩ := h
    obtain ⟨n6, hn6⟩ := lp_n hr6
    have I6 : ∀ (n : Nat) (x9 : Int32) (x10 : Int32) (L' : List (Nat × Value)), im_lk L' 0 = some (.long p0) → im_lk L' 2 = some (.int p1) → im_lk L' 3 = some (.int x9) → im_lk L' 4 = some (.int x10) → lpn (uc2 (f_HSheet_edgeBit_L14 p0 p1 M)) n (x9, x10) = some r6 → ia (tb_G L xs) dep J_HSheet_edgeBit (rpI M Q) (14, L', [], M) := by
      intro n
      induction n with
      | zero => intro x9 x10 L' l11 l12 l13 l14 hn; exact (lpn_0 hn).elim
      | succ n ih =>
        intro x9 x10 L' l11 l12 l13 l14 hn
        have h := lpn_ed2 hn
        unfold f_HSheet_edgeBit_L14 at h
        refine iq_iload hS 16 J_HSheet_edgeBit_d14 l14 rfl ?_
        refine iq_bipush hS 18 J_HSheet_edgeBit_d16 (v := 63) (by decide +kernel) rfl ?_
        refine iq_icmp_ge hS 21 J_HSheet_edgeBit_d18 (t := 41) rfl (fun q18 => ?_) rfl (fun q18 => ?_)
        · replace h := ed_pos q18 h
          exact K6 _ _ l13 (lq_r h hq6)
        · replace h := ed_neg q18 h
          refine iq_lload_n hS 22 J_HSheet_edgeBit_d21 l11 rfl ?_
          refine iq_iload_n hS 23 J_HSheet_edgeBit_d22 l13 rfl ?_
          refine iq_lushr hS 24 J_HSheet_edgeBit_d23 rfl ?_
          refine iq_lconst hS 25 J_HSheet_edgeBit_d24 (v := 1) (by decide +kernel) rfl ?_
          refine iq_land hS 26 J_HSheet_edgeBit_d25 rfl ?_
          refine iq_lconst hS 27 J_HSheet_edgeBit_d26 (v := 0) (by decide +kernel) rfl ?_
          refine iq_lcmp hS 28 J_HSheet_edgeBit_d27 rfl ?_
          refine iq_if_ne hS 31 J_HSheet_edgeBit_d28 (t := 41) rfl (fun q28 => ?_) rfl (fun q28 => ?_)
          · replace h := ed_pos q28 h
            exact K6 _ _ l13 (lq_r h hq6)
          · replace h := ed_neg q28 h
            refine iq_iload_n hS 32 J_HSheet_edgeBit_d31 l13 rfl ?_
            refine iq_iload_n hS 33 J_HSheet_edgeBit_d32 l12 rfl ?_
            refine iq_iadd hS 34 J_HSheet_edgeBit_d33 rfl ?_
            refine iq_istore_n hS 35 J_HSheet_edgeBit_d34 (by decide) rfl ?_
            refine iq_iincv hS 38 J_HSheet_edgeBit_d35 (c := 1) (by decide +kernel) (lk_1i l14 (by decide)) (by decide) rfl ?_
            refine iq_goto hS J_HSheet_edgeBit_d38 (t := 14) rfl ?_
            exact ih _ _ _ (lk_1l (lk_1l l11 (by decide) (by decide)) (by decide) (by decide)) (lk_1i (lk_1i l12 (by decide)) (by decide)) (lk_1i lk_1s (by decide)) lk_1s (lq_l h)
    exact I6 n6 _ _ _ (lk_1l (lk_1l l4 (by decide) (by decide)) (by decide) (by decide)) (lk_1i (lk_1i l5 (by decide)) (by decide)) (lk_1i lk_1s (by decide)) lk_1s hn6
  refine iq_if_le hS 4 J_HSheet_edgeBit_d1 (t := 8) rfl (fun q1 => ?_) rfl (fun q1 => ?_)
  · refine iq_bipush hS 10 J_HSheet_edgeBit_d8 (v := 63) (by decide +kernel) rfl ?_
    exact J1 _ _ (by rw [if_pos q1]) l0 l2
  · refine iq_iconst hS 5 J_HSheet_edgeBit_d4 (v := 0) (by decide +kernel) rfl ?_
    refine iq_goto hS J_HSheet_edgeBit_d5 (t := 10) rfl ?_
    exact J1 _ _ (by rw [if_neg q1]) l0 l2
noncomputable def f_HSheet_edgeColumn_L25 (w : Bool) (v8 : Int32) (v9 : Int32) (v10 : Int32) (M13 : im_M) (x11 : Int64) (x12 : Int32) : Option ((Int64 × Int32) ⊕ (Int64)) := if (im_i M13 28 1) ≤ x12 then some (.inr x11) else gd (inb ((x12 * 8) + v9) 4096) <| some (.inl ((x11 ||| (im_l M13 (sw w) (Int32.toNatClampNeg ((x12 * 8) + v9)))), (x12 + 1)))
noncomputable def f_HSheet_edgeColumn_L13 (w : Bool) (v3 : Int32) (M6 : im_M) (x4 : Int32) (x5 : Int32) : Option ((Int32 × Int32) ⊕ ((Unit) ⊕ (Int32))) := if 8 ≤ x5 then some (.inr (.inl ())) else bd1 (lp (uc2 (f_HSheet_edgeColumn_L25 w v3 x4 x5 M6)) (0, 0)) fun (y14 : Int64) => if (lg_cmp y14 0) = 0 then some (.inl ((x4 + v3), (x5 + 1))) else bd1 (f_HSheet_edgeBit y14 v3 M6) fun (x15 : Int32) => some (.inr (.inr (((64 : Int32) * x4) + x15)))
noncomputable def f_HSheet_edgeColumn (w : Bool) (p0 : Int32) (M : im_M) : Option (Int32) := bs0 (lp (uc2 (f_HSheet_edgeColumn_L13 w p0 M)) (((if p0 ≤ 0 then 7 else 0) : Int32), 0)) (fun (_ : Unit) => some (-1)) (fun t => some t)
theorem J_HSheet_edgeColumn_d0 : decode J_HSheet_edgeColumn.2.1 0 = .ok (.iload_n 1, 1) := by decide +kernel
theorem J_HSheet_edgeColumn_d1 : decode J_HSheet_edgeColumn.2.1 1 = .ok (.ifCond .le 7, 3) := by decide +kernel
theorem J_HSheet_edgeColumn_d4 : decode J_HSheet_edgeColumn.2.1 4 = .ok (.iconst 0, 1) := by decide +kernel
theorem J_HSheet_edgeColumn_d5 : decode J_HSheet_edgeColumn.2.1 5 = .ok (.goto 5, 3) := by decide +kernel
theorem J_HSheet_edgeColumn_d8 : decode J_HSheet_edgeColumn.2.1 8 = .ok (.bipush 7, 2) := by decide +kernel
theorem J_HSheet_edgeColumn_d10 : decode J_HSheet_edgeColumn.2.1 10 = .ok (.istore_n 2, 1) := by decide +kernel
theorem J_HSheet_edgeColumn_d11 : decode J_HSheet_edgeColumn.2.1 11 = .ok (.iconst 0, 1) := by decide +kernel
theorem J_HSheet_edgeColumn_d12 : decode J_HSheet_edgeColumn.2.1 12 = .ok (.istore_n 3, 1) := by decide +kernel
theorem J_HSheet_edgeColumn_d13 : decode J_HSheet_edgeColumn.2.1 13 = .ok (.iload_n 3, 1) := by decide +kernel
theorem J_HSheet_edgeColumn_d14 : decode J_HSheet_edgeColumn.2.1 14 = .ok (.bipush 8, 2) := by decide +kernel
theorem J_HSheet_edgeColumn_d16 : decode J_HSheet_edgeColumn.2.1 16 = .ok (.if_icmp .ge 70, 3) := by decide +kernel
theorem J_HSheet_edgeColumn_d19 : decode J_HSheet_edgeColumn.2.1 19 = .ok (.lconst 0, 1) := by decide +kernel
theorem J_HSheet_edgeColumn_d20 : decode J_HSheet_edgeColumn.2.1 20 = .ok (.lstore 4, 2) := by decide +kernel
theorem J_HSheet_edgeColumn_d22 : decode J_HSheet_edgeColumn.2.1 22 = .ok (.iconst 0, 1) := by decide +kernel
theorem J_HSheet_edgeColumn_d23 : decode J_HSheet_edgeColumn.2.1 23 = .ok (.istore 6, 2) := by decide +kernel
theorem J_HSheet_edgeColumn_d25 : decode J_HSheet_edgeColumn.2.1 25 = .ok (.iload 6, 2) := by decide +kernel
theorem J_HSheet_edgeColumn_d27 : decode J_HSheet_edgeColumn.2.1 27 = .ok (.aload_n 0, 1) := by decide +kernel
theorem J_HSheet_edgeColumn_d28 : decode J_HSheet_edgeColumn.2.1 28 = .ok (.getfield 15, 3) := by decide +kernel
theorem J_HSheet_edgeColumn_d31 : decode J_HSheet_edgeColumn.2.1 31 = .ok (.if_icmp .ge 26, 3) := by decide +kernel
theorem J_HSheet_edgeColumn_d34 : decode J_HSheet_edgeColumn.2.1 34 = .ok (.lload 4, 2) := by decide +kernel
theorem J_HSheet_edgeColumn_d36 : decode J_HSheet_edgeColumn.2.1 36 = .ok (.aload_n 0, 1) := by decide +kernel
theorem J_HSheet_edgeColumn_d37 : decode J_HSheet_edgeColumn.2.1 37 = .ok (.getfield 18, 3) := by decide +kernel
theorem J_HSheet_edgeColumn_d40 : decode J_HSheet_edgeColumn.2.1 40 = .ok (.iload 6, 2) := by decide +kernel
theorem J_HSheet_edgeColumn_d42 : decode J_HSheet_edgeColumn.2.1 42 = .ok (.bipush 8, 2) := by decide +kernel
theorem J_HSheet_edgeColumn_d44 : decode J_HSheet_edgeColumn.2.1 44 = .ok (.imul, 1) := by decide +kernel
theorem J_HSheet_edgeColumn_d45 : decode J_HSheet_edgeColumn.2.1 45 = .ok (.iload_n 2, 1) := by decide +kernel
theorem J_HSheet_edgeColumn_d46 : decode J_HSheet_edgeColumn.2.1 46 = .ok (.iadd, 1) := by decide +kernel
theorem J_HSheet_edgeColumn_d47 : decode J_HSheet_edgeColumn.2.1 47 = .ok (.laload, 1) := by decide +kernel
theorem J_HSheet_edgeColumn_d48 : decode J_HSheet_edgeColumn.2.1 48 = .ok (.lor, 1) := by decide +kernel
theorem J_HSheet_edgeColumn_d49 : decode J_HSheet_edgeColumn.2.1 49 = .ok (.lstore 4, 2) := by decide +kernel
theorem J_HSheet_edgeColumn_d51 : decode J_HSheet_edgeColumn.2.1 51 = .ok (.iinc 6 1, 3) := by decide +kernel
theorem J_HSheet_edgeColumn_d54 : decode J_HSheet_edgeColumn.2.1 54 = .ok (.goto (-29), 3) := by decide +kernel
theorem J_HSheet_edgeColumn_d57 : decode J_HSheet_edgeColumn.2.1 57 = .ok (.lload 4, 2) := by decide +kernel
theorem J_HSheet_edgeColumn_d59 : decode J_HSheet_edgeColumn.2.1 59 = .ok (.lconst 0, 1) := by decide +kernel
theorem J_HSheet_edgeColumn_d60 : decode J_HSheet_edgeColumn.2.1 60 = .ok (.lcmp, 1) := by decide +kernel
theorem J_HSheet_edgeColumn_d61 : decode J_HSheet_edgeColumn.2.1 61 = .ok (.ifCond .eq 15, 3) := by decide +kernel
theorem J_HSheet_edgeColumn_d64 : decode J_HSheet_edgeColumn.2.1 64 = .ok (.bipush 64, 2) := by decide +kernel
theorem J_HSheet_edgeColumn_d66 : decode J_HSheet_edgeColumn.2.1 66 = .ok (.iload_n 2, 1) := by decide +kernel
theorem J_HSheet_edgeColumn_d67 : decode J_HSheet_edgeColumn.2.1 67 = .ok (.imul, 1) := by decide +kernel
theorem J_HSheet_edgeColumn_d68 : decode J_HSheet_edgeColumn.2.1 68 = .ok (.lload 4, 2) := by decide +kernel
theorem J_HSheet_edgeColumn_d70 : decode J_HSheet_edgeColumn.2.1 70 = .ok (.iload_n 1, 1) := by decide +kernel
theorem J_HSheet_edgeColumn_d71 : decode J_HSheet_edgeColumn.2.1 71 = .ok (.invokestatic 69, 3) := by decide +kernel
theorem J_HSheet_edgeColumn_d74 : decode J_HSheet_edgeColumn.2.1 74 = .ok (.iadd, 1) := by decide +kernel
theorem J_HSheet_edgeColumn_d75 : decode J_HSheet_edgeColumn.2.1 75 = .ok (.ireturn, 1) := by decide +kernel
theorem J_HSheet_edgeColumn_d76 : decode J_HSheet_edgeColumn.2.1 76 = .ok (.iload_n 2, 1) := by decide +kernel
theorem J_HSheet_edgeColumn_d77 : decode J_HSheet_edgeColumn.2.1 77 = .ok (.iload_n 1, 1) := by decide +kernel
theorem J_HSheet_edgeColumn_d78 : decode J_HSheet_edgeColumn.2.1 78 = .ok (.iadd, 1) := by decide +kernel
theorem J_HSheet_edgeColumn_d79 : decode J_HSheet_edgeColumn.2.1 79 = .ok (.istore_n 2, 1) := by decide +kernel
theorem J_HSheet_edgeColumn_d80 : decode J_HSheet_edgeColumn.2.1 80 = .ok (.iinc 3 1, 3) := by decide +kernel
theorem J_HSheet_edgeColumn_d83 : decode J_HSheet_edgeColumn.2.1 83 = .ok (.goto (-70), 3) := by decide +kernel
theorem J_HSheet_edgeColumn_d86 : decode J_HSheet_edgeColumn.2.1 86 = .ok (.iconst (-1), 1) := by decide +kernel
theorem J_HSheet_edgeColumn_d87 : decode J_HSheet_edgeColumn.2.1 87 = .ok (.ireturn, 1) := by decide +kernel
theorem f_HSheet_edgeColumn_ok {L : Nat} {xs : Nat → Int32} {dep : Nat} {w : Bool} {p0 : Int32} {M : im_M} {Q : Int32 → Prop} (hM : lw_S w M) (h : ed (f_HSheet_edgeColumn w p0 M) Q) : ia (tb_G L xs) (dep + 1) J_HSheet_edgeColumn (rpI M Q) (0, lv_args 0 [.ref 28, .int p0], [], M) := by
  have hS : im_St (tb_G L xs) (dep + 1) J_HSheet_edgeColumn (ia (tb_G L xs) (dep + 1) J_HSheet_edgeColumn (rpI M Q)) := ia_St
  unfold f_HSheet_edgeColumn at h
  have l0 : im_lk (lv_args 0 [.ref 28, .int p0]) 0 = some (.ref 28) := rfl
  have l1 : im_lk (lv_args 0 [.ref 28, .int p0]) 1 = some (.int p0) := rfl
  refine iq_iload_n hS 1 J_HSheet_edgeColumn_d0 l1 rfl ?_
  have J1 : ∀ (z2 : Int32) (L' : List (Nat × Value)), z2 = ((if p0 ≤ 0 then 7 else 0) : Int32) → im_lk L' 0 = some (.ref 28) → im_lk L' 1 = some (.int p0) → ia (tb_G L xs) (dep + 1) J_HSheet_edgeColumn (rpI M Q) (10, L', [.int z2], M) := by
    intro z2 L' e3 l4 l5
    subst e3
    refine iq_istore_n hS 11 J_HSheet_edgeColumn_d10 (by decide) rfl ?_
    refine iq_iconst hS 12 J_HSheet_edgeColumn_d11 (v := 0) (by decide +kernel) rfl ?_
    refine iq_istore_n hS 13 J_HSheet_edgeColumn_d12 (by decide) rfl ?_
    obtain ⟨Q6, hQ6, hR6, h⟩ := bs0_ed h
    have K6 : ∀  (L' : List (Nat × Value)), Q6 (.inl ()) → ia (tb_G L xs) (dep + 1) J_HSheet_edgeColumn (rpI M Q) (86, L', [], M) := by
      intro  L'  h
      replace h := hQ6  h
      refine iq_iconst hS 87 J_HSheet_edgeColumn_d86 (v := (-1)) (by decide +kernel) rfl ?_
      exact iq_iret J_HSheet_edgeColumn_d87 rfl rfl ⟨_, rfl, rfl, ed_some h⟩
    obtain ⟨r6, hr6, hq6⟩ := h
    obtain ⟨n6, hn6⟩ := lp_n hr6
    have I6 : ∀ (n : Nat) (x7 : Int32) (x8 : Int32) (L' : List (Nat × Value)), im_lk L' 0 = some (.ref 28) → im_lk L' 1 = some (.int p0) → im_lk L' 2 = some (.int x7) → im_lk L' 3 = some (.int x8) → lpn (uc2 (f_HSheet_edgeColumn_L13 w p0 M)) n (x7, x8) = some r6 → ia (tb_G L xs) (dep + 1) J_HSheet_edgeColumn (rpI M Q) (13, L', [], M) := by
      intro n
      induction n with
      | zero => intro x7 x8 L' l9 l10 l11 l12 hn; exact (lpn_0 hn).elim
      | succ n ih =>
        intro x7 x8 L' l9 l10 l11 l12 hn
        have h := lpn_ed2 hn
        unfold f_HSheet_edgeColumn_L13 at h
        refine iq_iload_n hS 14 J_HSheet_edgeColumn_d13 l12 rfl ?_
        refine iq_bipush hS 16 J_HSheet_edgeColumn_d14 (v := 8) (by decide +kernel) rfl ?_
        refine iq_icmp_ge hS 19 J_HSheet_edgeColumn_d16 (t := 86) rfl (fun q16 => ?_) rfl (fun q16 => ?_)
        · replace h := ed_pos q16 h
          exact K6  _  (lq_r h hq6)
        · replace h := ed_neg q16 h
          refine iq_lconst hS 20 J_HSheet_edgeColumn_d19 (v := 0) (by decide +kernel) rfl ?_
          refine iq_lstore hS 22 J_HSheet_edgeColumn_d20 (by decide) rfl ?_
          refine iq_iconst hS 23 J_HSheet_edgeColumn_d22 (v := 0) (by decide +kernel) rfl ?_
          refine iq_istore hS 25 J_HSheet_edgeColumn_d23 (by decide) rfl ?_
          obtain ⟨Q13, hQ13, h⟩ := bd1_ed h
          have K13 : ∀ (y14 : Int64) (L' : List (Nat × Value)), im_lk L' 0 = some (.ref 28) → im_lk L' 1 = some (.int p0) → im_lk L' 2 = some (.int x7) → im_lk L' 3 = some (.int x8) → im_lk L' 4 = some (.long y14) → Q13 y14 → ia (tb_G L xs) (dep + 1) J_HSheet_edgeColumn (rpI M Q) (57, L', [], M) := by
            intro y14 L' l15 l16 l17 l18 l19 h
            replace h := hQ13 _ h
            refine iq_lload hS 59 J_HSheet_edgeColumn_d57 l19 rfl ?_
            refine iq_lconst hS 60 J_HSheet_edgeColumn_d59 (v := 0) (by decide +kernel) rfl ?_
            refine iq_lcmp hS 61 J_HSheet_edgeColumn_d60 rfl ?_
            refine iq_if_eq hS 64 J_HSheet_edgeColumn_d61 (t := 76) rfl (fun q61 => ?_) rfl (fun q61 => ?_)
            · replace h := ed_pos q61 h
              refine iq_iload_n hS 77 J_HSheet_edgeColumn_d76 l17 rfl ?_
              refine iq_iload_n hS 78 J_HSheet_edgeColumn_d77 l16 rfl ?_
              refine iq_iadd hS 79 J_HSheet_edgeColumn_d78 rfl ?_
              refine iq_istore_n hS 80 J_HSheet_edgeColumn_d79 (by decide) rfl ?_
              refine iq_iincv hS 83 J_HSheet_edgeColumn_d80 (c := 1) (by decide +kernel) (lk_1i l18 (by decide)) (by decide) rfl ?_
              refine iq_goto hS J_HSheet_edgeColumn_d83 (t := 13) rfl ?_
              exact ih _ _ _ (lk_1r (lk_1r l15 (by decide)) (by decide)) (lk_1i (lk_1i l16 (by decide)) (by decide)) (lk_1i lk_1s (by decide)) lk_1s (lq_l h)
            · replace h := ed_neg q61 h
              refine iq_bipush hS 66 J_HSheet_edgeColumn_d64 (v := 64) (by decide +kernel) rfl ?_
              refine iq_iload_n hS 67 J_HSheet_edgeColumn_d66 l17 rfl ?_
              refine iq_imul hS 68 J_HSheet_edgeColumn_d67 rfl ?_
              refine iq_lload hS 70 J_HSheet_edgeColumn_d68 l19 rfl ?_
              refine iq_iload_n hS 71 J_HSheet_edgeColumn_d70 l16 rfl ?_
              obtain ⟨Q20, hQ20, h⟩ := bd1_ed h
              refine iq_cpI hS 74 J_HSheet_edgeColumn_d71 rfl (pr_stat (vs := [_, _]) lc_9_69 lT_193 rfl rfl (by decide) rfl (Nat.le_of_ble_eq_true rfl) (Nat.le_of_ble_eq_true rfl)) (f_HSheet_edgeBit_ok (dep := dep + 0) hM h) rfl ?_
              intro x20 h
              replace h := hQ20 _ h
              refine iq_iadd hS 75 J_HSheet_edgeColumn_d74 rfl ?_
              exact iq_iret J_HSheet_edgeColumn_d75 rfl rfl ⟨_, rfl, rfl, ed_some (hR6 _ (lq_r h hq6))⟩
          obtain ⟨r13, hr13, hq13⟩ := h
          obtain ⟨n13, hn13⟩ := lp_n hr13
          have I13 : ∀ (n : Nat) (x21 : Int64) (x22 : Int32) (L' : List (Nat × Value)), im_lk L' 0 = some (.ref 28) → im_lk L' 1 = some (.int p0) → im_lk L' 2 = some (.int x7) → im_lk L' 3 = some (.int x8) → im_lk L' 4 = some (.long x21) → im_lk L' 6 = some (.int x22) → lpn (uc2 (f_HSheet_edgeColumn_L25 w p0 x7 x8 M)) n (x21, x22) = some r13 → ia (tb_G L xs) (dep + 1) J_HSheet_edgeColumn (rpI M Q) (25, L', [], M) := by
            intro n
            induction n with
            | zero => intro x21 x22 L' l23 l24 l25 l26 l27 l28 hn; exact (lpn_0 hn).elim
            | succ n ih =>
              intro x21 x22 L' l23 l24 l25 l26 l27 l28 hn
              have h := lpn_ed2 hn
              unfold f_HSheet_edgeColumn_L25 at h
              refine iq_iload hS 27 J_HSheet_edgeColumn_d25 l28 rfl ?_
              refine iq_aload_n hS 28 J_HSheet_edgeColumn_d27 l23 rfl ?_
              refine iq_getI hS 31 J_HSheet_edgeColumn_d28 lf_9_15 (Or.inl rfl) (ka_28 hM) rfl ?_
              refine iq_icmp_ge hS 34 J_HSheet_edgeColumn_d31 (t := 57) rfl (fun q31 => ?_) rfl (fun q31 => ?_)
              · replace h := ed_pos q31 h
                exact K13 _ _ l23 l24 l25 l26 l27 (lq_r h hq13)
              · replace h := ed_neg q31 h
                refine iq_lload hS 36 J_HSheet_edgeColumn_d34 l27 rfl ?_
                refine iq_aload_n hS 37 J_HSheet_edgeColumn_d36 l23 rfl ?_
                refine iq_getR hS 40 J_HSheet_edgeColumn_d37 lf_9_18 (Or.inr ⟨_, rfl⟩) (ka_28 hM) (ra_28_sw hM) rfl ?_
                refine iq_iload hS 42 J_HSheet_edgeColumn_d40 l28 rfl ?_
                refine iq_bipush hS 44 J_HSheet_edgeColumn_d42 (v := 8) (by decide +kernel) rfl ?_
                refine iq_imul hS 45 J_HSheet_edgeColumn_d44 rfl ?_
                refine iq_iload_n hS 46 J_HSheet_edgeColumn_d45 l25 rfl ?_
                refine iq_iadd hS 47 J_HSheet_edgeColumn_d46 rfl ?_
                obtain ⟨g47, h⟩ := ed_gd h
                refine iq_laload hS 48 J_HSheet_edgeColumn_d47 ⟨(ka_sw hM).1, (ka_sw hM).2, g47.1, ix_lt (kl_sw hM) g47.2⟩ rfl ?_
                refine iq_lor hS 49 J_HSheet_edgeColumn_d48 rfl ?_
                refine iq_lstore hS 51 J_HSheet_edgeColumn_d49 (by decide) rfl ?_
                refine iq_iincv hS 54 J_HSheet_edgeColumn_d51 (c := 1) (by decide +kernel) (lk_2i l28 (by decide) (by decide)) (by decide) rfl ?_
                refine iq_goto hS J_HSheet_edgeColumn_d54 (t := 25) rfl ?_
                exact ih _ _ _ (lk_1r (lk_2r l23 (by decide) (by decide)) (by decide)) (lk_1i (lk_2i l24 (by decide) (by decide)) (by decide)) (lk_1i (lk_2i l25 (by decide) (by decide)) (by decide)) (lk_1i (lk_2i l26 (by decide) (by decide)) (by decide)) (lk_1l lk_2s (by decide) (by decide)) lk_1s (lq_l h)
          exact I13 n13 _ _ _ (lk_1r (lk_2r l9 (by decide) (by decide)) (by decide)) (lk_1i (lk_2i l10 (by decide) (by decide)) (by decide)) (lk_1i (lk_2i l11 (by decide) (by decide)) (by decide)) (lk_1i (lk_2i l12 (by decide) (by decide)) (by decide)) (lk_1l lk_2s (by decide) (by decide)) lk_1s hn13
    exact I6 n6 _ _ _ (lk_1r (lk_1r l4 (by decide)) (by decide)) (lk_1i (lk_1i l5 (by decide)) (by decide)) (lk_1i lk_1s (by decide)) lk_1s hn6
  refine iq_if_le hS 4 J_HSheet_edgeColumn_d1 (t := 8) rfl (fun q1 => ?_) rfl (fun q1 => ?_)
  · refine iq_bipush hS 10 J_HSheet_edgeColumn_d8 (v := 7) (by decide +kernel) rfl ?_
    exact J1 _ _ (by rw [if_pos q1]) l0 l1
  · refine iq_iconst hS 5 J_HSheet_edgeColumn_d4 (v := 0) (by decide +kernel) rfl ?_
    refine iq_goto hS J_HSheet_edgeColumn_d5 (t := 10) rfl ?_
    exact J1 _ _ (by rw [if_neg q1]) l0 l1
noncomputable def f_HSheet_edgeRow_L28 (w : Bool) (v8 : Int32) (v9 : Int32) (v10 : Int32) (M12 : im_M) (x11 : Int32) : Option ((Int32) ⊕ ((Unit) ⊕ (Int32))) := if 8 ≤ x11 then some (.inr (.inl ())) else gd (inb ((v9 * 8) + x11) 4096) <| if (lg_cmp (im_l M12 (sw w) (Int32.toNatClampNeg ((v9 * 8) + x11))) 0) = 0 then some (.inl (x11 + 1)) else some (.inr (.inr v9))
noncomputable def f_HSheet_edgeRow_L17 (w : Bool) (v3 : Int32) (M6 : im_M) (x4 : Int32) (x5 : Int32) : Option ((Int32 × Int32) ⊕ ((Unit) ⊕ (Int32))) := if (im_i M6 28 1) ≤ x5 then some (.inr (.inl ())) else bs0 (lp (uc1 (f_HSheet_edgeRow_L28 w v3 x4 x5 M6)) 0) (fun (_ : Unit) => some (.inl ((x4 + v3), (x5 + 1)))) (fun t => some (.inr (.inr t)))
noncomputable def f_HSheet_edgeRow (w : Bool) (p0 : Int32) (M : im_M) : Option (Int32) := bs0 (lp (uc2 (f_HSheet_edgeRow_L17 w p0 M)) (((if p0 ≤ 0 then ((im_i M 28 1) - 1) else 0) : Int32), 0)) (fun (_ : Unit) => some (-1)) (fun t => some t)
theorem J_HSheet_edgeRow_d0 : decode J_HSheet_edgeRow.2.1 0 = .ok (.iload_n 1, 1) := by decide +kernel
theorem J_HSheet_edgeRow_d1 : decode J_HSheet_edgeRow.2.1 1 = .ok (.ifCond .le 7, 3) := by decide +kernel
theorem J_HSheet_edgeRow_d4 : decode J_HSheet_edgeRow.2.1 4 = .ok (.iconst 0, 1) := by decide +kernel
theorem J_HSheet_edgeRow_d5 : decode J_HSheet_edgeRow.2.1 5 = .ok (.goto 9, 3) := by decide +kernel
theorem J_HSheet_edgeRow_d8 : decode J_HSheet_edgeRow.2.1 8 = .ok (.aload_n 0, 1) := by decide +kernel
theorem J_HSheet_edgeRow_d9 : decode J_HSheet_edgeRow.2.1 9 = .ok (.getfield 15, 3) := by decide +kernel
theorem J_HSheet_edgeRow_d12 : decode J_HSheet_edgeRow.2.1 12 = .ok (.iconst 1, 1) := by decide +kernel
theorem J_HSheet_edgeRow_d13 : decode J_HSheet_edgeRow.2.1 13 = .ok (.isub, 1) := by decide +kernel
theorem J_HSheet_edgeRow_d14 : decode J_HSheet_edgeRow.2.1 14 = .ok (.istore_n 2, 1) := by decide +kernel
theorem J_HSheet_edgeRow_d15 : decode J_HSheet_edgeRow.2.1 15 = .ok (.iconst 0, 1) := by decide +kernel
theorem J_HSheet_edgeRow_d16 : decode J_HSheet_edgeRow.2.1 16 = .ok (.istore_n 3, 1) := by decide +kernel
theorem J_HSheet_edgeRow_d17 : decode J_HSheet_edgeRow.2.1 17 = .ok (.iload_n 3, 1) := by decide +kernel
theorem J_HSheet_edgeRow_d18 : decode J_HSheet_edgeRow.2.1 18 = .ok (.aload_n 0, 1) := by decide +kernel
theorem J_HSheet_edgeRow_d19 : decode J_HSheet_edgeRow.2.1 19 = .ok (.getfield 15, 3) := by decide +kernel
theorem J_HSheet_edgeRow_d22 : decode J_HSheet_edgeRow.2.1 22 = .ok (.if_icmp .ge 48, 3) := by decide +kernel
theorem J_HSheet_edgeRow_d25 : decode J_HSheet_edgeRow.2.1 25 = .ok (.iconst 0, 1) := by decide +kernel
theorem J_HSheet_edgeRow_d26 : decode J_HSheet_edgeRow.2.1 26 = .ok (.istore 4, 2) := by decide +kernel
theorem J_HSheet_edgeRow_d28 : decode J_HSheet_edgeRow.2.1 28 = .ok (.iload 4, 2) := by decide +kernel
theorem J_HSheet_edgeRow_d30 : decode J_HSheet_edgeRow.2.1 30 = .ok (.bipush 8, 2) := by decide +kernel
theorem J_HSheet_edgeRow_d32 : decode J_HSheet_edgeRow.2.1 32 = .ok (.if_icmp .ge 28, 3) := by decide +kernel
theorem J_HSheet_edgeRow_d35 : decode J_HSheet_edgeRow.2.1 35 = .ok (.aload_n 0, 1) := by decide +kernel
theorem J_HSheet_edgeRow_d36 : decode J_HSheet_edgeRow.2.1 36 = .ok (.getfield 18, 3) := by decide +kernel
theorem J_HSheet_edgeRow_d39 : decode J_HSheet_edgeRow.2.1 39 = .ok (.iload_n 2, 1) := by decide +kernel
theorem J_HSheet_edgeRow_d40 : decode J_HSheet_edgeRow.2.1 40 = .ok (.bipush 8, 2) := by decide +kernel
theorem J_HSheet_edgeRow_d42 : decode J_HSheet_edgeRow.2.1 42 = .ok (.imul, 1) := by decide +kernel
theorem J_HSheet_edgeRow_d43 : decode J_HSheet_edgeRow.2.1 43 = .ok (.iload 4, 2) := by decide +kernel
theorem J_HSheet_edgeRow_d45 : decode J_HSheet_edgeRow.2.1 45 = .ok (.iadd, 1) := by decide +kernel
theorem J_HSheet_edgeRow_d46 : decode J_HSheet_edgeRow.2.1 46 = .ok (.laload, 1) := by decide +kernel
theorem J_HSheet_edgeRow_d47 : decode J_HSheet_edgeRow.2.1 47 = .ok (.lconst 0, 1) := by decide +kernel
theorem J_HSheet_edgeRow_d48 : decode J_HSheet_edgeRow.2.1 48 = .ok (.lcmp, 1) := by decide +kernel
theorem J_HSheet_edgeRow_d49 : decode J_HSheet_edgeRow.2.1 49 = .ok (.ifCond .eq 5, 3) := by decide +kernel
theorem J_HSheet_edgeRow_d52 : decode J_HSheet_edgeRow.2.1 52 = .ok (.iload_n 2, 1) := by decide +kernel
theorem J_HSheet_edgeRow_d53 : decode J_HSheet_edgeRow.2.1 53 = .ok (.ireturn, 1) := by decide +kernel
theorem J_HSheet_edgeRow_d54 : decode J_HSheet_edgeRow.2.1 54 = .ok (.iinc 4 1, 3) := by decide +kernel
theorem J_HSheet_edgeRow_d57 : decode J_HSheet_edgeRow.2.1 57 = .ok (.goto (-29), 3) := by decide +kernel
theorem J_HSheet_edgeRow_d60 : decode J_HSheet_edgeRow.2.1 60 = .ok (.iload_n 2, 1) := by decide +kernel
theorem J_HSheet_edgeRow_d61 : decode J_HSheet_edgeRow.2.1 61 = .ok (.iload_n 1, 1) := by decide +kernel
theorem J_HSheet_edgeRow_d62 : decode J_HSheet_edgeRow.2.1 62 = .ok (.iadd, 1) := by decide +kernel
theorem J_HSheet_edgeRow_d63 : decode J_HSheet_edgeRow.2.1 63 = .ok (.istore_n 2, 1) := by decide +kernel
theorem J_HSheet_edgeRow_d64 : decode J_HSheet_edgeRow.2.1 64 = .ok (.iinc 3 1, 3) := by decide +kernel
theorem J_HSheet_edgeRow_d67 : decode J_HSheet_edgeRow.2.1 67 = .ok (.goto (-50), 3) := by decide +kernel
theorem J_HSheet_edgeRow_d70 : decode J_HSheet_edgeRow.2.1 70 = .ok (.iconst (-1), 1) := by decide +kernel
theorem J_HSheet_edgeRow_d71 : decode J_HSheet_edgeRow.2.1 71 = .ok (.ireturn, 1) := by decide +kernel
theorem f_HSheet_edgeRow_ok {L : Nat} {xs : Nat → Int32} {dep : Nat} {w : Bool} {p0 : Int32} {M : im_M} {Q : Int32 → Prop} (hM : lw_S w M) (h : ed (f_HSheet_edgeRow w p0 M) Q) : ia (tb_G L xs) dep J_HSheet_edgeRow (rpI M Q) (0, lv_args 0 [.ref 28, .int p0], [], M) := by
  have hS : im_St (tb_G L xs) dep J_HSheet_edgeRow (ia (tb_G L xs) dep J_HSheet_edgeRow (rpI M Q)) := ia_St
  unfold f_HSheet_edgeRow at h
  have l0 : im_lk (lv_args 0 [.ref 28, .int p0]) 0 = some (.ref 28) := rfl
  have l1 : im_lk (lv_args 0 [.ref 28, .int p0]) 1 = some (.int p0) := rfl
  refine iq_iload_n hS 1 J_HSheet_edgeRow_d0 l1 rfl ?_
  have J1 : ∀ (z2 : Int32) (L' : List (Nat × Value)), z2 = ((if p0 ≤ 0 then ((im_i M 28 1) - 1) else 0) : Int32) → im_lk L' 0 = some (.ref 28) → im_lk L' 1 = some (.int p0) → ia (tb_G L xs) dep J_HSheet_edgeRow (rpI M Q) (14, L', [.int z2], M) := by
    intro z2 L' e3 l4 l5
    subst e3
    refine iq_istore_n hS 15 J_HSheet_edgeRow_d14 (by decide) rfl ?_
    refine iq_iconst hS 16 J_HSheet_edgeRow_d15 (v := 0) (by decide +kernel) rfl ?_
    refine iq_istore_n hS 17 J_HSheet_edgeRow_d16 (by decide) rfl ?_
    obtain ⟨Q6, hQ6, hR6, h⟩ := bs0_ed h
    have K6 : ∀  (L' : List (Nat × Value)), Q6 (.inl ()) → ia (tb_G L xs) dep J_HSheet_edgeRow (rpI M Q) (70, L', [], M) := by
      intro  L'  h
      replace h := hQ6  h
      refine iq_iconst hS 71 J_HSheet_edgeRow_d70 (v := (-1)) (by decide +kernel) rfl ?_
      exact iq_iret J_HSheet_edgeRow_d71 rfl rfl ⟨_, rfl, rfl, ed_some h⟩
    obtain ⟨r6, hr6, hq6⟩ := h
    obtain ⟨n6, hn6⟩ := lp_n hr6
    have I6 : ∀ (n : Nat) (x7 : Int32) (x8 : Int32) (L' : List (Nat × Value)), im_lk L' 0 = some (.ref 28) → im_lk L' 1 = some (.int p0) → im_lk L' 2 = some (.int x7) → im_lk L' 3 = some (.int x8) → lpn (uc2 (f_HSheet_edgeRow_L17 w p0 M)) n (x7, x8) = some r6 → ia (tb_G L xs) dep J_HSheet_edgeRow (rpI M Q) (17, L', [], M) := by
      intro n
      induction n with
      | zero => intro x7 x8 L' l9 l10 l11 l12 hn; exact (lpn_0 hn).elim
      | succ n ih =>
        intro x7 x8 L' l9 l10 l11 l12 hn
        have h := lpn_ed2 hn
        unfold f_HSheet_edgeRow_L17 at h
        refine iq_iload_n hS 18 J_HSheet_edgeRow_d17 l12 rfl ?_
        refine iq_aload_n hS 19 J_HSheet_edgeRow_d18 l9 rfl ?_
        refine iq_getI hS 22 J_HSheet_edgeRow_d19 lf_9_15 (Or.inl rfl) (ka_28 hM) rfl ?_
        refine iq_icmp_ge hS 25 J_HSheet_edgeRow_d22 (t := 70) rfl (fun q22 => ?_) rfl (fun q22 => ?_)
        · replace h := ed_pos q22 h
          exact K6  _  (lq_r h hq6)
        · replace h := ed_neg q22 h
          refine iq_iconst hS 26 J_HSheet_edgeRow_d25 (v := 0) (by decide +kernel) rfl ?_
          refine iq_istore hS 28 J_HSheet_edgeRow_d26 (by decide) rfl ?_
          obtain ⟨Q13, hQ13, hR13, h⟩ := bs0_ed h
          have K13 : ∀  (L' : List (Nat × Value)), im_lk L' 0 = some (.ref 28) → im_lk L' 1 = some (.int p0) → im_lk L' 2 = some (.int x7) → im_lk L' 3 = some (.int x8) → Q13 (.inl ()) → ia (tb_G L xs) dep J_HSheet_edgeRow (rpI M Q) (60, L', [], M) := by
            intro  L' l14 l15 l16 l17 h
            replace h := hQ13  h
            refine iq_iload_n hS 61 J_HSheet_edgeRow_d60 l16 rfl ?_
            refine iq_iload_n hS 62 J_HSheet_edgeRow_d61 l15 rfl ?_
            refine iq_iadd hS 63 J_HSheet_edgeRow_d62 rfl ?_
            refine iq_istore_n hS 64 J_HSheet_edgeRow_d63 (by decide) rfl ?_
            refine iq_iincv hS 67 J_HSheet_edgeRow_d64 (c := 1) (by decide +kernel) (lk_1i l17 (by decide)) (by decide) rfl ?_
            refine iq_goto hS J_HSheet_edgeRow_d67 (t := 17) rfl ?_
            exact ih _ _ _ (lk_1r (lk_1r l14 (by decide)) (by decide)) (lk_1i (lk_1i l15 (by decide)) (by decide)) (lk_1i lk_1s (by decide)) lk_1s (lq_l h)
          obtain ⟨r13, hr13, hq13⟩ := h
          obtain ⟨n13, hn13⟩ := lp_n hr13
          have I13 : ∀ (n : Nat) (x18 : Int32) (L' : List (Nat × Value)), im_lk L' 0 = some (.ref 28) → im_lk L' 1 = some (.int p0) → im_lk L' 2 = some (.int x7) → im_lk L' 3 = some (.int x8) → im_lk L' 4 = some (.int x18) → lpn (uc1 (f_HSheet_edgeRow_L28 w p0 x7 x8 M)) n x18 = some r13 → ia (tb_G L xs) dep J_HSheet_edgeRow (rpI M Q) (28, L', [], M) := by
            intro n
            induction n with
            | zero => intro x18 L' l19 l20 l21 l22 l23 hn; exact (lpn_0 hn).elim
            | succ n ih =>
              intro x18 L' l19 l20 l21 l22 l23 hn
              have h := lpn_ed1 hn
              unfold f_HSheet_edgeRow_L28 at h
              refine iq_iload hS 30 J_HSheet_edgeRow_d28 l23 rfl ?_
              refine iq_bipush hS 32 J_HSheet_edgeRow_d30 (v := 8) (by decide +kernel) rfl ?_
              refine iq_icmp_ge hS 35 J_HSheet_edgeRow_d32 (t := 60) rfl (fun q32 => ?_) rfl (fun q32 => ?_)
              · replace h := ed_pos q32 h
                exact K13  _ l19 l20 l21 l22 (lq_r h hq13)
              · replace h := ed_neg q32 h
                refine iq_aload_n hS 36 J_HSheet_edgeRow_d35 l19 rfl ?_
                refine iq_getR hS 39 J_HSheet_edgeRow_d36 lf_9_18 (Or.inr ⟨_, rfl⟩) (ka_28 hM) (ra_28_sw hM) rfl ?_
                refine iq_iload_n hS 40 J_HSheet_edgeRow_d39 l21 rfl ?_
                refine iq_bipush hS 42 J_HSheet_edgeRow_d40 (v := 8) (by decide +kernel) rfl ?_
                refine iq_imul hS 43 J_HSheet_edgeRow_d42 rfl ?_
                refine iq_iload hS 45 J_HSheet_edgeRow_d43 l23 rfl ?_
                refine iq_iadd hS 46 J_HSheet_edgeRow_d45 rfl ?_
                obtain ⟨g46, h⟩ := ed_gd h
                refine iq_laload hS 47 J_HSheet_edgeRow_d46 ⟨(ka_sw hM).1, (ka_sw hM).2, g46.1, ix_lt (kl_sw hM) g46.2⟩ rfl ?_
                refine iq_lconst hS 48 J_HSheet_edgeRow_d47 (v := 0) (by decide +kernel) rfl ?_
                refine iq_lcmp hS 49 J_HSheet_edgeRow_d48 rfl ?_
                refine iq_if_eq hS 52 J_HSheet_edgeRow_d49 (t := 54) rfl (fun q49 => ?_) rfl (fun q49 => ?_)
                · replace h := ed_pos q49 h
                  refine iq_iincv hS 57 J_HSheet_edgeRow_d54 (c := 1) (by decide +kernel) l23 (by decide) rfl ?_
                  refine iq_goto hS J_HSheet_edgeRow_d57 (t := 28) rfl ?_
                  exact ih _ _ (lk_1r l19 (by decide)) (lk_1i l20 (by decide)) (lk_1i l21 (by decide)) (lk_1i l22 (by decide)) lk_1s (lq_l h)
                · replace h := ed_neg q49 h
                  refine iq_iload_n hS 53 J_HSheet_edgeRow_d52 l21 rfl ?_
                  exact iq_iret J_HSheet_edgeRow_d53 rfl rfl ⟨_, rfl, rfl, ed_some (hR6 _ (lq_r (hR13 _ (lq_r h hq13)) hq6))⟩
          exact I13 n13 _ _ (lk_1r l9 (by decide)) (lk_1i l10 (by decide)) (lk_1i l11 (by decide)) (lk_1i l12 (by decide)) lk_1s hn13
    exact I6 n6 _ _ _ (lk_1r (lk_1r l4 (by decide)) (by decide)) (lk_1i (lk_1i l5 (by decide)) (by decide)) (lk_1i lk_1s (by decide)) lk_1s hn6
  refine iq_if_le hS 4 J_HSheet_edgeRow_d1 (t := 8) rfl (fun q1 => ?_) rfl (fun q1 => ?_)
  · refine iq_aload_n hS 9 J_HSheet_edgeRow_d8 l0 rfl ?_
    refine iq_getI hS 12 J_HSheet_edgeRow_d9 lf_9_15 (Or.inl rfl) (ka_28 hM) rfl ?_
    refine iq_iconst hS 13 J_HSheet_edgeRow_d12 (v := 1) (by decide +kernel) rfl ?_
    refine iq_isub hS 14 J_HSheet_edgeRow_d13 rfl ?_
    exact J1 _ _ (by rw [if_pos q1]) l0 l1
  · refine iq_iconst hS 5 J_HSheet_edgeRow_d4 (v := 0) (by decide +kernel) rfl ?_
    refine iq_goto hS J_HSheet_edgeRow_d5 (t := 14) rfl ?_
    exact J1 _ _ (by rw [if_neg q1]) l0 l1
noncomputable def f_Long_bitCount (p0 : Int64) (M : im_M) : Option (Int32) := some ((Int64.toInt32 ((((((((p0 - ((Int64.toUInt64 p0 >>> ((Int32.toInt64 1).toUInt64 &&& Int64.toUInt64 63)).toInt64 &&& 6148914691236517205)) &&& 3689348814741910323) + ((Int64.toUInt64 (p0 - ((Int64.toUInt64 p0 >>> ((Int32.toInt64 1).toUInt64 &&& Int64.toUInt64 63)).toInt64 &&& 6148914691236517205)) >>> ((Int32.toInt64 2).toUInt64 &&& Int64.toUInt64 63)).toInt64 &&& 3689348814741910323)) + (Int64.toUInt64 (((p0 - ((Int64.toUInt64 p0 >>> ((Int32.toInt64 1).toUInt64 &&& Int64.toUInt64 63)).toInt64 &&& 6148914691236517205)) &&& 3689348814741910323) + ((Int64.toUInt64 (p0 - ((Int64.toUInt64 p0 >>> ((Int32.toInt64 1).toUInt64 &&& Int64.toUInt64 63)).toInt64 &&& 6148914691236517205)) >>> ((Int32.toInt64 2).toUInt64 &&& Int64.toUInt64 63)).toInt64 &&& 3689348814741910323)) >>> ((Int32.toInt64 4).toUInt64 &&& Int64.toUInt64 63)).toInt64) &&& 1085102592571150095) + (Int64.toUInt64 (((((p0 - ((Int64.toUInt64 p0 >>> ((Int32.toInt64 1).toUInt64 &&& Int64.toUInt64 63)).toInt64 &&& 6148914691236517205)) &&& 3689348814741910323) + ((Int64.toUInt64 (p0 - ((Int64.toUInt64 p0 >>> ((Int32.toInt64 1).toUInt64 &&& Int64.toUInt64 63)).toInt64 &&& 6148914691236517205)) >>> ((Int32.toInt64 2).toUInt64 &&& Int64.toUInt64 63)).toInt64 &&& 3689348814741910323)) + (Int64.toUInt64 (((p0 - ((Int64.toUInt64 p0 >>> ((Int32.toInt64 1).toUInt64 &&& Int64.toUInt64 63)).toInt64 &&& 6148914691236517205)) &&& 3689348814741910323) + ((Int64.toUInt64 (p0 - ((Int64.toUInt64 p0 >>> ((Int32.toInt64 1).toUInt64 &&& Int64.toUInt64 63)).toInt64 &&& 6148914691236517205)) >>> ((Int32.toInt64 2).toUInt64 &&& Int64.toUInt64 63)).toInt64 &&& 3689348814741910323)) >>> ((Int32.toInt64 4).toUInt64 &&& Int64.toUInt64 63)).toInt64) &&& 1085102592571150095) >>> ((Int32.toInt64 8).toUInt64 &&& Int64.toUInt64 63)).toInt64) + (Int64.toUInt64 ((((((p0 - ((Int64.toUInt64 p0 >>> ((Int32.toInt64 1).toUInt64 &&& Int64.toUInt64 63)).toInt64 &&& 6148914691236517205)) &&& 3689348814741910323) + ((Int64.toUInt64 (p0 - ((Int64.toUInt64 p0 >>> ((Int32.toInt64 1).toUInt64 &&& Int64.toUInt64 63)).toInt64 &&& 6148914691236517205)) >>> ((Int32.toInt64 2).toUInt64 &&& Int64.toUInt64 63)).toInt64 &&& 3689348814741910323)) + (Int64.toUInt64 (((p0 - ((Int64.toUInt64 p0 >>> ((Int32.toInt64 1).toUInt64 &&& Int64.toUInt64 63)).toInt64 &&& 6148914691236517205)) &&& 3689348814741910323) + ((Int64.toUInt64 (p0 - ((Int64.toUInt64 p0 >>> ((Int32.toInt64 1).toUInt64 &&& Int64.toUInt64 63)).toInt64 &&& 6148914691236517205)) >>> ((Int32.toInt64 2).toUInt64 &&& Int64.toUInt64 63)).toInt64 &&& 3689348814741910323)) >>> ((Int32.toInt64 4).toUInt64 &&& Int64.toUInt64 63)).toInt64) &&& 1085102592571150095) + (Int64.toUInt64 (((((p0 - ((Int64.toUInt64 p0 >>> ((Int32.toInt64 1).toUInt64 &&& Int64.toUInt64 63)).toInt64 &&& 6148914691236517205)) &&& 3689348814741910323) + ((Int64.toUInt64 (p0 - ((Int64.toUInt64 p0 >>> ((Int32.toInt64 1).toUInt64 &&& Int64.toUInt64 63)).toInt64 &&& 6148914691236517205)) >>> ((Int32.toInt64 2).toUInt64 &&& Int64.toUInt64 63)).toInt64 &&& 3689348814741910323)) + (Int64.toUInt64 (((p0 - ((Int64.toUInt64 p0 >>> ((Int32.toInt64 1).toUInt64 &&& Int64.toUInt64 63)).toInt64 &&& 6148914691236517205)) &&& 3689348814741910323) + ((Int64.toUInt64 (p0 - ((Int64.toUInt64 p0 >>> ((Int32.toInt64 1).toUInt64 &&& Int64.toUInt64 63)).toInt64 &&& 6148914691236517205)) >>> ((Int32.toInt64 2).toUInt64 &&& Int64.toUInt64 63)).toInt64 &&& 3689348814741910323)) >>> ((Int32.toInt64 4).toUInt64 &&& Int64.toUInt64 63)).toInt64) &&& 1085102592571150095) >>> ((Int32.toInt64 8).toUInt64 &&& Int64.toUInt64 63)).toInt64) >>> ((Int32.toInt64 16).toUInt64 &&& Int64.toUInt64 63)).toInt64) + (Int64.toUInt64 (((((((p0 - ((Int64.toUInt64 p0 >>> ((Int32.toInt64 1).toUInt64 &&& Int64.toUInt64 63)).toInt64 &&& 6148914691236517205)) &&& 3689348814741910323) + ((Int64.toUInt64 (p0 - ((Int64.toUInt64 p0 >>> ((Int32.toInt64 1).toUInt64 &&& Int64.toUInt64 63)).toInt64 &&& 6148914691236517205)) >>> ((Int32.toInt64 2).toUInt64 &&& Int64.toUInt64 63)).toInt64 &&& 3689348814741910323)) + (Int64.toUInt64 (((p0 - ((Int64.toUInt64 p0 >>> ((Int32.toInt64 1).toUInt64 &&& Int64.toUInt64 63)).toInt64 &&& 6148914691236517205)) &&& 3689348814741910323) + ((Int64.toUInt64 (p0 - ((Int64.toUInt64 p0 >>> ((Int32.toInt64 1).toUInt64 &&& Int64.toUInt64 63)).toInt64 &&& 6148914691236517205)) >>> ((Int32.toInt64 2).toUInt64 &&& Int64.toUInt64 63)).toInt64 &&& 3689348814741910323)) >>> ((Int32.toInt64 4).toUInt64 &&& Int64.toUInt64 63)).toInt64) &&& 1085102592571150095) + (Int64.toUInt64 (((((p0 - ((Int64.toUInt64 p0 >>> ((Int32.toInt64 1).toUInt64 &&& Int64.toUInt64 63)).toInt64 &&& 6148914691236517205)) &&& 3689348814741910323) + ((Int64.toUInt64 (p0 - ((Int64.toUInt64 p0 >>> ((Int32.toInt64 1).toUInt64 &&& Int64.toUInt64 63)).toInt64 &&& 6148914691236517205)) >>> ((Int32.toInt64 2).toUInt64 &&& Int64.toUInt64 63)).toInt64 &&& 3689348814741910323)) + (Int64.toUInt64 (((p0 - ((Int64.toUInt64 p0 >>> ((Int32.toInt64 1).toUInt64 &&& Int64.toUInt64 63)).toInt64 &&& 6148914691236517205)) &&& 3689348814741910323) + ((Int64.toUInt64 (p0 - ((Int64.toUInt64 p0 >>> ((Int32.toInt64 1).toUInt64 &&& Int64.toUInt64 63)).toInt64 &&& 6148914691236517205)) >>> ((Int32.toInt64 2).toUInt64 &&& Int64.toUInt64 63)).toInt64 &&& 3689348814741910323)) >>> ((Int32.toInt64 4).toUInt64 &&& Int64.toUInt64 63)).toInt64) &&& 1085102592571150095) >>> ((Int32.toInt64 8).toUInt64 &&& Int64.toUInt64 63)).toInt64) + (Int64.toUInt64 ((((((p0 - ((Int64.toUInt64 p0 >>> ((Int32.toInt64 1).toUInt64 &&& Int64.toUInt64 63)).toInt64 &&& 6148914691236517205)) &&& 3689348814741910323) + ((Int64.toUInt64 (p0 - ((Int64.toUInt64 p0 >>> ((Int32.toInt64 1).toUInt64 &&& Int64.toUInt64 63)).toInt64 &&& 6148914691236517205)) >>> ((Int32.toInt64 2).toUInt64 &&& Int64.toUInt64 63)).toInt64 &&& 3689348814741910323)) + (Int64.toUInt64 (((p0 - ((Int64.toUInt64 p0 >>> ((Int32.toInt64 1).toUInt64 &&& Int64.toUInt64 63)).toInt64 &&& 6148914691236517205)) &&& 3689348814741910323) + ((Int64.toUInt64 (p0 - ((Int64.toUInt64 p0 >>> ((Int32.toInt64 1).toUInt64 &&& Int64.toUInt64 63)).toInt64 &&& 6148914691236517205)) >>> ((Int32.toInt64 2).toUInt64 &&& Int64.toUInt64 63)).toInt64 &&& 3689348814741910323)) >>> ((Int32.toInt64 4).toUInt64 &&& Int64.toUInt64 63)).toInt64) &&& 1085102592571150095) + (Int64.toUInt64 (((((p0 - ((Int64.toUInt64 p0 >>> ((Int32.toInt64 1).toUInt64 &&& Int64.toUInt64 63)).toInt64 &&& 6148914691236517205)) &&& 3689348814741910323) + ((Int64.toUInt64 (p0 - ((Int64.toUInt64 p0 >>> ((Int32.toInt64 1).toUInt64 &&& Int64.toUInt64 63)).toInt64 &&& 6148914691236517205)) >>> ((Int32.toInt64 2).toUInt64 &&& Int64.toUInt64 63)).toInt64 &&& 3689348814741910323)) + (Int64.toUInt64 (((p0 - ((Int64.toUInt64 p0 >>> ((Int32.toInt64 1).toUInt64 &&& Int64.toUInt64 63)).toInt64 &&& 6148914691236517205)) &&& 3689348814741910323) + ((Int64.toUInt64 (p0 - ((Int64.toUInt64 p0 >>> ((Int32.toInt64 1).toUInt64 &&& Int64.toUInt64 63)).toInt64 &&& 6148914691236517205)) >>> ((Int32.toInt64 2).toUInt64 &&& Int64.toUInt64 63)).toInt64 &&& 3689348814741910323)) >>> ((Int32.toInt64 4).toUInt64 &&& Int64.toUInt64 63)).toInt64) &&& 1085102592571150095) >>> ((Int32.toInt64 8).toUInt64 &&& Int64.toUInt64 63)).toInt64) >>> ((Int32.toInt64 16).toUInt64 &&& Int64.toUInt64 63)).toInt64) >>> ((Int32.toInt64 32).toUInt64 &&& Int64.toUInt64 63)).toInt64)) &&& 127)
theorem J_Long_bitCount_d0 : decode J_Long_bitCount.2.1 0 = .ok (.lload_n 0, 1) := by decide +kernel
theorem J_Long_bitCount_d1 : decode J_Long_bitCount.2.1 1 = .ok (.lload_n 0, 1) := by decide +kernel
theorem J_Long_bitCount_d2 : decode J_Long_bitCount.2.1 2 = .ok (.iconst 1, 1) := by decide +kernel
theorem J_Long_bitCount_d3 : decode J_Long_bitCount.2.1 3 = .ok (.lushr, 1) := by decide +kernel
theorem J_Long_bitCount_d4 : decode J_Long_bitCount.2.1 4 = .ok (.ldc2_w 314, 3) := by decide +kernel
theorem J_Long_bitCount_d7 : decode J_Long_bitCount.2.1 7 = .ok (.land, 1) := by decide +kernel
theorem J_Long_bitCount_d8 : decode J_Long_bitCount.2.1 8 = .ok (.lsub, 1) := by decide +kernel
theorem J_Long_bitCount_d9 : decode J_Long_bitCount.2.1 9 = .ok (.lstore_n 0, 1) := by decide +kernel
theorem J_Long_bitCount_d10 : decode J_Long_bitCount.2.1 10 = .ok (.lload_n 0, 1) := by decide +kernel
theorem J_Long_bitCount_d11 : decode J_Long_bitCount.2.1 11 = .ok (.ldc2_w 316, 3) := by decide +kernel
theorem J_Long_bitCount_d14 : decode J_Long_bitCount.2.1 14 = .ok (.land, 1) := by decide +kernel
theorem J_Long_bitCount_d15 : decode J_Long_bitCount.2.1 15 = .ok (.lload_n 0, 1) := by decide +kernel
theorem J_Long_bitCount_d16 : decode J_Long_bitCount.2.1 16 = .ok (.iconst 2, 1) := by decide +kernel
theorem J_Long_bitCount_d17 : decode J_Long_bitCount.2.1 17 = .ok (.lushr, 1) := by decide +kernel
theorem J_Long_bitCount_d18 : decode J_Long_bitCount.2.1 18 = .ok (.ldc2_w 316, 3) := by decide +kernel
theorem J_Long_bitCount_d21 : decode J_Long_bitCount.2.1 21 = .ok (.land, 1) := by decide +kernel
theorem J_Long_bitCount_d22 : decode J_Long_bitCount.2.1 22 = .ok (.ladd, 1) := by decide +kernel
theorem J_Long_bitCount_d23 : decode J_Long_bitCount.2.1 23 = .ok (.lstore_n 0, 1) := by decide +kernel
theorem J_Long_bitCount_d24 : decode J_Long_bitCount.2.1 24 = .ok (.lload_n 0, 1) := by decide +kernel
theorem J_Long_bitCount_d25 : decode J_Long_bitCount.2.1 25 = .ok (.lload_n 0, 1) := by decide +kernel
theorem J_Long_bitCount_d26 : decode J_Long_bitCount.2.1 26 = .ok (.iconst 4, 1) := by decide +kernel
theorem J_Long_bitCount_d27 : decode J_Long_bitCount.2.1 27 = .ok (.lushr, 1) := by decide +kernel
theorem J_Long_bitCount_d28 : decode J_Long_bitCount.2.1 28 = .ok (.ladd, 1) := by decide +kernel
theorem J_Long_bitCount_d29 : decode J_Long_bitCount.2.1 29 = .ok (.ldc2_w 318, 3) := by decide +kernel
theorem J_Long_bitCount_d32 : decode J_Long_bitCount.2.1 32 = .ok (.land, 1) := by decide +kernel
theorem J_Long_bitCount_d33 : decode J_Long_bitCount.2.1 33 = .ok (.lstore_n 0, 1) := by decide +kernel
theorem J_Long_bitCount_d34 : decode J_Long_bitCount.2.1 34 = .ok (.lload_n 0, 1) := by decide +kernel
theorem J_Long_bitCount_d35 : decode J_Long_bitCount.2.1 35 = .ok (.lload_n 0, 1) := by decide +kernel
theorem J_Long_bitCount_d36 : decode J_Long_bitCount.2.1 36 = .ok (.bipush 8, 2) := by decide +kernel
theorem J_Long_bitCount_d38 : decode J_Long_bitCount.2.1 38 = .ok (.lushr, 1) := by decide +kernel
theorem J_Long_bitCount_d39 : decode J_Long_bitCount.2.1 39 = .ok (.ladd, 1) := by decide +kernel
theorem J_Long_bitCount_d40 : decode J_Long_bitCount.2.1 40 = .ok (.lstore_n 0, 1) := by decide +kernel
theorem J_Long_bitCount_d41 : decode J_Long_bitCount.2.1 41 = .ok (.lload_n 0, 1) := by decide +kernel
theorem J_Long_bitCount_d42 : decode J_Long_bitCount.2.1 42 = .ok (.lload_n 0, 1) := by decide +kernel
theorem J_Long_bitCount_d43 : decode J_Long_bitCount.2.1 43 = .ok (.bipush 16, 2) := by decide +kernel
theorem J_Long_bitCount_d45 : decode J_Long_bitCount.2.1 45 = .ok (.lushr, 1) := by decide +kernel
theorem J_Long_bitCount_d46 : decode J_Long_bitCount.2.1 46 = .ok (.ladd, 1) := by decide +kernel
theorem J_Long_bitCount_d47 : decode J_Long_bitCount.2.1 47 = .ok (.lstore_n 0, 1) := by decide +kernel
theorem J_Long_bitCount_d48 : decode J_Long_bitCount.2.1 48 = .ok (.lload_n 0, 1) := by decide +kernel
theorem J_Long_bitCount_d49 : decode J_Long_bitCount.2.1 49 = .ok (.lload_n 0, 1) := by decide +kernel
theorem J_Long_bitCount_d50 : decode J_Long_bitCount.2.1 50 = .ok (.bipush 32, 2) := by decide +kernel
theorem J_Long_bitCount_d52 : decode J_Long_bitCount.2.1 52 = .ok (.lushr, 1) := by decide +kernel
theorem J_Long_bitCount_d53 : decode J_Long_bitCount.2.1 53 = .ok (.ladd, 1) := by decide +kernel
theorem J_Long_bitCount_d54 : decode J_Long_bitCount.2.1 54 = .ok (.lstore_n 0, 1) := by decide +kernel
theorem J_Long_bitCount_d55 : decode J_Long_bitCount.2.1 55 = .ok (.lload_n 0, 1) := by decide +kernel
theorem J_Long_bitCount_d56 : decode J_Long_bitCount.2.1 56 = .ok (.l2i, 1) := by decide +kernel
theorem J_Long_bitCount_d57 : decode J_Long_bitCount.2.1 57 = .ok (.bipush 127, 2) := by decide +kernel
theorem J_Long_bitCount_d59 : decode J_Long_bitCount.2.1 59 = .ok (.iand, 1) := by decide +kernel
theorem J_Long_bitCount_d60 : decode J_Long_bitCount.2.1 60 = .ok (.ireturn, 1) := by decide +kernel
theorem f_Long_bitCount_ok {L : Nat} {xs : Nat → Int32} {dep : Nat} {w : Bool} {p0 : Int64} {M : im_M} {Q : Int32 → Prop} (hM : lw_S w M) (h : ed (f_Long_bitCount p0 M) Q) : ia (tb_G L xs) dep J_Long_bitCount (rpI M Q) (0, lv_args 0 [.long p0], [], M) := by
  have hS : im_St (tb_G L xs) dep J_Long_bitCount (ia (tb_G L xs) dep J_Long_bitCount (rpI M Q)) := ia_St
  unfold f_Long_bitCount at h
  have l0 : im_lk (lv_args 0 [.long p0]) 0 = some (.long p0) := rfl
  refine iq_lload_n hS 1 J_Long_bitCount_d0 l0 rfl ?_
  refine iq_lload_n hS 2 J_Long_bitCount_d1 l0 rfl ?_
  refine iq_iconst hS 3 J_Long_bitCount_d2 (v := 1) (by decide +kernel) rfl ?_
  refine iq_lushr hS 4 J_Long_bitCount_d3 rfl ?_
  refine iq_ldc2_w hS 7 J_Long_bitCount_d4 lk_24_314 rfl ?_
  refine iq_land hS 8 J_Long_bitCount_d7 rfl ?_
  refine iq_lsub hS 9 J_Long_bitCount_d8 rfl ?_
  refine iq_lstore_n hS 10 J_Long_bitCount_d9 (by decide) rfl ?_
  refine iq_lload_n hS 11 J_Long_bitCount_d10 lk_2s rfl ?_
  refine iq_ldc2_w hS 14 J_Long_bitCount_d11 lk_24_316 rfl ?_
  refine iq_land hS 15 J_Long_bitCount_d14 rfl ?_
  refine iq_lload_n hS 16 J_Long_bitCount_d15 lk_2s rfl ?_
  refine iq_iconst hS 17 J_Long_bitCount_d16 (v := 2) (by decide +kernel) rfl ?_
  refine iq_lushr hS 18 J_Long_bitCount_d17 rfl ?_
  refine iq_ldc2_w hS 21 J_Long_bitCount_d18 lk_24_316 rfl ?_
  refine iq_land hS 22 J_Long_bitCount_d21 rfl ?_
  refine iq_ladd hS 23 J_Long_bitCount_d22 rfl ?_
  refine iq_lstore_n hS 24 J_Long_bitCount_d23 (by decide) rfl ?_
  refine iq_lload_n hS 25 J_Long_bitCount_d24 lk_2s rfl ?_
  refine iq_lload_n hS 26 J_Long_bitCount_d25 lk_2s rfl ?_
  refine iq_iconst hS 27 J_Long_bitCount_d26 (v := 4) (by decide +kernel) rfl ?_
  refine iq_lushr hS 28 J_Long_bitCount_d27 rfl ?_
  refine iq_ladd hS 29 J_Long_bitCount_d28 rfl ?_
  refine iq_ldc2_w hS 32 J_Long_bitCount_d29 lk_24_318 rfl ?_
  refine iq_land hS 33 J_Long_bitCount_d32 rfl ?_
  refine iq_lstore_n hS 34 J_Long_bitCount_d33 (by decide) rfl ?_
  refine iq_lload_n hS 35 J_Long_bitCount_d34 lk_2s rfl ?_
  refine iq_lload_n hS 36 J_Long_bitCount_d35 lk_2s rfl ?_
  refine iq_bipush hS 38 J_Long_bitCount_d36 (v := 8) (by decide +kernel) rfl ?_
  refine iq_lushr hS 39 J_Long_bitCount_d38 rfl ?_
  refine iq_ladd hS 40 J_Long_bitCount_d39 rfl ?_
  refine iq_lstore_n hS 41 J_Long_bitCount_d40 (by decide) rfl ?_
  refine iq_lload_n hS 42 J_Long_bitCount_d41 lk_2s rfl ?_
  refine iq_lload_n hS 43 J_Long_bitCount_d42 lk_2s rfl ?_
  refine iq_bipush hS 45 J_Long_bitCount_d43 (v := 16) (by decide +kernel) rfl ?_
  refine iq_lushr hS 46 J_Long_bitCount_d45 rfl ?_
  refine iq_ladd hS 47 J_Long_bitCount_d46 rfl ?_
  refine iq_lstore_n hS 48 J_Long_bitCount_d47 (by decide) rfl ?_
  refine iq_lload_n hS 49 J_Long_bitCount_d48 lk_2s rfl ?_
  refine iq_lload_n hS 50 J_Long_bitCount_d49 lk_2s rfl ?_
  refine iq_bipush hS 52 J_Long_bitCount_d50 (v := 32) (by decide +kernel) rfl ?_
  refine iq_lushr hS 53 J_Long_bitCount_d52 rfl ?_
  refine iq_ladd hS 54 J_Long_bitCount_d53 rfl ?_
  refine iq_lstore_n hS 55 J_Long_bitCount_d54 (by decide) rfl ?_
  refine iq_lload_n hS 56 J_Long_bitCount_d55 lk_2s rfl ?_
  refine iq_l2i hS 57 J_Long_bitCount_d56 rfl ?_
  refine iq_bipush hS 59 J_Long_bitCount_d57 (v := 127) (by decide +kernel) rfl ?_
  refine iq_iand hS 60 J_Long_bitCount_d59 rfl ?_
  exact iq_iret J_Long_bitCount_d60 rfl rfl ⟨_, rfl, rfl, ed_some h⟩
noncomputable def f_HSheet_darkCount_L4 (w : Bool) (M4 : im_M) (x2 : Int32) (x3 : Int32) : Option ((Int32 × Int32) ⊕ (Int32)) := if ((im_i M4 28 1) * 8) ≤ x3 then some (.inr x2) else gd (inb x3 4096) <| bd1 (f_Long_bitCount (im_l M4 (sw w) (Int32.toNatClampNeg x3)) M4) fun (x5 : Int32) => some (.inl ((x2 + x5), (x3 + 1)))
noncomputable def f_HSheet_darkCount (w : Bool) (M : im_M) : Option (Int32) := bd1 (lp (uc2 (f_HSheet_darkCount_L4 w M)) (0, 0)) fun (y6 : Int32) => some y6
theorem J_HSheet_darkCount_d0 : decode J_HSheet_darkCount.2.1 0 = .ok (.iconst 0, 1) := by decide +kernel
theorem J_HSheet_darkCount_d1 : decode J_HSheet_darkCount.2.1 1 = .ok (.istore_n 1, 1) := by decide +kernel
theorem J_HSheet_darkCount_d2 : decode J_HSheet_darkCount.2.1 2 = .ok (.iconst 0, 1) := by decide +kernel
theorem J_HSheet_darkCount_d3 : decode J_HSheet_darkCount.2.1 3 = .ok (.istore_n 2, 1) := by decide +kernel
theorem J_HSheet_darkCount_d4 : decode J_HSheet_darkCount.2.1 4 = .ok (.iload_n 2, 1) := by decide +kernel
theorem J_HSheet_darkCount_d5 : decode J_HSheet_darkCount.2.1 5 = .ok (.aload_n 0, 1) := by decide +kernel
theorem J_HSheet_darkCount_d6 : decode J_HSheet_darkCount.2.1 6 = .ok (.getfield 15, 3) := by decide +kernel
theorem J_HSheet_darkCount_d9 : decode J_HSheet_darkCount.2.1 9 = .ok (.bipush 8, 2) := by decide +kernel
theorem J_HSheet_darkCount_d11 : decode J_HSheet_darkCount.2.1 11 = .ok (.imul, 1) := by decide +kernel
theorem J_HSheet_darkCount_d12 : decode J_HSheet_darkCount.2.1 12 = .ok (.if_icmp .ge 21, 3) := by decide +kernel
theorem J_HSheet_darkCount_d15 : decode J_HSheet_darkCount.2.1 15 = .ok (.iload_n 1, 1) := by decide +kernel
theorem J_HSheet_darkCount_d16 : decode J_HSheet_darkCount.2.1 16 = .ok (.aload_n 0, 1) := by decide +kernel
theorem J_HSheet_darkCount_d17 : decode J_HSheet_darkCount.2.1 17 = .ok (.getfield 18, 3) := by decide +kernel
theorem J_HSheet_darkCount_d20 : decode J_HSheet_darkCount.2.1 20 = .ok (.iload_n 2, 1) := by decide +kernel
theorem J_HSheet_darkCount_d21 : decode J_HSheet_darkCount.2.1 21 = .ok (.laload, 1) := by decide +kernel
theorem J_HSheet_darkCount_d22 : decode J_HSheet_darkCount.2.1 22 = .ok (.invokestatic 63, 3) := by decide +kernel
theorem J_HSheet_darkCount_d25 : decode J_HSheet_darkCount.2.1 25 = .ok (.iadd, 1) := by decide +kernel
theorem J_HSheet_darkCount_d26 : decode J_HSheet_darkCount.2.1 26 = .ok (.istore_n 1, 1) := by decide +kernel
theorem J_HSheet_darkCount_d27 : decode J_HSheet_darkCount.2.1 27 = .ok (.iinc 2 1, 3) := by decide +kernel
theorem J_HSheet_darkCount_d30 : decode J_HSheet_darkCount.2.1 30 = .ok (.goto (-26), 3) := by decide +kernel
theorem J_HSheet_darkCount_d33 : decode J_HSheet_darkCount.2.1 33 = .ok (.iload_n 1, 1) := by decide +kernel
theorem J_HSheet_darkCount_d34 : decode J_HSheet_darkCount.2.1 34 = .ok (.ireturn, 1) := by decide +kernel
theorem f_HSheet_darkCount_ok {L : Nat} {xs : Nat → Int32} {dep : Nat} {w : Bool} {M : im_M} {Q : Int32 → Prop} (hM : lw_S w M) (h : ed (f_HSheet_darkCount w M) Q) : ia (tb_G L xs) (dep + 1) J_HSheet_darkCount (rpI M Q) (0, lv_args 0 [.ref 28], [], M) := by
  have hS : im_St (tb_G L xs) (dep + 1) J_HSheet_darkCount (ia (tb_G L xs) (dep + 1) J_HSheet_darkCount (rpI M Q)) := ia_St
  unfold f_HSheet_darkCount at h
  have l0 : im_lk (lv_args 0 [.ref 28]) 0 = some (.ref 28) := rfl
  refine iq_iconst hS 1 J_HSheet_darkCount_d0 (v := 0) (by decide +kernel) rfl ?_
  refine iq_istore_n hS 2 J_HSheet_darkCount_d1 (by decide) rfl ?_
  refine iq_iconst hS 3 J_HSheet_darkCount_d2 (v := 0) (by decide +kernel) rfl ?_
  refine iq_istore_n hS 4 J_HSheet_darkCount_d3 (by decide) rfl ?_
  obtain ⟨Q1, hQ1, h⟩ := bd1_ed h
  have K1 : ∀ (y2 : Int32) (L' : List (Nat × Value)), im_lk L' 1 = some (.int y2) → Q1 y2 → ia (tb_G L xs) (dep + 1) J_HSheet_darkCount (rpI M Q) (33, L', [], M) := by
    intro y2 L' l3 h
    replace h := hQ1 _ h
    refine iq_iload_n hS 34 J_HSheet_darkCount_d33 l3 rfl ?_
    exact iq_iret J_HSheet_darkCount_d34 rfl rfl ⟨_, rfl, rfl, ed_some h⟩
  obtain ⟨r1, hr1, hq1⟩ := h
  obtain ⟨n1, hn1⟩ := lp_n hr1
  have I1 : ∀ (n : Nat) (x4 : Int32) (x5 : Int32) (L' : List (Nat × Value)), im_lk L' 0 = some (.ref 28) → im_lk L' 1 = some (.int x4) → im_lk L' 2 = some (.int x5) → lpn (uc2 (f_HSheet_darkCount_L4 w M)) n (x4, x5) = some r1 → ia (tb_G L xs) (dep + 1) J_HSheet_darkCount (rpI M Q) (4, L', [], M) := by
    intro n
    induction n with
    | zero => intro x4 x5 L' l6 l7 l8 hn; exact (lpn_0 hn).elim
    | succ n ih =>
      intro x4 x5 L' l6 l7 l8 hn
      have h := lpn_ed2 hn
      unfold f_HSheet_darkCount_L4 at h
      refine iq_iload_n hS 5 J_HSheet_darkCount_d4 l8 rfl ?_
      refine iq_aload_n hS 6 J_HSheet_darkCount_d5 l6 rfl ?_
      refine iq_getI hS 9 J_HSheet_darkCount_d6 lf_9_15 (Or.inl rfl) (ka_28 hM) rfl ?_
      refine iq_bipush hS 11 J_HSheet_darkCount_d9 (v := 8) (by decide +kernel) rfl ?_
      refine iq_imul hS 12 J_HSheet_darkCount_d11 rfl ?_
      refine iq_icmp_ge hS 15 J_HSheet_darkCount_d12 (t := 33) rfl (fun q12 => ?_) rfl (fun q12 => ?_)
      · replace h := ed_pos q12 h
        exact K1 _ _ l7 (lq_r h hq1)
      · replace h := ed_neg q12 h
        refine iq_iload_n hS 16 J_HSheet_darkCount_d15 l7 rfl ?_
        refine iq_aload_n hS 17 J_HSheet_darkCount_d16 l6 rfl ?_
        refine iq_getR hS 20 J_HSheet_darkCount_d17 lf_9_18 (Or.inr ⟨_, rfl⟩) (ka_28 hM) (ra_28_sw hM) rfl ?_
        refine iq_iload_n hS 21 J_HSheet_darkCount_d20 l8 rfl ?_
        obtain ⟨g21, h⟩ := ed_gd h
        refine iq_laload hS 22 J_HSheet_darkCount_d21 ⟨(ka_sw hM).1, (ka_sw hM).2, g21.1, ix_lt (kl_sw hM) g21.2⟩ rfl ?_
        obtain ⟨Q9, hQ9, h⟩ := bd1_ed h
        refine iq_cpI hS 25 J_HSheet_darkCount_d22 rfl (pr_stat (vs := [_]) lc_9_63 lT_196 rfl rfl (by decide) rfl (Nat.le_of_ble_eq_true rfl) (Nat.le_of_ble_eq_true rfl)) (f_Long_bitCount_ok (dep := dep + 0) hM h) rfl ?_
        intro x9 h
        replace h := hQ9 _ h
        refine iq_iadd hS 26 J_HSheet_darkCount_d25 rfl ?_
        refine iq_istore_n hS 27 J_HSheet_darkCount_d26 (by decide) rfl ?_
        refine iq_iincv hS 30 J_HSheet_darkCount_d27 (c := 1) (by decide +kernel) (lk_1i l8 (by decide)) (by decide) rfl ?_
        refine iq_goto hS J_HSheet_darkCount_d30 (t := 4) rfl ?_
        exact ih _ _ _ (lk_1r (lk_1r l6 (by decide)) (by decide)) (lk_1i lk_1s (by decide)) lk_1s (lq_l h)
  exact I1 n1 _ _ _ (lk_1r (lk_1r l0 (by decide)) (by decide)) (lk_1i lk_1s (by decide)) lk_1s hn1
noncomputable def f_H_told (w : Bool) (p0 : Int32) (M : im_M) : Option (Int32) := if p0 < 0 then none else if p0 ≤ 6 then if p0 = 0 then some (im_i M 28 0) else if p0 = 1 then some (im_i M 28 1) else if p0 = 2 then bd1 (f_HSheet_edgeColumn w 1 M) fun (x1 : Int32) => some x1 else if p0 = 3 then bd1 (f_HSheet_edgeRow w 1 M) fun (x2 : Int32) => some x2 else if p0 = 4 then bd1 (f_HSheet_edgeColumn w (-1) M) fun (x3 : Int32) => some x3 else if p0 = 5 then bd1 (f_HSheet_edgeRow w (-1) M) fun (x4 : Int32) => some x4 else bd1 (f_HSheet_darkCount w M) fun (x5 : Int32) => some x5 else none
theorem J_H_told_d18 : decode J_H_told.2.1 18 = .ok (.iload_n 1, 1) := by decide +kernel
theorem J_H_told_d19 : decode J_H_told.2.1 19 = .ok (.tableswitch 89 0 5 #[37, 45, 53, 62, 71, 80], 37) := by decide +kernel
theorem J_H_told_d56 : decode J_H_told.2.1 56 = .ok (.aload_n 0, 1) := by decide +kernel
theorem J_H_told_d57 : decode J_H_told.2.1 57 = .ok (.getfield 37, 3) := by decide +kernel
theorem J_H_told_d60 : decode J_H_told.2.1 60 = .ok (.getfield 163, 3) := by decide +kernel
theorem J_H_told_d63 : decode J_H_told.2.1 63 = .ok (.ireturn, 1) := by decide +kernel
theorem J_H_told_d64 : decode J_H_told.2.1 64 = .ok (.aload_n 0, 1) := by decide +kernel
theorem J_H_told_d65 : decode J_H_told.2.1 65 = .ok (.getfield 37, 3) := by decide +kernel
theorem J_H_told_d68 : decode J_H_told.2.1 68 = .ok (.getfield 166, 3) := by decide +kernel
theorem J_H_told_d71 : decode J_H_told.2.1 71 = .ok (.ireturn, 1) := by decide +kernel
theorem J_H_told_d72 : decode J_H_told.2.1 72 = .ok (.aload_n 0, 1) := by decide +kernel
theorem J_H_told_d73 : decode J_H_told.2.1 73 = .ok (.getfield 37, 3) := by decide +kernel
theorem J_H_told_d76 : decode J_H_told.2.1 76 = .ok (.iconst 1, 1) := by decide +kernel
theorem J_H_told_d77 : decode J_H_told.2.1 77 = .ok (.invokevirtual 169, 3) := by decide +kernel
theorem J_H_told_d80 : decode J_H_told.2.1 80 = .ok (.ireturn, 1) := by decide +kernel
theorem J_H_told_d81 : decode J_H_told.2.1 81 = .ok (.aload_n 0, 1) := by decide +kernel
theorem J_H_told_d82 : decode J_H_told.2.1 82 = .ok (.getfield 37, 3) := by decide +kernel
theorem J_H_told_d85 : decode J_H_told.2.1 85 = .ok (.iconst 1, 1) := by decide +kernel
theorem J_H_told_d86 : decode J_H_told.2.1 86 = .ok (.invokevirtual 172, 3) := by decide +kernel
theorem J_H_told_d89 : decode J_H_told.2.1 89 = .ok (.ireturn, 1) := by decide +kernel
theorem J_H_told_d90 : decode J_H_told.2.1 90 = .ok (.aload_n 0, 1) := by decide +kernel
theorem J_H_told_d91 : decode J_H_told.2.1 91 = .ok (.getfield 37, 3) := by decide +kernel
theorem J_H_told_d94 : decode J_H_told.2.1 94 = .ok (.iconst (-1), 1) := by decide +kernel
theorem J_H_told_d95 : decode J_H_told.2.1 95 = .ok (.invokevirtual 169, 3) := by decide +kernel
theorem J_H_told_d98 : decode J_H_told.2.1 98 = .ok (.ireturn, 1) := by decide +kernel
theorem J_H_told_d99 : decode J_H_told.2.1 99 = .ok (.aload_n 0, 1) := by decide +kernel
theorem J_H_told_d100 : decode J_H_told.2.1 100 = .ok (.getfield 37, 3) := by decide +kernel
theorem J_H_told_d103 : decode J_H_told.2.1 103 = .ok (.iconst (-1), 1) := by decide +kernel
theorem J_H_told_d104 : decode J_H_told.2.1 104 = .ok (.invokevirtual 172, 3) := by decide +kernel
theorem J_H_told_d107 : decode J_H_told.2.1 107 = .ok (.ireturn, 1) := by decide +kernel
theorem J_H_told_d108 : decode J_H_told.2.1 108 = .ok (.aload_n 0, 1) := by decide +kernel
theorem J_H_told_d109 : decode J_H_told.2.1 109 = .ok (.getfield 37, 3) := by decide +kernel
theorem J_H_told_d112 : decode J_H_told.2.1 112 = .ok (.invokevirtual 175, 3) := by decide +kernel
theorem J_H_told_d115 : decode J_H_told.2.1 115 = .ok (.ireturn, 1) := by decide +kernel
theorem f_H_told_ok {L : Nat} {xs : Nat → Int32} {dep : Nat} {w : Bool} {p0 : Int32} {M : im_M} {Q : Int32 → Prop} (hM : lw_S w M) (h : ed (f_H_told w p0 M) Q) : ia (tb_G L xs) (dep + 2) J_H_told (rpI M Q) (0, lv_args 0 [.ref 0, .int p0], [], M) := by
  have hS : im_St (tb_G L xs) (dep + 2) J_H_told (ia (tb_G L xs) (dep + 2) J_H_told (rpI M Q)) := ia_St
  unfold f_H_told at h
  have l0 : im_lk (lv_args 0 [.ref 0, .int p0]) 0 = some (.ref 0) := rfl
  have l1 : im_lk (lv_args 0 [.ref 0, .int p0]) 1 = some (.int p0) := rfl
  refine iq_iload_n hS 1 J_H_told_d0 l1 rfl ?_
  refine iq_if_lt hS 4 J_H_told_d1 (t := 10) rfl (fun q1 => ?_) rfl (fun q1 => ?_)
  · replace h := ed_pos q1 h
    exact (ed_none h).elim
  · replace h := ed_neg q1 h
    refine iq_iload_n hS 5 J_H_told_d4 l1 rfl ?_
    refine iq_bipush hS 7 J_H_told_d5 (v := 6) (by decide +kernel) rfl ?_
    refine iq_icmp_le hS 10 J_H_told_d7 (t := 18) rfl (fun q7 => ?_) rfl (fun q7 => ?_)
    · replace h := ed_pos q7 h
      refine iq_iload_n hS 19 J_H_told_d18 l1 rfl ?_
      by_cases q19_0 : p0 = 0
      · replace h := ed_pos q19_0 h
        refine iq_tsw hS J_H_told_d19 (t := 56) (sw_v q19_0 (by decide +kernel)) ?_
        refine iq_aload_n hS 57 J_H_told_d56 l0 rfl ?_
        refine iq_getR hS 60 J_H_told_d57 lf_11_37 (Or.inl ⟨_, rfl⟩) (ka_0 hM) (ra_0_3 hM) rfl ?_
        refine iq_getI hS 63 J_H_told_d60 lf_11_163 (Or.inl rfl) (ka_28 hM) rfl ?_
        exact iq_iret J_H_told_d63 rfl rfl ⟨_, rfl, rfl, ed_some h⟩
      replace h := ed_neg q19_0 h
      by_cases q19_1 : p0 = 1
      · replace h := ed_pos q19_1 h
        refine iq_tsw hS J_H_told_d19 (t := 64) (sw_v q19_1 (by decide +kernel)) ?_
        refine iq_aload_n hS 65 J_H_told_d64 l0 rfl ?_
        refine iq_getR hS 68 J_H_told_d65 lf_11_37 (Or.inl ⟨_, rfl⟩) (ka_0 hM) (ra_0_3 hM) rfl ?_
        refine iq_getI hS 71 J_H_told_d68 lf_11_166 (Or.inl rfl) (ka_28 hM) rfl ?_
        exact iq_iret J_H_told_d71 rfl rfl ⟨_, rfl, rfl, ed_some h⟩
      replace h := ed_neg q19_1 h
      by_cases q19_2 : p0 = 2
      · replace h := ed_pos q19_2 h
        refine iq_tsw hS J_H_told_d19 (t := 72) (sw_v q19_2 (by decide +kernel)) ?_
        refine iq_aload_n hS 73 J_H_told_d72 l0 rfl ?_
        refine iq_getR hS 76 J_H_told_d73 lf_11_37 (Or.inl ⟨_, rfl⟩) (ka_0 hM) (ra_0_3 hM) rfl ?_
        refine iq_iconst hS 77 J_H_told_d76 (v := 1) (by decide +kernel) rfl ?_
        obtain ⟨Q1, hQ1, h⟩ := bd1_ed h
        refine iq_cpI hS 80 J_H_told_d77 rfl (pr_inst (vs := [_]) lc_11_169 lT_192 rfl rfl (by decide) (by decide) rfl (Nat.le_of_ble_eq_true rfl) (Nat.le_of_ble_eq_true rfl) (fun _ => Or.inl (pr_b (ka_28 hM) (by decide) rfl))) (f_HSheet_edgeColumn_ok (dep := dep + 0) hM h) rfl ?_
        intro x1 h
        replace h := hQ1 _ h
        exact iq_iret J_H_told_d80 rfl rfl ⟨_, rfl, rfl, ed_some h⟩
      replace h := ed_neg q19_2 h
      by_cases q19_3 : p0 = 3
      · replace h := ed_pos q19_3 h
        refine iq_tsw hS J_H_told_d19 (t := 81) (sw_v q19_3 (by decide +kernel)) ?_
        refine iq_aload_n hS 82 J_H_told_d81 l0 rfl ?_
        refine iq_getR hS 85 J_H_told_d82 lf_11_37 (Or.inl ⟨_, rfl⟩) (ka_0 hM) (ra_0_3 hM) rfl ?_
        refine iq_iconst hS 86 J_H_told_d85 (v := 1) (by decide +kernel) rfl ?_
        obtain ⟨Q2, hQ2, h⟩ := bd1_ed h
        refine iq_cpI hS 89 J_H_told_d86 rfl (pr_inst (vs := [_]) lc_11_172 lT_194 rfl rfl (by decide) (by decide) rfl (Nat.le_of_ble_eq_true rfl) (Nat.le_of_ble_eq_true rfl) (fun _ => Or.inl (pr_b (ka_28 hM) (by decide) rfl))) (f_HSheet_edgeRow_ok (dep := dep + 1) hM h) rfl ?_
        intro x2 h
        replace h := hQ2 _ h
        exact iq_iret J_H_told_d89 rfl rfl ⟨_, rfl, rfl, ed_some h⟩
      replace h := ed_neg q19_3 h
      by_cases q19_4 : p0 = 4
      · replace h := ed_pos q19_4 h
        refine iq_tsw hS J_H_told_d19 (t := 90) (sw_v q19_4 (by decide +kernel)) ?_
        refine iq_aload_n hS 91 J_H_told_d90 l0 rfl ?_
        refine iq_getR hS 94 J_H_told_d91 lf_11_37 (Or.inl ⟨_, rfl⟩) (ka_0 hM) (ra_0_3 hM) rfl ?_
        refine iq_iconst hS 95 J_H_told_d94 (v := (-1)) (by decide +kernel) rfl ?_
        obtain ⟨Q3, hQ3, h⟩ := bd1_ed h
        refine iq_cpI hS 98 J_H_told_d95 rfl (pr_inst (vs := [_]) lc_11_169 lT_192 rfl rfl (by decide) (by decide) rfl (Nat.le_of_ble_eq_true rfl) (Nat.le_of_ble_eq_true rfl) (fun _ => Or.inl (pr_b (ka_28 hM) (by decide) rfl))) (f_HSheet_edgeColumn_ok (dep := dep + 0) hM h) rfl ?_
        intro x3 h
        replace h := hQ3 _ h
        exact iq_iret J_H_told_d98 rfl rfl ⟨_, rfl, rfl, ed_some h⟩
      replace h := ed_neg q19_4 h
      by_cases q19_5 : p0 = 5
      · replace h := ed_pos q19_5 h
        refine iq_tsw hS J_H_told_d19 (t := 99) (sw_v q19_5 (by decide +kernel)) ?_
        refine iq_aload_n hS 100 J_H_told_d99 l0 rfl ?_
        refine iq_getR hS 103 J_H_told_d100 lf_11_37 (Or.inl ⟨_, rfl⟩) (ka_0 hM) (ra_0_3 hM) rfl ?_
        refine iq_iconst hS 104 J_H_told_d103 (v := (-1)) (by decide +kernel) rfl ?_
        obtain ⟨Q4, hQ4, h⟩ := bd1_ed h
        refine iq_cpI hS 107 J_H_told_d104 rfl (pr_inst (vs := [_]) lc_11_172 lT_194 rfl rfl (by decide) (by decide) rfl (Nat.le_of_ble_eq_true rfl) (Nat.le_of_ble_eq_true rfl) (fun _ => Or.inl (pr_b (ka_28 hM) (by decide) rfl))) (f_HSheet_edgeRow_ok (dep := dep + 1) hM h) rfl ?_
        intro x4 h
        replace h := hQ4 _ h
        exact iq_iret J_H_told_d107 rfl rfl ⟨_, rfl, rfl, ed_some h⟩
      replace h := ed_neg q19_5 h
      refine iq_tsw hS J_H_told_d19 (t := 108) (sw_d [0, 1, 2, 3, 4, 5] (by decide) (by decide) (by decide +kernel) (sw_nc q19_0 (sw_nc q19_1 (sw_nc q19_2 (sw_nc q19_3 (sw_nc q19_4 (sw_nc q19_5 sw_nn))))))) ?_
      refine iq_aload_n hS 109 J_H_told_d108 l0 rfl ?_
      refine iq_getR hS 112 J_H_told_d109 lf_11_37 (Or.inl ⟨_, rfl⟩) (ka_0 hM) (ra_0_3 hM) rfl ?_
      obtain ⟨Q5, hQ5, h⟩ := bd1_ed h
      refine iq_cpI hS 115 J_H_told_d112 rfl (pr_inst (vs := []) lc_11_175 lT_195 rfl rfl (by decide) (by decide) rfl (Nat.le_of_ble_eq_true rfl) (Nat.le_of_ble_eq_true rfl) (fun _ => Or.inl (pr_b (ka_28 hM) (by decide) rfl))) (f_HSheet_darkCount_ok (dep := dep + 0) hM h) rfl ?_
      intro x5 h
      replace h := hQ5 _ h
      exact iq_iret J_H_told_d115 rfl rfl ⟨_, rfl, rfl, ed_some h⟩
    · replace h := ed_neg q7 h
      exact (ed_none h).elim
noncomputable def f_HSheet_has (p0 : Int32) (p1 : Int32) (M : im_M) : Option (Int32) := if p0 < 0 then some 0 else if (im_i M 28 0) ≤ p0 then some 0 else if p1 < 0 then some 0 else if (im_i M 28 1) ≤ p1 then some 0 else some 1
theorem J_HSheet_has_d0 : decode J_HSheet_has.2.1 0 = .ok (.iload_n 1, 1) := by decide +kernel
theorem J_HSheet_has_d1 : decode J_HSheet_has.2.1 1 = .ok (.ifCond .lt 27, 3) := by decide +kernel
theorem J_HSheet_has_d4 : decode J_HSheet_has.2.1 4 = .ok (.iload_n 1, 1) := by decide +kernel
theorem J_HSheet_has_d5 : decode J_HSheet_has.2.1 5 = .ok (.aload_n 0, 1) := by decide +kernel
theorem J_HSheet_has_d6 : decode J_HSheet_has.2.1 6 = .ok (.getfield 9, 3) := by decide +kernel
theorem J_HSheet_has_d9 : decode J_HSheet_has.2.1 9 = .ok (.if_icmp .ge 19, 3) := by decide +kernel
theorem J_HSheet_has_d12 : decode J_HSheet_has.2.1 12 = .ok (.iload_n 2, 1) := by decide +kernel
theorem J_HSheet_has_d13 : decode J_HSheet_has.2.1 13 = .ok (.ifCond .lt 15, 3) := by decide +kernel
theorem J_HSheet_has_d16 : decode J_HSheet_has.2.1 16 = .ok (.iload_n 2, 1) := by decide +kernel
theorem J_HSheet_has_d17 : decode J_HSheet_has.2.1 17 = .ok (.aload_n 0, 1) := by decide +kernel
theorem J_HSheet_has_d18 : decode J_HSheet_has.2.1 18 = .ok (.getfield 15, 3) := by decide +kernel
theorem J_HSheet_has_d21 : decode J_HSheet_has.2.1 21 = .ok (.if_icmp .ge 7, 3) := by decide +kernel
theorem J_HSheet_has_d24 : decode J_HSheet_has.2.1 24 = .ok (.iconst 1, 1) := by decide +kernel
theorem J_HSheet_has_d25 : decode J_HSheet_has.2.1 25 = .ok (.goto 4, 3) := by decide +kernel
theorem J_HSheet_has_d28 : decode J_HSheet_has.2.1 28 = .ok (.iconst 0, 1) := by decide +kernel
theorem J_HSheet_has_d29 : decode J_HSheet_has.2.1 29 = .ok (.ireturn, 1) := by decide +kernel
theorem f_HSheet_has_ok {L : Nat} {xs : Nat → Int32} {dep : Nat} {w : Bool} {p0 : Int32} {p1 : Int32} {M : im_M} {Q : Int32 → Prop} (hM : lw_S w M) (h : ed (f_HSheet_has p0 p1 M) Q) : ia (tb_G L xs) dep J_HSheet_has (rpI M Q) (0, lv_args 0 [.ref 28, .int p0, .int p1], [], M) := by
  have hS : im_St (tb_G L xs) dep J_HSheet_has (ia (tb_G L xs) dep J_HSheet_has (rpI M Q)) := ia_St
  unfold f_HSheet_has at h
  have l0 : im_lk (lv_args 0 [.ref 28, .int p0, .int p1]) 0 = some (.ref 28) := rfl
  have l1 : im_lk (lv_args 0 [.ref 28, .int p0, .int p1]) 1 = some (.int p0) := rfl
  have l2 : im_lk (lv_args 0 [.ref 28, .int p0, .int p1]) 2 = some (.int p1) := rfl
  refine iq_iload_n hS 1 J_HSheet_has_d0 l1 rfl ?_
  refine iq_if_lt hS 4 J_HSheet_has_d1 (t := 28) rfl (fun q1 => ?_) rfl (fun q1 => ?_)
  · replace h := ed_pos q1 h
    refine iq_iconst hS 29 J_HSheet_has_d28 (v := 0) (by decide +kernel) rfl ?_
    exact iq_iret J_HSheet_has_d29 rfl rfl ⟨_, rfl, rfl, ed_some h⟩
  · replace h := ed_neg q1 h
    refine iq_iload_n hS 5 J_HSheet_has_d4 l1 rfl ?_
    refine iq_aload_n hS 6 J_HSheet_has_d5 l0 rfl ?_
    refine iq_getI hS 9 J_HSheet_has_d6 lf_9_9 (Or.inl rfl) (ka_28 hM) rfl ?_
    refine iq_icmp_ge hS 12 J_HSheet_has_d9 (t := 28) rfl (fun q9 => ?_) rfl (fun q9 => ?_)
    · replace h := ed_pos q9 h
      refine iq_iconst hS 29 J_HSheet_has_d28 (v := 0) (by decide +kernel) rfl ?_
      exact iq_iret J_HSheet_has_d29 rfl rfl ⟨_, rfl, rfl, ed_some h⟩
    · replace h := ed_neg q9 h
      refine iq_iload_n hS 13 J_HSheet_has_d12 l2 rfl ?_
      refine iq_if_lt hS 16 J_HSheet_has_d13 (t := 28) rfl (fun q13 => ?_) rfl (fun q13 => ?_)
      · replace h := ed_pos q13 h
        refine iq_iconst hS 29 J_HSheet_has_d28 (v := 0) (by decide +kernel) rfl ?_
        exact iq_iret J_HSheet_has_d29 rfl rfl ⟨_, rfl, rfl, ed_some h⟩
      · replace h := ed_neg q13 h
        refine iq_iload_n hS 17 J_HSheet_has_d16 l2 rfl ?_
        refine iq_aload_n hS 18 J_HSheet_has_d17 l0 rfl ?_
        refine iq_getI hS 21 J_HSheet_has_d18 lf_9_15 (Or.inl rfl) (ka_28 hM) rfl ?_
        refine iq_icmp_ge hS 24 J_HSheet_has_d21 (t := 28) rfl (fun q21 => ?_) rfl (fun q21 => ?_)
        · replace h := ed_pos q21 h
          refine iq_iconst hS 29 J_HSheet_has_d28 (v := 0) (by decide +kernel) rfl ?_
          exact iq_iret J_HSheet_has_d29 rfl rfl ⟨_, rfl, rfl, ed_some h⟩
        · replace h := ed_neg q21 h
          refine iq_iconst hS 25 J_HSheet_has_d24 (v := 1) (by decide +kernel) rfl ?_
          refine iq_goto hS J_HSheet_has_d25 (t := 29) rfl ?_
          exact iq_iret J_HSheet_has_d29 rfl rfl ⟨_, rfl, rfl, ed_some h⟩
noncomputable def f_HSheet_isDark (w : Bool) (p0 : Int32) (p1 : Int32) (M : im_M) : Option (Int32) := gd (inb ((p1 * 8) + (p0 >>> (6 &&& 31))) 4096) <| if (lg_cmp ((Int64.toUInt64 (im_l M (sw w) (Int32.toNatClampNeg ((p1 * 8) + (p0 >>> (6 &&& 31))))) >>> ((Int32.toInt64 (p0 &&& 63)).toUInt64 &&& Int64.toUInt64 63)).toInt64 &&& 1) 0) = 0 then some 0 else some 1
theorem J_HSheet_isDark_d0 : decode J_HSheet_isDark.2.1 0 = .ok (.aload_n 0, 1) := by decide +kernel
theorem J_HSheet_isDark_d1 : decode J_HSheet_isDark.2.1 1 = .ok (.getfield 18, 3) := by decide +kernel
theorem J_HSheet_isDark_d4 : decode J_HSheet_isDark.2.1 4 = .ok (.iload_n 2, 1) := by decide +kernel
theorem J_HSheet_isDark_d5 : decode J_HSheet_isDark.2.1 5 = .ok (.bipush 8, 2) := by decide +kernel
theorem J_HSheet_isDark_d7 : decode J_HSheet_isDark.2.1 7 = .ok (.imul, 1) := by decide +kernel
theorem J_HSheet_isDark_d8 : decode J_HSheet_isDark.2.1 8 = .ok (.iload_n 1, 1) := by decide +kernel
theorem J_HSheet_isDark_d9 : decode J_HSheet_isDark.2.1 9 = .ok (.bipush 6, 2) := by decide +kernel
theorem J_HSheet_isDark_d11 : decode J_HSheet_isDark.2.1 11 = .ok (.ishr, 1) := by decide +kernel
theorem J_HSheet_isDark_d12 : decode J_HSheet_isDark.2.1 12 = .ok (.iadd, 1) := by decide +kernel
theorem J_HSheet_isDark_d13 : decode J_HSheet_isDark.2.1 13 = .ok (.laload, 1) := by decide +kernel
theorem J_HSheet_isDark_d14 : decode J_HSheet_isDark.2.1 14 = .ok (.iload_n 1, 1) := by decide +kernel
theorem J_HSheet_isDark_d15 : decode J_HSheet_isDark.2.1 15 = .ok (.bipush 63, 2) := by decide +kernel
theorem J_HSheet_isDark_d17 : decode J_HSheet_isDark.2.1 17 = .ok (.iand, 1) := by decide +kernel
theorem J_HSheet_isDark_d18 : decode J_HSheet_isDark.2.1 18 = .ok (.lushr, 1) := by decide +kernel
theorem J_HSheet_isDark_d19 : decode J_HSheet_isDark.2.1 19 = .ok (.lconst 1, 1) := by decide +kernel
theorem J_HSheet_isDark_d20 : decode J_HSheet_isDark.2.1 20 = .ok (.land, 1) := by decide +kernel
theorem J_HSheet_isDark_d21 : decode J_HSheet_isDark.2.1 21 = .ok (.lconst 0, 1) := by decide +kernel
theorem J_HSheet_isDark_d22 : decode J_HSheet_isDark.2.1 22 = .ok (.lcmp, 1) := by decide +kernel
theorem J_HSheet_isDark_d23 : decode J_HSheet_isDark.2.1 23 = .ok (.ifCond .eq 7, 3) := by decide +kernel
theorem J_HSheet_isDark_d26 : decode J_HSheet_isDark.2.1 26 = .ok (.iconst 1, 1) := by decide +kernel
theorem J_HSheet_isDark_d27 : decode J_HSheet_isDark.2.1 27 = .ok (.goto 4, 3) := by decide +kernel
theorem J_HSheet_isDark_d30 : decode J_HSheet_isDark.2.1 30 = .ok (.iconst 0, 1) := by decide +kernel
theorem J_HSheet_isDark_d31 : decode J_HSheet_isDark.2.1 31 = .ok (.ireturn, 1) := by decide +kernel
theorem f_HSheet_isDark_ok {L : Nat} {xs : Nat → Int32} {dep : Nat} {w : Bool} {p0 : Int32} {p1 : Int32} {M : im_M} {Q : Int32 → Prop} (hM : lw_S w M) (h : ed (f_HSheet_isDark w p0 p1 M) Q) : ia (tb_G L xs) dep J_HSheet_isDark (rpI M Q) (0, lv_args 0 [.ref 28, .int p0, .int p1], [], M) := by
  have hS : im_St (tb_G L xs) dep J_HSheet_isDark (ia (tb_G L xs) dep J_HSheet_isDark (rpI M Q)) := ia_St
  unfold f_HSheet_isDark at h
  have l0 : im_lk (lv_args 0 [.ref 28, .int p0, .int p1]) 0 = some (.ref 28) := rfl
  have l1 : im_lk (lv_args 0 [.ref 28, .int p0, .int p1]) 1 = some (.int p0) := rfl
  have l2 : im_lk (lv_args 0 [.ref 28, .int p0, .int p1]) 2 = some (.int p1) := rfl
  refine iq_aload_n hS 1 J_HSheet_isDark_d0 l0 rfl ?_
  refine iq_getR hS 4 J_HSheet_isDark_d1 lf_9_18 (Or.inr ⟨_, rfl⟩) (ka_28 hM) (ra_28_sw hM) rfl ?_
  refine iq_iload_n hS 5 J_HSheet_isDark_d4 l2 rfl ?_
  refine iq_bipush hS 7 J_HSheet_isDark_d5 (v := 8) (by decide +kernel) rfl ?_
  refine iq_imul hS 8 J_HSheet_isDark_d7 rfl ?_
  refine iq_iload_n hS 9 J_HSheet_isDark_d8 l1 rfl ?_
  refine iq_bipush hS 11 J_HSheet_isDark_d9 (v := 6) (by decide +kernel) rfl ?_
  refine iq_ishr hS 12 J_HSheet_isDark_d11 rfl ?_
  refine iq_iadd hS 13 J_HSheet_isDark_d12 rfl ?_
  obtain ⟨g13, h⟩ := ed_gd h
  refine iq_laload hS 14 J_HSheet_isDark_d13 ⟨(ka_sw hM).1, (ka_sw hM).2, g13.1, ix_lt (kl_sw hM) g13.2⟩ rfl ?_
  refine iq_iload_n hS 15 J_HSheet_isDark_d14 l1 rfl ?_
  refine iq_bipush hS 17 J_HSheet_isDark_d15 (v := 63) (by decide +kernel) rfl ?_
  refine iq_iand hS 18 J_HSheet_isDark_d17 rfl ?_
  refine iq_lushr hS 19 J_HSheet_isDark_d18 rfl ?_
  refine iq_lconst hS 20 J_HSheet_isDark_d19 (v := 1) (by decide +kernel) rfl ?_
  refine iq_land hS 21 J_HSheet_isDark_d20 rfl ?_
  refine iq_lconst hS 22 J_HSheet_isDark_d21 (v := 0) (by decide +kernel) rfl ?_
  refine iq_lcmp hS 23 J_HSheet_isDark_d22 rfl ?_
  refine iq_if_eq hS 26 J_HSheet_isDark_d23 (t := 30) rfl (fun q23 => ?_) rfl (fun q23 => ?_)
  · replace h := ed_pos q23 h
    refine iq_iconst hS 31 J_HSheet_isDark_d30 (v := 0) (by decide +kernel) rfl ?_
    exact iq_iret J_HSheet_isDark_d31 rfl rfl ⟨_, rfl, rfl, ed_some h⟩
  · replace h := ed_neg q23 h
    refine iq_iconst hS 27 J_HSheet_isDark_d26 (v := 1) (by decide +kernel) rfl ?_
    refine iq_goto hS J_HSheet_isDark_d27 (t := 31) rfl ?_
    exact iq_iret J_HSheet_isDark_d31 rfl rfl ⟨_, rfl, rfl, ed_some h⟩
noncomputable def f_HSheet_takeRuns_L43 (w : Bool) (v5 : Int32) (v6 : Int32) (v7 : Int32) (v8 : Int32) (x9 : Int32) (x10 : Int32) (x11 : Int32) (M12 : im_M) : Option ((Int32 × Int32 × Int32 × im_M) ⊕ (Int32 × im_M)) := if v8 ≤ x11 then some (.inr (x9, M12)) else bd1 (if v7 = 0 then bd1 (f_HSheet_isDark w (v5 + x11) v6 M12) fun (x14 : Int32) => some x14 else bd1 (f_HSheet_isDark w v5 (v6 + x11) M12) fun (x15 : Int32) => some x15) fun (y16 : Int32) => bd3 (if y16 = x10 then some (x9, x10, M12) else gd (inb x9 512) <| some ((x9 + 1), y16, (im_setI M12 32 (Int32.toNatClampNeg x9) 0))) fun (y27 : Int32) (y28 : Int32) (M29 : im_M) => gd (inb (y27 - 1) 512) <| gd (inb (y27 - 1) 512) <| some (.inl (y27, y28, (x11 + 1), (im_setI M29 32 (Int32.toNatClampNeg (y27 - 1)) ((im_i M29 32 (Int32.toNatClampNeg (y27 - 1))) + 1))))
noncomputable def f_HSheet_takeRuns (w : Bool) (p0 : Int32) (p1 : Int32) (p2 : Int32) (M : im_M) : Option (Int32 × im_M) := bd1 (f_HSheet_isDark w p0 p1 M) fun (x2 : Int32) => bd2 (lp (uc4 (f_HSheet_takeRuns_L43 w p0 p1 p2 ((if p2 = 0 then ((im_i M 28 0) - p0) else ((im_i M 28 1) - p1)) : Int32))) (0, ((if ¬ x2 = 0 then 0 else 1) : Int32), 0, M)) fun (y39 : Int32) (M40 : im_M) => some (y39, M40)
theorem J_HSheet_takeRuns_d0 : decode J_HSheet_takeRuns.2.1 0 = .ok (.iconst 0, 1) := by decide +kernel
theorem J_HSheet_takeRuns_d1 : decode J_HSheet_takeRuns.2.1 1 = .ok (.istore 5, 2) := by decide +kernel
theorem J_HSheet_takeRuns_d3 : decode J_HSheet_takeRuns.2.1 3 = .ok (.iload_n 3, 1) := by decide +kernel
theorem J_HSheet_takeRuns_d4 : decode J_HSheet_takeRuns.2.1 4 = .ok (.ifCond .eq 12, 3) := by decide +kernel
theorem J_HSheet_takeRuns_d7 : decode J_HSheet_takeRuns.2.1 7 = .ok (.aload_n 0, 1) := by decide +kernel
theorem J_HSheet_takeRuns_d8 : decode J_HSheet_takeRuns.2.1 8 = .ok (.getfield 15, 3) := by decide +kernel
theorem J_HSheet_takeRuns_d11 : decode J_HSheet_takeRuns.2.1 11 = .ok (.iload_n 2, 1) := by decide +kernel
theorem J_HSheet_takeRuns_d12 : decode J_HSheet_takeRuns.2.1 12 = .ok (.isub, 1) := by decide +kernel
theorem J_HSheet_takeRuns_d13 : decode J_HSheet_takeRuns.2.1 13 = .ok (.goto 9, 3) := by decide +kernel
theorem J_HSheet_takeRuns_d16 : decode J_HSheet_takeRuns.2.1 16 = .ok (.aload_n 0, 1) := by decide +kernel
theorem J_HSheet_takeRuns_d17 : decode J_HSheet_takeRuns.2.1 17 = .ok (.getfield 9, 3) := by decide +kernel
theorem J_HSheet_takeRuns_d20 : decode J_HSheet_takeRuns.2.1 20 = .ok (.iload_n 1, 1) := by decide +kernel
theorem J_HSheet_takeRuns_d21 : decode J_HSheet_takeRuns.2.1 21 = .ok (.isub, 1) := by decide +kernel
theorem J_HSheet_takeRuns_d22 : decode J_HSheet_takeRuns.2.1 22 = .ok (.istore 6, 2) := by decide +kernel
theorem J_HSheet_takeRuns_d24 : decode J_HSheet_takeRuns.2.1 24 = .ok (.aload_n 0, 1) := by decide +kernel
theorem J_HSheet_takeRuns_d25 : decode J_HSheet_takeRuns.2.1 25 = .ok (.iload_n 1, 1) := by decide +kernel
theorem J_HSheet_takeRuns_d26 : decode J_HSheet_takeRuns.2.1 26 = .ok (.iload_n 2, 1) := by decide +kernel
theorem J_HSheet_takeRuns_d27 : decode J_HSheet_takeRuns.2.1 27 = .ok (.invokevirtual 73, 3) := by decide +kernel
theorem J_HSheet_takeRuns_d30 : decode J_HSheet_takeRuns.2.1 30 = .ok (.ifCond .ne 7, 3) := by decide +kernel
theorem J_HSheet_takeRuns_d33 : decode J_HSheet_takeRuns.2.1 33 = .ok (.iconst 1, 1) := by decide +kernel
theorem J_HSheet_takeRuns_d34 : decode J_HSheet_takeRuns.2.1 34 = .ok (.goto 4, 3) := by decide +kernel
theorem J_HSheet_takeRuns_d37 : decode J_HSheet_takeRuns.2.1 37 = .ok (.iconst 0, 1) := by decide +kernel
theorem J_HSheet_takeRuns_d38 : decode J_HSheet_takeRuns.2.1 38 = .ok (.istore 7, 2) := by decide +kernel
theorem J_HSheet_takeRuns_d40 : decode J_HSheet_takeRuns.2.1 40 = .ok (.iconst 0, 1) := by decide +kernel
theorem J_HSheet_takeRuns_d41 : decode J_HSheet_takeRuns.2.1 41 = .ok (.istore 8, 2) := by decide +kernel
theorem J_HSheet_takeRuns_d43 : decode J_HSheet_takeRuns.2.1 43 = .ok (.iload 8, 2) := by decide +kernel
theorem J_HSheet_takeRuns_d45 : decode J_HSheet_takeRuns.2.1 45 = .ok (.iload 6, 2) := by decide +kernel
theorem J_HSheet_takeRuns_d47 : decode J_HSheet_takeRuns.2.1 47 = .ok (.if_icmp .ge 67, 3) := by decide +kernel
theorem J_HSheet_takeRuns_d50 : decode J_HSheet_takeRuns.2.1 50 = .ok (.iload_n 3, 1) := by decide +kernel
theorem J_HSheet_takeRuns_d51 : decode J_HSheet_takeRuns.2.1 51 = .ok (.ifCond .eq 15, 3) := by decide +kernel
theorem J_HSheet_takeRuns_d54 : decode J_HSheet_takeRuns.2.1 54 = .ok (.aload_n 0, 1) := by decide +kernel
theorem J_HSheet_takeRuns_d55 : decode J_HSheet_takeRuns.2.1 55 = .ok (.iload_n 1, 1) := by decide +kernel
theorem J_HSheet_takeRuns_d56 : decode J_HSheet_takeRuns.2.1 56 = .ok (.iload_n 2, 1) := by decide +kernel
theorem J_HSheet_takeRuns_d57 : decode J_HSheet_takeRuns.2.1 57 = .ok (.iload 8, 2) := by decide +kernel
theorem J_HSheet_takeRuns_d59 : decode J_HSheet_takeRuns.2.1 59 = .ok (.iadd, 1) := by decide +kernel
theorem J_HSheet_takeRuns_d60 : decode J_HSheet_takeRuns.2.1 60 = .ok (.invokevirtual 73, 3) := by decide +kernel
theorem J_HSheet_takeRuns_d63 : decode J_HSheet_takeRuns.2.1 63 = .ok (.goto 12, 3) := by decide +kernel
theorem J_HSheet_takeRuns_d66 : decode J_HSheet_takeRuns.2.1 66 = .ok (.aload_n 0, 1) := by decide +kernel
theorem J_HSheet_takeRuns_d67 : decode J_HSheet_takeRuns.2.1 67 = .ok (.iload_n 1, 1) := by decide +kernel
theorem J_HSheet_takeRuns_d68 : decode J_HSheet_takeRuns.2.1 68 = .ok (.iload 8, 2) := by decide +kernel
theorem J_HSheet_takeRuns_d70 : decode J_HSheet_takeRuns.2.1 70 = .ok (.iadd, 1) := by decide +kernel
theorem J_HSheet_takeRuns_d71 : decode J_HSheet_takeRuns.2.1 71 = .ok (.iload_n 2, 1) := by decide +kernel
theorem J_HSheet_takeRuns_d72 : decode J_HSheet_takeRuns.2.1 72 = .ok (.invokevirtual 73, 3) := by decide +kernel
theorem J_HSheet_takeRuns_d75 : decode J_HSheet_takeRuns.2.1 75 = .ok (.istore 9, 2) := by decide +kernel
theorem J_HSheet_takeRuns_d77 : decode J_HSheet_takeRuns.2.1 77 = .ok (.iload 9, 2) := by decide +kernel
theorem J_HSheet_takeRuns_d79 : decode J_HSheet_takeRuns.2.1 79 = .ok (.iload 7, 2) := by decide +kernel
theorem J_HSheet_takeRuns_d81 : decode J_HSheet_takeRuns.2.1 81 = .ok (.if_icmp .eq 16, 3) := by decide +kernel
theorem J_HSheet_takeRuns_d84 : decode J_HSheet_takeRuns.2.1 84 = .ok (.aload 4, 2) := by decide +kernel
theorem J_HSheet_takeRuns_d86 : decode J_HSheet_takeRuns.2.1 86 = .ok (.iload 5, 2) := by decide +kernel
theorem J_HSheet_takeRuns_d88 : decode J_HSheet_takeRuns.2.1 88 = .ok (.iconst 0, 1) := by decide +kernel
theorem J_HSheet_takeRuns_d89 : decode J_HSheet_takeRuns.2.1 89 = .ok (.iastore, 1) := by decide +kernel
theorem J_HSheet_takeRuns_d90 : decode J_HSheet_takeRuns.2.1 90 = .ok (.iinc 5 1, 3) := by decide +kernel
theorem J_HSheet_takeRuns_d93 : decode J_HSheet_takeRuns.2.1 93 = .ok (.iload 9, 2) := by decide +kernel
theorem J_HSheet_takeRuns_d95 : decode J_HSheet_takeRuns.2.1 95 = .ok (.istore 7, 2) := by decide +kernel
theorem J_HSheet_takeRuns_d97 : decode J_HSheet_takeRuns.2.1 97 = .ok (.aload 4, 2) := by decide +kernel
theorem J_HSheet_takeRuns_d99 : decode J_HSheet_takeRuns.2.1 99 = .ok (.iload 5, 2) := by decide +kernel
theorem J_HSheet_takeRuns_d101 : decode J_HSheet_takeRuns.2.1 101 = .ok (.iconst 1, 1) := by decide +kernel
theorem J_HSheet_takeRuns_d102 : decode J_HSheet_takeRuns.2.1 102 = .ok (.isub, 1) := by decide +kernel
theorem J_HSheet_takeRuns_d103 : decode J_HSheet_takeRuns.2.1 103 = .ok (.dup2, 1) := by decide +kernel
theorem J_HSheet_takeRuns_d104 : decode J_HSheet_takeRuns.2.1 104 = .ok (.iaload, 1) := by decide +kernel
theorem J_HSheet_takeRuns_d105 : decode J_HSheet_takeRuns.2.1 105 = .ok (.iconst 1, 1) := by decide +kernel
theorem J_HSheet_takeRuns_d106 : decode J_HSheet_takeRuns.2.1 106 = .ok (.iadd, 1) := by decide +kernel
theorem J_HSheet_takeRuns_d107 : decode J_HSheet_takeRuns.2.1 107 = .ok (.iastore, 1) := by decide +kernel
theorem J_HSheet_takeRuns_d108 : decode J_HSheet_takeRuns.2.1 108 = .ok (.iinc 8 1, 3) := by decide +kernel
theorem J_HSheet_takeRuns_d111 : decode J_HSheet_takeRuns.2.1 111 = .ok (.goto (-68), 3) := by decide +kernel
theorem J_HSheet_takeRuns_d114 : decode J_HSheet_takeRuns.2.1 114 = .ok (.iload 5, 2) := by decide +kernel
theorem J_HSheet_takeRuns_d116 : decode J_HSheet_takeRuns.2.1 116 = .ok (.ireturn, 1) := by decide +kernel
theorem f_HSheet_takeRuns_ok {L : Nat} {xs : Nat → Int32} {dep : Nat} {w : Bool} {p0 : Int32} {p1 : Int32} {p2 : Int32} {M : im_M} {Q : Int32 × im_M → Prop} (hM : lw_S w M) (h : ed (f_HSheet_takeRuns w p0 p1 p2 M) Q) : ia (tb_G L xs) (dep + 1) J_HSheet_takeRuns (rwI w Q) (0, lv_args 0 [.ref 28, .int p0, .int p1, .int p2, .ref 32], [], M) := by
  have hS : im_St (tb_G L xs) (dep + 1) J_HSheet_takeRuns (ia (tb_G L xs) (dep + 1) J_HSheet_takeRuns (rwI w Q)) := ia_St
  unfold f_HSheet_takeRuns at h
  have l0 : im_lk (lv_args 0 [.ref 28, .int p0, .int p1, .int p2, .ref 32]) 0 = some (.ref 28) := rfl
  have l1 : im_lk (lv_args 0 [.ref 28, .int p0, .int p1, .int p2, .ref 32]) 1 = some (.int p0) := rfl
  have l2 : im_lk (lv_args 0 [.ref 28, .int p0, .int p1, .int p2, .ref 32]) 2 = some (.int p1) := rfl
  have l3 : im_lk (lv_args 0 [.ref 28, .int p0, .int p1, .int p2, .ref 32]) 3 = some (.int p2) := rfl
  have l4 : im_lk (lv_args 0 [.ref 28, .int p0, .int p1, .int p2, .ref 32]) 4 = some (.ref 32) := rfl
  refine iq_iconst hS 1 J_HSheet_takeRuns_d0 (v := 0) (by decide +kernel) rfl ?_
  refine iq_istore hS 3 J_HSheet_takeRuns_d1 (by decide) rfl ?_
  refine iq_iload_n hS 4 J_HSheet_takeRuns_d3 (lk_1i l3 (by decide)) rfl ?_
  have J1 : ∀ (z2 : Int32) (L' : List (Nat × Value)), z2 = ((if p2 = 0 then ((im_i M 28 0) - p0) else ((im_i M 28 1) - p1)) : Int32) → im_lk L' 0 = some (.ref 28) → im_lk L' 1 = some (.int p0) → im_lk L' 2 = some (.int p1) → im_lk L' 3 = some (.int p2) → im_lk L' 4 = some (.ref 32) → im_lk L' 5 = some (.int 0) → ia (tb_G L xs) (dep + 1) J_HSheet_takeRuns (rwI w Q) (22, L', [.int z2], M) := by
    intro z2 L' e3 l4 l5 l6 l7 l8 l9
    subst e3
    refine iq_istore hS 24 J_HSheet_takeRuns_d22 (by decide) rfl ?_
    refine iq_aload_n hS 25 J_HSheet_takeRuns_d24 (lk_1r l4 (by decide)) rfl ?_
    refine iq_iload_n hS 26 J_HSheet_takeRuns_d25 (lk_1i l5 (by decide)) rfl ?_
    refine iq_iload_n hS 27 J_HSheet_takeRuns_d26 (lk_1i l6 (by decide)) rfl ?_
    obtain ⟨Q10, hQ10, h⟩ := bd1_ed h
    refine iq_cpI hS 30 J_HSheet_takeRuns_d27 rfl (pr_inst (vs := [_, _]) lc_9_73 lT_200 rfl rfl (by decide) (by decide) rfl (Nat.le_of_ble_eq_true rfl) (Nat.le_of_ble_eq_true rfl) (fun _ => Or.inl (pr_b (ka_28 hM) (by decide) rfl))) (f_HSheet_isDark_ok (dep := dep + 0) hM h) rfl ?_
    intro x10 h
    replace h := hQ10 _ h
    have J11 : ∀ (z12 : Int32) (L' : List (Nat × Value)), z12 = ((if ¬ x10 = 0 then 0 else 1) : Int32) → im_lk L' 0 = some (.ref 28) → im_lk L' 1 = some (.int p0) → im_lk L' 2 = some (.int p1) → im_lk L' 3 = some (.int p2) → im_lk L' 4 = some (.ref 32) → im_lk L' 5 = some (.int 0) → im_lk L' 6 = some (.int ((if p2 = 0 then ((im_i M 28 0) - p0) else ((im_i M 28 1) - p1)) : Int32)) → ia (tb_G L xs) (dep + 1) J_HSheet_takeRuns (rwI w Q) (38, L', [.int z12], M) := by
      intro z12 L' e13 l14 l15 l16 l17 l18 l19 l20
      subst e13
      refine iq_istore hS 40 J_HSheet_takeRuns_d38 (by decide) rfl ?_
      refine iq_iconst hS 41 J_HSheet_takeRuns_d40 (v := 0) (by decide +kernel) rfl ?_
      refine iq_istore hS 43 J_HSheet_takeRuns_d41 (by decide) rfl ?_
      obtain ⟨Q21, hQ21, h⟩ := bd2_ed h
      have K21 : ∀ (y22 : Int32) (M23 : im_M) (L' : List (Nat × Value)), lw_S w M23 → im_lk L' 5 = some (.int y22) → Q21 (y22, M23) → ia (tb_G L xs) (dep + 1) J_HSheet_takeRuns (rwI w Q) (114, L', [], M23) := by
        intro y22 M23 L' hM23 l24 h
        replace h := hQ21 _ _ h
        refine iq_iload hS 116 J_HSheet_takeRuns_d114 l24 rfl ?_
        exact iq_iret J_HSheet_takeRuns_d116 rfl rfl ⟨_, rfl, hM23, ed_some h⟩
      obtain ⟨r21, hr21, hq21⟩ := h
      obtain ⟨n21, hn21⟩ := lp_n hr21
      have I21 : ∀ (n : Nat) (x25 : Int32) (x26 : Int32) (x27 : Int32) (M28 : im_M) (L' : List (Nat × Value)), lw_S w M28 → im_lk L' 0 = some (.ref 28) → im_lk L' 1 = some (.int p0) → im_lk L' 2 = some (.int p1) → im_lk L' 3 = some (.int p2) → im_lk L' 4 = some (.ref 32) → im_lk L' 5 = some (.int x25) → im_lk L' 6 = some (.int ((if p2 = 0 then ((im_i M 28 0) - p0) else ((im_i M 28 1) - p1)) : Int32)) → im_lk L' 7 = some (.int x26) → im_lk L' 8 = some (.int x27) → lpn (uc4 (f_HSheet_takeRuns_L43 w p0 p1 p2 ((if p2 = 0 then ((im_i M 28 0) - p0) else ((im_i M 28 1) - p1)) : Int32))) n (x25, x26, x27, M28) = some r21 → ia (tb_G L xs) (dep + 1) J_HSheet_takeRuns (rwI w Q) (43, L', [], M28) := by
        intro n
        induction n with
        | zero => intro x25 x26 x27 M28 L' hM28 l29 l30 l31 l32 l33 l34 l35 l36 l37 hn; exact (lpn_0 hn).elim
        | succ n ih =>
          intro x25 x26 x27 M28 L' hM28 l29 l30 l31 l32 l33 l34 l35 l36 l37 hn
          have h := lpn_ed4 hn
          unfold f_HSheet_takeRuns_L43 at h
          refine iq_iload hS 45 J_HSheet_takeRuns_d43 l37 rfl ?_
          refine iq_iload hS 47 J_HSheet_takeRuns_d45 l35 rfl ?_
          refine iq_icmp_ge hS 50 J_HSheet_takeRuns_d47 (t := 114) rfl (fun q47 => ?_) rfl (fun q47 => ?_)
          · replace h := ed_pos q47 h
            exact K21 _ _ _ hM28 l34 (lq_r h hq21)
          · replace h := ed_neg q47 h
            refine iq_iload_n hS 51 J_HSheet_takeRuns_d50 l32 rfl ?_
            obtain ⟨Q38, hQ38, h⟩ := bd1_ed h
            have J38 : ∀ (y41 : Int32) (L' : List (Nat × Value)), im_lk L' 0 = some (.ref 28) → im_lk L' 1 = some (.int p0) → im_lk L' 2 = some (.int p1) → im_lk L' 3 = some (.int p2) → im_lk L' 4 = some (.ref 32) → im_lk L' 5 = some (.int x25) → im_lk L' 6 = some (.int ((if p2 = 0 then ((im_i M 28 0) - p0) else ((im_i M 28 1) - p1)) : Int32)) → im_lk L' 7 = some (.int x26) → im_lk L' 8 = some (.int x27) → Q38 y41 → ia (tb_G L xs) (dep + 1) J_HSheet_takeRuns (rwI w Q) (75, L', [.int y41], M28) := by
              intro y41 L' l42 l43 l44 l45 l46 l47 l48 l49 l50 h
              replace h := hQ38 _ h
              refine iq_istore hS 77 J_HSheet_takeRuns_d75 (by decide) rfl ?_
              refine iq_iload hS 79 J_HSheet_takeRuns_d77 lk_1s rfl ?_
              refine iq_iload hS 81 J_HSheet_takeRuns_d79 (lk_1i l49 (by decide)) rfl ?_
              obtain ⟨Q51, hQ51, h⟩ := bd3_ed h
              have J51 : ∀ (y52 : Int32) (y53 : Int32) (M54 : im_M) (L' : List (Nat × Value)), lw_S w M54 → im_lk L' 0 = some (.ref 28) → im_lk L' 1 = some (.int p0) → im_lk L' 2 = some (.int p1) → im_lk L' 3 = some (.int p2) → im_lk L' 4 = some (.ref 32) → im_lk L' 5 = some (.int y52) → im_lk L' 6 = some (.int ((if p2 = 0 then ((im_i M 28 0) - p0) else ((im_i M 28 1) - p1)) : Int32)) → im_lk L' 7 = some (.int y53) → im_lk L' 8 = some (.int x27) → Q51 (y52, y53, M54) → ia (tb_G L xs) (dep + 1) J_HSheet_takeRuns (rwI w Q) (97, L', [], M54) := by
                intro y52 y53 M54 L' hM54 l55 l56 l57 l58 l59 l60 l61 l62 l63 h
                replace h := hQ51 _ _ _ h
                refine iq_aload hS 99 J_HSheet_takeRuns_d97 l59 rfl ?_
                refine iq_iload hS 101 J_HSheet_takeRuns_d99 l60 rfl ?_
                refine iq_iconst hS 102 J_HSheet_takeRuns_d101 (v := 1) (by decide +kernel) rfl ?_
                refine iq_isub hS 103 J_HSheet_takeRuns_d102 rfl ?_
                refine iq_dup2 hS 104 J_HSheet_takeRuns_d103 rfl rfl rfl ?_
                obtain ⟨g104, h⟩ := ed_gd h
                refine iq_iaload hS 105 J_HSheet_takeRuns_d104 ⟨(ka_32 hM54).1, (ka_32 hM54).2, g104.1, ix_lt (kl_32 hM54) g104.2⟩ rfl ?_
                refine iq_iconst hS 106 J_HSheet_takeRuns_d105 (v := 1) (by decide +kernel) rfl ?_
                refine iq_iadd hS 107 J_HSheet_takeRuns_d106 rfl ?_
                obtain ⟨g107, h⟩ := ed_gd h
                refine iq_iastore hS 108 J_HSheet_takeRuns_d107 ⟨(ka_32 hM54).1, (ka_32 hM54).2, g107.1, ix_lt (kl_32 hM54) g107.2⟩ rfl ?_
                refine iq_iincv hS 111 J_HSheet_takeRuns_d108 (c := 1) (by decide +kernel) l63 (by decide) rfl ?_
                refine iq_goto hS J_HSheet_takeRuns_d111 (t := 43) rfl ?_
                exact ih _ _ _ _ _ hM54 (lk_1r l55 (by decide)) (lk_1i l56 (by decide)) (lk_1i l57 (by decide)) (lk_1i l58 (by decide)) (lk_1r l59 (by decide)) (lk_1i l60 (by decide)) (lk_1i l61 (by decide)) (lk_1i l62 (by decide)) lk_1s (lq_l h)
              refine iq_icmp_eq hS 84 J_HSheet_takeRuns_d81 (t := 97) rfl (fun q81 => ?_) rfl (fun q81 => ?_)
              · replace h := ed_pos q81 h
                exact J51 _ _ _ _ hM28 (lk_1r l42 (by decide)) (lk_1i l43 (by decide)) (lk_1i l44 (by decide)) (lk_1i l45 (by decide)) (lk_1r l46 (by decide)) (lk_1i l47 (by decide)) (lk_1i l48 (by decide)) (lk_1i l49 (by decide)) (lk_1i l50 (by decide)) (ed_some h)
              · replace h := ed_neg q81 h
                refine iq_aload hS 86 J_HSheet_takeRuns_d84 (lk_1r l46 (by decide)) rfl ?_
                refine iq_iload hS 88 J_HSheet_takeRuns_d86 (lk_1i l47 (by decide)) rfl ?_
                refine iq_iconst hS 89 J_HSheet_takeRuns_d88 (v := 0) (by decide +kernel) rfl ?_
                obtain ⟨g89, h⟩ := ed_gd h
                refine iq_iastore hS 90 J_HSheet_takeRuns_d89 ⟨(ka_32 hM28).1, (ka_32 hM28).2, g89.1, ix_lt (kl_32 hM28) g89.2⟩ rfl ?_
                refine iq_iincv hS 93 J_HSheet_takeRuns_d90 (c := 1) (by decide +kernel) (lk_1i l47 (by decide)) (by decide) rfl ?_
                refine iq_iload hS 95 J_HSheet_takeRuns_d93 (lk_1i lk_1s (by decide)) rfl ?_
                refine iq_istore hS 97 J_HSheet_takeRuns_d95 (by decide) rfl ?_
                exact J51 _ _ _ _ hM28 (lk_1r (lk_1r (lk_1r l42 (by decide)) (by decide)) (by decide)) (lk_1i (lk_1i (lk_1i l43 (by decide)) (by decide)) (by decide)) (lk_1i (lk_1i (lk_1i l44 (by decide)) (by decide)) (by decide)) (lk_1i (lk_1i (lk_1i l45 (by decide)) (by decide)) (by decide)) (lk_1r (lk_1r (lk_1r l46 (by decide)) (by decide)) (by decide)) (lk_1i lk_1s (by decide)) (lk_1i (lk_1i (lk_1i l48 (by decide)) (by decide)) (by decide)) lk_1s (lk_1i (lk_1i (lk_1i l50 (by decide)) (by decide)) (by decide)) (ed_some h)
            refine iq_if_eq hS 54 J_HSheet_takeRuns_d51 (t := 66) rfl (fun q51 => ?_) rfl (fun q51 => ?_)
            · replace h := ed_pos q51 h
              refine iq_aload_n hS 67 J_HSheet_takeRuns_d66 l29 rfl ?_
              refine iq_iload_n hS 68 J_HSheet_takeRuns_d67 l30 rfl ?_
              refine iq_iload hS 70 J_HSheet_takeRuns_d68 l37 rfl ?_
              refine iq_iadd hS 71 J_HSheet_takeRuns_d70 rfl ?_
              refine iq_iload_n hS 72 J_HSheet_takeRuns_d71 l31 rfl ?_
              obtain ⟨Q39, hQ39, h⟩ := bd1_ed h
              refine iq_cpI hS 75 J_HSheet_takeRuns_d72 rfl (pr_inst (vs := [_, _]) lc_9_73 lT_200 rfl rfl (by decide) (by decide) rfl (Nat.le_of_ble_eq_true rfl) (Nat.le_of_ble_eq_true rfl) (fun _ => Or.inl (pr_b (ka_28 hM28) (by decide) rfl))) (f_HSheet_isDark_ok (dep := dep + 0) hM28 h) rfl ?_
              intro x39 h
              replace h := hQ39 _ h
              exact J38 _ _ l29 l30 l31 l32 l33 l34 l35 l36 l37 (ed_some h)
            · replace h := ed_neg q51 h
              refine iq_aload_n hS 55 J_HSheet_takeRuns_d54 l29 rfl ?_
              refine iq_iload_n hS 56 J_HSheet_takeRuns_d55 l30 rfl ?_
              refine iq_iload_n hS 57 J_HSheet_takeRuns_d56 l31 rfl ?_
              refine iq_iload hS 59 J_HSheet_takeRuns_d57 l37 rfl ?_
              refine iq_iadd hS 60 J_HSheet_takeRuns_d59 rfl ?_
              obtain ⟨Q40, hQ40, h⟩ := bd1_ed h
              refine iq_cpI hS 63 J_HSheet_takeRuns_d60 rfl (pr_inst (vs := [_, _]) lc_9_73 lT_200 rfl rfl (by decide) (by decide) rfl (Nat.le_of_ble_eq_true rfl) (Nat.le_of_ble_eq_true rfl) (fun _ => Or.inl (pr_b (ka_28 hM28) (by decide) rfl))) (f_HSheet_isDark_ok (dep := dep + 0) hM28 h) rfl ?_
              intro x40 h
              replace h := hQ40 _ h
              refine iq_goto hS J_HSheet_takeRuns_d63 (t := 75) rfl ?_
              exact J38 _ _ l29 l30 l31 l32 l33 l34 l35 l36 l37 (ed_some h)
      exact I21 n21 _ _ _ _ _ hM (lk_1r (lk_1r l14 (by decide)) (by decide)) (lk_1i (lk_1i l15 (by decide)) (by decide)) (lk_1i (lk_1i l16 (by decide)) (by decide)) (lk_1i (lk_1i l17 (by decide)) (by decide)) (lk_1r (lk_1r l18 (by decide)) (by decide)) (lk_1i (lk_1i l19 (by decide)) (by decide)) (lk_1i (lk_1i l20 (by decide)) (by decide)) (lk_1i lk_1s (by decide)) lk_1s hn21
    refine iq_if_ne hS 33 J_HSheet_takeRuns_d30 (t := 37) rfl (fun q30 => ?_) rfl (fun q30 => ?_)
    · refine iq_iconst hS 38 J_HSheet_takeRuns_d37 (v := 0) (by decide +kernel) rfl ?_
      exact J11 _ _ (by rw [if_pos q30]) (lk_1r l4 (by decide)) (lk_1i l5 (by decide)) (lk_1i l6 (by decide)) (lk_1i l7 (by decide)) (lk_1r l8 (by decide)) (lk_1i l9 (by decide)) lk_1s
    · refine iq_iconst hS 34 J_HSheet_takeRuns_d33 (v := 1) (by decide +kernel) rfl ?_
      refine iq_goto hS J_HSheet_takeRuns_d34 (t := 38) rfl ?_
      exact J11 _ _ (by rw [if_neg q30]) (lk_1r l4 (by decide)) (lk_1i l5 (by decide)) (lk_1i l6 (by decide)) (lk_1i l7 (by decide)) (lk_1r l8 (by decide)) (lk_1i l9 (by decide)) lk_1s
  refine iq_if_eq hS 7 J_HSheet_takeRuns_d4 (t := 16) rfl (fun q4 => ?_) rfl (fun q4 => ?_)
  · refine iq_aload_n hS 17 J_HSheet_takeRuns_d16 (lk_1r l0 (by decide)) rfl ?_
    refine iq_getI hS 20 J_HSheet_takeRuns_d17 lf_9_9 (Or.inl rfl) (ka_28 hM) rfl ?_
    refine iq_iload_n hS 21 J_HSheet_takeRuns_d20 (lk_1i l1 (by decide)) rfl ?_
    refine iq_isub hS 22 J_HSheet_takeRuns_d21 rfl ?_
    exact J1 _ _ (by rw [if_pos q4]) (lk_1r l0 (by decide)) (lk_1i l1 (by decide)) (lk_1i l2 (by decide)) (lk_1i l3 (by decide)) (lk_1r l4 (by decide)) lk_1s
  · refine iq_aload_n hS 8 J_HSheet_takeRuns_d7 (lk_1r l0 (by decide)) rfl ?_
    refine iq_getI hS 11 J_HSheet_takeRuns_d8 lf_9_15 (Or.inl rfl) (ka_28 hM) rfl ?_
    refine iq_iload_n hS 12 J_HSheet_takeRuns_d11 (lk_1i l2 (by decide)) rfl ?_
    refine iq_isub hS 13 J_HSheet_takeRuns_d12 rfl ?_
    refine iq_goto hS J_HSheet_takeRuns_d13 (t := 22) rfl ?_
    exact J1 _ _ (by rw [if_neg q4]) (lk_1r l0 (by decide)) (lk_1i l1 (by decide)) (lk_1i l2 (by decide)) (lk_1i l3 (by decide)) (lk_1r l4 (by decide)) lk_1s
noncomputable def f_H_run (w : Bool) (p0 : Int32) (p1 : Int32) (p2 : Int32) (p3 : Int32) (M : im_M) : Option (Int32 × im_M) := bd1 (f_HSheet_has p0 p1 M) fun (x1 : Int32) => if ¬ x1 = 0 then bd2 (f_HSheet_takeRuns w p0 p1 p3 M) fun (x2 : Int32) (M2 : im_M) => jn0 (fun (_ : Unit) => some ((-1), M2)) fun k3 => if p2 < 0 then k3 () else if p2 < x2 then gd (inb p2 512) <| some ((im_i M2 32 (Int32.toNatClampNeg p2)), M2) else k3 () else none
theorem J_H_run_d0 : decode J_H_run.2.1 0 = .ok (.aload_n 0, 1) := by decide +kernel
theorem J_H_run_d1 : decode J_H_run.2.1 1 = .ok (.getfield 37, 3) := by decide +kernel
theorem J_H_run_d4 : decode J_H_run.2.1 4 = .ok (.iload_n 1, 1) := by decide +kernel
theorem J_H_run_d5 : decode J_H_run.2.1 5 = .ok (.iload_n 2, 1) := by decide +kernel
theorem J_H_run_d6 : decode J_H_run.2.1 6 = .ok (.invokevirtual 182, 3) := by decide +kernel
theorem J_H_run_d9 : decode J_H_run.2.1 9 = .ok (.ifCond .ne 11, 3) := by decide +kernel
theorem J_H_run_d20 : decode J_H_run.2.1 20 = .ok (.aload_n 0, 1) := by decide +kernel
theorem J_H_run_d21 : decode J_H_run.2.1 21 = .ok (.getfield 37, 3) := by decide +kernel
theorem J_H_run_d24 : decode J_H_run.2.1 24 = .ok (.iload_n 1, 1) := by decide +kernel
theorem J_H_run_d25 : decode J_H_run.2.1 25 = .ok (.iload_n 2, 1) := by decide +kernel
theorem J_H_run_d26 : decode J_H_run.2.1 26 = .ok (.iload 4, 2) := by decide +kernel
theorem J_H_run_d28 : decode J_H_run.2.1 28 = .ok (.aload_n 0, 1) := by decide +kernel
theorem J_H_run_d29 : decode J_H_run.2.1 29 = .ok (.getfield 44, 3) := by decide +kernel
theorem J_H_run_d32 : decode J_H_run.2.1 32 = .ok (.getfield 186, 3) := by decide +kernel
theorem J_H_run_d35 : decode J_H_run.2.1 35 = .ok (.invokevirtual 189, 3) := by decide +kernel
theorem J_H_run_d38 : decode J_H_run.2.1 38 = .ok (.istore 5, 2) := by decide +kernel
theorem J_H_run_d40 : decode J_H_run.2.1 40 = .ok (.iload_n 3, 1) := by decide +kernel
theorem J_H_run_d41 : decode J_H_run.2.1 41 = .ok (.ifCond .lt 9, 3) := by decide +kernel
theorem J_H_run_d44 : decode J_H_run.2.1 44 = .ok (.iload_n 3, 1) := by decide +kernel
theorem J_H_run_d45 : decode J_H_run.2.1 45 = .ok (.iload 5, 2) := by decide +kernel
theorem J_H_run_d47 : decode J_H_run.2.1 47 = .ok (.if_icmp .lt 7, 3) := by decide +kernel
theorem J_H_run_d50 : decode J_H_run.2.1 50 = .ok (.iconst (-1), 1) := by decide +kernel
theorem J_H_run_d51 : decode J_H_run.2.1 51 = .ok (.goto 12, 3) := by decide +kernel
theorem J_H_run_d54 : decode J_H_run.2.1 54 = .ok (.aload_n 0, 1) := by decide +kernel
theorem J_H_run_d55 : decode J_H_run.2.1 55 = .ok (.getfield 44, 3) := by decide +kernel
theorem J_H_run_d58 : decode J_H_run.2.1 58 = .ok (.getfield 186, 3) := by decide +kernel
theorem J_H_run_d61 : decode J_H_run.2.1 61 = .ok (.iload_n 3, 1) := by decide +kernel
theorem J_H_run_d62 : decode J_H_run.2.1 62 = .ok (.iaload, 1) := by decide +kernel
theorem J_H_run_d63 : decode J_H_run.2.1 63 = .ok (.ireturn, 1) := by decide +kernel
theorem f_H_run_ok {L : Nat} {xs : Nat → Int32} {dep : Nat} {w : Bool} {p0 : Int32} {p1 : Int32} {p2 : Int32} {p3 : Int32} {M : im_M} {Q : Int32 × im_M → Prop} (hM : lw_S w M) (h : ed (f_H_run w p0 p1 p2 p3 M) Q) : ia (tb_G L xs) (dep + 2) J_H_run (rwI w Q) (0, lv_args 0 [.ref 0, .int p0, .int p1, .int p2, .int p3], [], M) := by
  have hS : im_St (tb_G L xs) (dep + 2) J_H_run (ia (tb_G L xs) (dep + 2) J_H_run (rwI w Q)) := ia_St
  unfold f_H_run at h
  have l0 : im_lk (lv_args 0 [.ref 0, .int p0, .int p1, .int p2, .int p3]) 0 = some (.ref 0) := rfl
  have l1 : im_lk (lv_args 0 [.ref 0, .int p0, .int p1, .int p2, .int p3]) 1 = some (.int p0) := rfl
  have l2 : im_lk (lv_args 0 [.ref 0, .int p0, .int p1, .int p2, .int p3]) 2 = some (.int p1) := rfl
  have l3 : im_lk (lv_args 0 [.ref 0, .int p0, .int p1, .int p2, .int p3]) 3 = some (.int p2) := rfl
  have l4 : im_lk (lv_args 0 [.ref 0, .int p0, .int p1, .int p2, .int p3]) 4 = some (.int p3) := rfl
  refine iq_aload_n hS 1 J_H_run_d0 l0 rfl ?_
  refine iq_getR hS 4 J_H_run_d1 lf_11_37 (Or.inl ⟨_, rfl⟩) (ka_0 hM) (ra_0_3 hM) rfl ?_
  refine iq_iload_n hS 5 J_H_run_d4 l1 rfl ?_
  refine iq_iload_n hS 6 J_H_run_d5 l2 rfl ?_
  obtain ⟨Q1, hQ1, h⟩ := bd1_ed h
  refine iq_cpI hS 9 J_H_run_d6 rfl (pr_inst (vs := [_, _]) lc_11_182 lT_198 rfl rfl (by decide) (by decide) rfl (Nat.le_of_ble_eq_true rfl) (Nat.le_of_ble_eq_true rfl) (fun _ => Or.inl (pr_b (ka_28 hM) (by decide) rfl))) (f_HSheet_has_ok (dep := dep + 1) hM h) rfl ?_
  intro x1 h
  replace h := hQ1 _ h
  refine iq_if_ne hS 12 J_H_run_d9 (t := 20) rfl (fun q9 => ?_) rfl (fun q9 => ?_)
  · replace h := ed_pos q9 h
    refine iq_aload_n hS 21 J_H_run_d20 l0 rfl ?_
    refine iq_getR hS 24 J_H_run_d21 lf_11_37 (Or.inl ⟨_, rfl⟩) (ka_0 hM) (ra_0_3 hM) rfl ?_
    refine iq_iload_n hS 25 J_H_run_d24 l1 rfl ?_
    refine iq_iload_n hS 26 J_H_run_d25 l2 rfl ?_
    refine iq_iload hS 28 J_H_run_d26 l4 rfl ?_
    refine iq_aload_n hS 29 J_H_run_d28 l0 rfl ?_
    refine iq_getR hS 32 J_H_run_d29 lf_11_44 (Or.inl ⟨_, rfl⟩) (ka_0 hM) (ra_0_5 hM) rfl ?_
    refine iq_getR hS 35 J_H_run_d32 lf_11_186 (Or.inr ⟨_, rfl⟩) (ka_31 hM) (ra_31_0 hM) rfl ?_
    obtain ⟨Q2, hQ2, h⟩ := bd2_ed h
    refine iq_cwI hS 38 J_H_run_d35 rfl (pr_inst (vs := [_, _, _, _]) lc_11_189 lT_199 rfl rfl (by decide) (by decide) rfl (Nat.le_of_ble_eq_true rfl) (Nat.le_of_ble_eq_true rfl) (fun _ => Or.inl (pr_b (ka_28 hM) (by decide) rfl))) (f_HSheet_takeRuns_ok (dep := dep + 0) hM h) rfl ?_
    intro x2 M2 hM2 h
    replace h := hQ2 _ _ h
    refine iq_istore hS 40 J_H_run_d38 (by decide) rfl ?_
    refine iq_iload_n hS 41 J_H_run_d40 (lk_1i l3 (by decide)) rfl ?_
    obtain ⟨k3, Q3, hQ3, hk3, h⟩ := jn0_ed h
    have J3 : ∀  (L' : List (Nat × Value)), Q3 () → ia (tb_G L xs) (dep + 2) J_H_run (rwI w Q) (50, L', [], M2) := by
      intro  L'  h
      replace h := hQ3  h
      refine iq_iconst hS 51 J_H_run_d50 (v := (-1)) (by decide +kernel) rfl ?_
      refine iq_goto hS J_H_run_d51 (t := 63) rfl ?_
      exact iq_iret J_H_run_d63 rfl rfl ⟨_, rfl, hM2, ed_some h⟩
    refine iq_if_lt hS 44 J_H_run_d41 (t := 50) rfl (fun q41 => ?_) rfl (fun q41 => ?_)
    · replace h := ed_pos q41 h
      exact J3  _  (hk3  h)
    · replace h := ed_neg q41 h
      refine iq_iload_n hS 45 J_H_run_d44 (lk_1i l3 (by decide)) rfl ?_
      refine iq_iload hS 47 J_H_run_d45 lk_1s rfl ?_
      refine iq_icmp_lt hS 50 J_H_run_d47 (t := 54) rfl (fun q47 => ?_) rfl (fun q47 => ?_)
      · replace h := ed_pos q47 h
        refine iq_aload_n hS 55 J_H_run_d54 (lk_1r l0 (by decide)) rfl ?_
        refine iq_getR hS 58 J_H_run_d55 lf_11_44 (Or.inl ⟨_, rfl⟩) (ka_0 hM2) (ra_0_5 hM2) rfl ?_
        refine iq_getR hS 61 J_H_run_d58 lf_11_186 (Or.inr ⟨_, rfl⟩) (ka_31 hM2) (ra_31_0 hM2) rfl ?_
        refine iq_iload_n hS 62 J_H_run_d61 (lk_1i l3 (by decide)) rfl ?_
        obtain ⟨g62, h⟩ := ed_gd h
        refine iq_iaload hS 63 J_H_run_d62 ⟨(ka_32 hM2).1, (ka_32 hM2).2, g62.1, ix_lt (kl_32 hM2) g62.2⟩ rfl ?_
        exact iq_iret J_H_run_d63 rfl rfl ⟨_, rfl, hM2, ed_some h⟩
      · replace h := ed_neg q47 h
        exact J3  _  (hk3  h)
  · replace h := ed_neg q9 h
    exact (ed_none h).elim
noncomputable def f_HFinder_addUp_L26 (w : Bool) (v5 : Int32) (v6 : Int32) (x7 : Int32) (x8 : Int32) (M9 : im_M) : Option ((Int32 × Int32 × im_M) ⊕ (im_M)) := if (im_i M9 28 0) ≤ x8 then some (.inr M9) else bd1 (f_HSheet_isDark w x8 v5 M9) fun (x10 : Int32) => gd (inb (((v6 + x8) + 1) - 513) 263169) <| gd (inb ((v6 + x8) + 1) 263169) <| some (.inl (((if x10 = 0 then x7 else (x7 + 1)) : Int32), (x8 + 1), (im_setI M9 60 (Int32.toNatClampNeg ((v6 + x8) + 1)) ((im_i M9 60 (Int32.toNatClampNeg (((v6 + x8) + 1) - 513))) + ((if x10 = 0 then x7 else (x7 + 1)) : Int32)))))
noncomputable def f_HFinder_addUp_L2 (w : Bool) (x2 : Int32) (M3 : im_M) : Option ((Int32 × im_M) ⊕ (im_M)) := if (im_i M3 28 1) ≤ x2 then some (.inr M3) else bd1 (lp (uc3 (f_HFinder_addUp_L26 w x2 ((x2 + 1) * 513))) (0, 0, M3)) fun (M12 : im_M) => some (.inl ((x2 + 1), M12))
noncomputable def f_HFinder_addUp (w : Bool) (M : im_M) : Option (im_M) := bd1 (lp (uc2 (f_HFinder_addUp_L2 w)) (0, M)) fun (M13 : im_M) => some M13
theorem J_HFinder_addUp_d0 : decode J_HFinder_addUp.2.1 0 = .ok (.iconst 0, 1) := by decide +kernel
theorem J_HFinder_addUp_d1 : decode J_HFinder_addUp.2.1 1 = .ok (.istore_n 1, 1) := by decide +kernel
theorem J_HFinder_addUp_d2 : decode J_HFinder_addUp.2.1 2 = .ok (.iload_n 1, 1) := by decide +kernel
theorem J_HFinder_addUp_d3 : decode J_HFinder_addUp.2.1 3 = .ok (.aload_n 0, 1) := by decide +kernel
theorem J_HFinder_addUp_d4 : decode J_HFinder_addUp.2.1 4 = .ok (.getfield 37, 3) := by decide +kernel
theorem J_HFinder_addUp_d7 : decode J_HFinder_addUp.2.1 7 = .ok (.getfield 57, 3) := by decide +kernel
theorem J_HFinder_addUp_d10 : decode J_HFinder_addUp.2.1 10 = .ok (.if_icmp .ge 84, 3) := by decide +kernel
theorem J_HFinder_addUp_d13 : decode J_HFinder_addUp.2.1 13 = .ok (.iconst 0, 1) := by decide +kernel
theorem J_HFinder_addUp_d14 : decode J_HFinder_addUp.2.1 14 = .ok (.istore_n 2, 1) := by decide +kernel
theorem J_HFinder_addUp_d15 : decode J_HFinder_addUp.2.1 15 = .ok (.iload_n 1, 1) := by decide +kernel
theorem J_HFinder_addUp_d16 : decode J_HFinder_addUp.2.1 16 = .ok (.iconst 1, 1) := by decide +kernel
theorem J_HFinder_addUp_d17 : decode J_HFinder_addUp.2.1 17 = .ok (.iadd, 1) := by decide +kernel
theorem J_HFinder_addUp_d18 : decode J_HFinder_addUp.2.1 18 = .ok (.sipush 513, 3) := by decide +kernel
theorem J_HFinder_addUp_d21 : decode J_HFinder_addUp.2.1 21 = .ok (.imul, 1) := by decide +kernel
theorem J_HFinder_addUp_d22 : decode J_HFinder_addUp.2.1 22 = .ok (.istore_n 3, 1) := by decide +kernel
theorem J_HFinder_addUp_d23 : decode J_HFinder_addUp.2.1 23 = .ok (.iconst 0, 1) := by decide +kernel
theorem J_HFinder_addUp_d24 : decode J_HFinder_addUp.2.1 24 = .ok (.istore 4, 2) := by decide +kernel
theorem J_HFinder_addUp_d26 : decode J_HFinder_addUp.2.1 26 = .ok (.iload 4, 2) := by decide +kernel
theorem J_HFinder_addUp_d28 : decode J_HFinder_addUp.2.1 28 = .ok (.aload_n 0, 1) := by decide +kernel
theorem J_HFinder_addUp_d29 : decode J_HFinder_addUp.2.1 29 = .ok (.getfield 37, 3) := by decide +kernel
theorem J_HFinder_addUp_d32 : decode J_HFinder_addUp.2.1 32 = .ok (.getfield 54, 3) := by decide +kernel
theorem J_HFinder_addUp_d35 : decode J_HFinder_addUp.2.1 35 = .ok (.if_icmp .ge 53, 3) := by decide +kernel
theorem J_HFinder_addUp_d38 : decode J_HFinder_addUp.2.1 38 = .ok (.aload_n 0, 1) := by decide +kernel
theorem J_HFinder_addUp_d39 : decode J_HFinder_addUp.2.1 39 = .ok (.getfield 37, 3) := by decide +kernel
theorem J_HFinder_addUp_d42 : decode J_HFinder_addUp.2.1 42 = .ok (.iload 4, 2) := by decide +kernel
theorem J_HFinder_addUp_d44 : decode J_HFinder_addUp.2.1 44 = .ok (.iload_n 1, 1) := by decide +kernel
theorem J_HFinder_addUp_d45 : decode J_HFinder_addUp.2.1 45 = .ok (.invokevirtual 79, 3) := by decide +kernel
theorem J_HFinder_addUp_d48 : decode J_HFinder_addUp.2.1 48 = .ok (.ifCond .eq 6, 3) := by decide +kernel
theorem J_HFinder_addUp_d51 : decode J_HFinder_addUp.2.1 51 = .ok (.iinc 2 1, 3) := by decide +kernel
theorem J_HFinder_addUp_d54 : decode J_HFinder_addUp.2.1 54 = .ok (.aload_n 0, 1) := by decide +kernel
theorem J_HFinder_addUp_d55 : decode J_HFinder_addUp.2.1 55 = .ok (.getfield 14, 3) := by decide +kernel
theorem J_HFinder_addUp_d58 : decode J_HFinder_addUp.2.1 58 = .ok (.iload_n 3, 1) := by decide +kernel
theorem J_HFinder_addUp_d59 : decode J_HFinder_addUp.2.1 59 = .ok (.iload 4, 2) := by decide +kernel
theorem J_HFinder_addUp_d61 : decode J_HFinder_addUp.2.1 61 = .ok (.iadd, 1) := by decide +kernel
theorem J_HFinder_addUp_d62 : decode J_HFinder_addUp.2.1 62 = .ok (.iconst 1, 1) := by decide +kernel
theorem J_HFinder_addUp_d63 : decode J_HFinder_addUp.2.1 63 = .ok (.iadd, 1) := by decide +kernel
theorem J_HFinder_addUp_d64 : decode J_HFinder_addUp.2.1 64 = .ok (.aload_n 0, 1) := by decide +kernel
theorem J_HFinder_addUp_d65 : decode J_HFinder_addUp.2.1 65 = .ok (.getfield 14, 3) := by decide +kernel
theorem J_HFinder_addUp_d68 : decode J_HFinder_addUp.2.1 68 = .ok (.iload_n 3, 1) := by decide +kernel
theorem J_HFinder_addUp_d69 : decode J_HFinder_addUp.2.1 69 = .ok (.iload 4, 2) := by decide +kernel
theorem J_HFinder_addUp_d71 : decode J_HFinder_addUp.2.1 71 = .ok (.iadd, 1) := by decide +kernel
theorem J_HFinder_addUp_d72 : decode J_HFinder_addUp.2.1 72 = .ok (.iconst 1, 1) := by decide +kernel
theorem J_HFinder_addUp_d73 : decode J_HFinder_addUp.2.1 73 = .ok (.iadd, 1) := by decide +kernel
theorem J_HFinder_addUp_d74 : decode J_HFinder_addUp.2.1 74 = .ok (.sipush 513, 3) := by decide +kernel
theorem J_HFinder_addUp_d77 : decode J_HFinder_addUp.2.1 77 = .ok (.isub, 1) := by decide +kernel
theorem J_HFinder_addUp_d78 : decode J_HFinder_addUp.2.1 78 = .ok (.iaload, 1) := by decide +kernel
theorem J_HFinder_addUp_d79 : decode J_HFinder_addUp.2.1 79 = .ok (.iload_n 2, 1) := by decide +kernel
theorem J_HFinder_addUp_d80 : decode J_HFinder_addUp.2.1 80 = .ok (.iadd, 1) := by decide +kernel
theorem J_HFinder_addUp_d81 : decode J_HFinder_addUp.2.1 81 = .ok (.iastore, 1) := by decide +kernel
theorem J_HFinder_addUp_d82 : decode J_HFinder_addUp.2.1 82 = .ok (.iinc 4 1, 3) := by decide +kernel
theorem J_HFinder_addUp_d85 : decode J_HFinder_addUp.2.1 85 = .ok (.goto (-59), 3) := by decide +kernel
theorem J_HFinder_addUp_d88 : decode J_HFinder_addUp.2.1 88 = .ok (.iinc 1 1, 3) := by decide +kernel
theorem J_HFinder_addUp_d91 : decode J_HFinder_addUp.2.1 91 = .ok (.goto (-89), 3) := by decide +kernel
theorem J_HFinder_addUp_d94 : decode J_HFinder_addUp.2.1 94 = .ok (.return_, 1) := by decide +kernel
theorem f_HFinder_addUp_ok {L : Nat} {xs : Nat → Int32} {dep : Nat} {w : Bool} {M : im_M} {Q : im_M → Prop} (hM : lw_S w M) (h : ed (f_HFinder_addUp w M) Q) : ia (tb_G L xs) (dep + 1) J_HFinder_addUp (rwV w Q) (0, lv_args 0 [.ref 59], [], M) := by
  have hS : im_St (tb_G L xs) (dep + 1) J_HFinder_addUp (ia (tb_G L xs) (dep + 1) J_HFinder_addUp (rwV w Q)) := ia_St
  unfold f_HFinder_addUp at h
  have l0 : im_lk (lv_args 0 [.ref 59]) 0 = some (.ref 59) := rfl
  refine iq_iconst hS 1 J_HFinder_addUp_d0 (v := 0) (by decide +kernel) rfl ?_
  refine iq_istore_n hS 2 J_HFinder_addUp_d1 (by decide) rfl ?_
  obtain ⟨Q1, hQ1, h⟩ := bd1_ed h
  have K1 : ∀ (M2 : im_M) (L' : List (Nat × Value)), lw_S w M2 → Q1 M2 → ia (tb_G L xs) (dep + 1) J_HFinder_addUp (rwV w Q) (94, L', [], M2) := by
    intro M2 L' hM2  h
    replace h := hQ1 _ h
    exact iq_ret J_HFinder_addUp_d94 rfl ⟨rfl, hM2, ed_some h⟩
  obtain ⟨r1, hr1, hq1⟩ := h
  obtain ⟨n1, hn1⟩ := lp_n hr1
  have I1 : ∀ (n : Nat) (x3 : Int32) (M4 : im_M) (L' : List (Nat × Value)), lw_S w M4 → im_lk L' 0 = some (.ref 59) → im_lk L' 1 = some (.int x3) → lpn (uc2 (f_HFinder_addUp_L2 w)) n (x3, M4) = some r1 → ia (tb_G L xs) (dep + 1) J_HFinder_addUp (rwV w Q) (2, L', [], M4) := by
    intro n
    induction n with
    | zero => intro x3 M4 L' hM4 l5 l6 hn; exact (lpn_0 hn).elim
    | succ n ih =>
      intro x3 M4 L' hM4 l5 l6 hn
      have h := lpn_ed2 hn
      unfold f_HFinder_addUp_L2 at h
      refine iq_iload_n hS 3 J_HFinder_addUp_d2 l6 rfl ?_
      refine iq_aload_n hS 4 J_HFinder_addUp_d3 l5 rfl ?_
      refine iq_getR hS 7 J_HFinder_addUp_d4 lf_3_37 (Or.inl ⟨_, rfl⟩) (ka_59 hM4) (ra_59_1 hM4) rfl ?_
      refine iq_getI hS 10 J_HFinder_addUp_d7 lf_3_57 (Or.inl rfl) (ka_28 hM4) rfl ?_
      refine iq_icmp_ge hS 13 J_HFinder_addUp_d10 (t := 94) rfl (fun q10 => ?_) rfl (fun q10 => ?_)
      · replace h := ed_pos q10 h
        exact K1 _ _ hM4  (lq_r h hq1)
      · replace h := ed_neg q10 h
        refine iq_iconst hS 14 J_HFinder_addUp_d13 (v := 0) (by decide +kernel) rfl ?_
        refine iq_istore_n hS 15 J_HFinder_addUp_d14 (by decide) rfl ?_
        refine iq_iload_n hS 16 J_HFinder_addUp_d15 (lk_1i l6 (by decide)) rfl ?_
        refine iq_iconst hS 17 J_HFinder_addUp_d16 (v := 1) (by decide +kernel) rfl ?_
        refine iq_iadd hS 18 J_HFinder_addUp_d17 rfl ?_
        refine iq_sipush hS 21 J_HFinder_addUp_d18 (v := 513) (by decide +kernel) rfl ?_
        refine iq_imul hS 22 J_HFinder_addUp_d21 rfl ?_
        refine iq_istore_n hS 23 J_HFinder_addUp_d22 (by decide) rfl ?_
        refine iq_iconst hS 24 J_HFinder_addUp_d23 (v := 0) (by decide +kernel) rfl ?_
        refine iq_istore hS 26 J_HFinder_addUp_d24 (by decide) rfl ?_
        obtain ⟨Q7, hQ7, h⟩ := bd1_ed h
        have K7 : ∀ (M8 : im_M) (L' : List (Nat × Value)), lw_S w M8 → im_lk L' 0 = some (.ref 59) → im_lk L' 1 = some (.int x3) → Q7 M8 → ia (tb_G L xs) (dep + 1) J_HFinder_addUp (rwV w Q) (88, L', [], M8) := by
          intro M8 L' hM8 l9 l10 h
          replace h := hQ7 _ h
          refine iq_iincv hS 91 J_HFinder_addUp_d88 (c := 1) (by decide +kernel) l10 (by decide) rfl ?_
          refine iq_goto hS J_HFinder_addUp_d91 (t := 2) rfl ?_
          exact ih _ _ _ hM8 (lk_1r l9 (by decide)) lk_1s (lq_l h)
        obtain ⟨r7, hr7, hq7⟩ := h
        obtain ⟨n7, hn7⟩ := lp_n hr7
        have I7 : ∀ (n : Nat) (x11 : Int32) (x12 : Int32) (M13 : im_M) (L' : List (Nat × Value)), lw_S w M13 → im_lk L' 0 = some (.ref 59) → im_lk L' 1 = some (.int x3) → im_lk L' 2 = some (.int x11) → im_lk L' 3 = some (.int ((x3 + 1) * 513)) → im_lk L' 4 = some (.int x12) → lpn (uc3 (f_HFinder_addUp_L26 w x3 ((x3 + 1) * 513))) n (x11, x12, M13) = some r7 → ia (tb_G L xs) (dep + 1) J_HFinder_addUp (rwV w Q) (26, L', [], M13) := by
          intro n
          induction n with
          | zero => intro x11 x12 M13 L' hM13 l14 l15 l16 l17 l18 hn; exact (lpn_0 hn).elim
          | succ n ih =>
            intro x11 x12 M13 L' hM13 l14 l15 l16 l17 l18 hn
            have h := lpn_ed3 hn
            unfold f_HFinder_addUp_L26 at h
            refine iq_iload hS 28 J_HFinder_addUp_d26 l18 rfl ?_
            refine iq_aload_n hS 29 J_HFinder_addUp_d28 l14 rfl ?_
            refine iq_getR hS 32 J_HFinder_addUp_d29 lf_3_37 (Or.inl ⟨_, rfl⟩) (ka_59 hM13) (ra_59_1 hM13) rfl ?_
            refine iq_getI hS 35 J_HFinder_addUp_d32 lf_3_54 (Or.inl rfl) (ka_28 hM13) rfl ?_
            refine iq_icmp_ge hS 38 J_HFinder_addUp_d35 (t := 88) rfl (fun q35 => ?_) rfl (fun q35 => ?_)
            · replace h := ed_pos q35 h
              exact K7 _ _ hM13 l14 l15 (lq_r h hq7)
            · replace h := ed_neg q35 h
              refine iq_aload_n hS 39 J_HFinder_addUp_d38 l14 rfl ?_
              refine iq_getR hS 42 J_HFinder_addUp_d39 lf_3_37 (Or.inl ⟨_, rfl⟩) (ka_59 hM13) (ra_59_1 hM13) rfl ?_
              refine iq_iload hS 44 J_HFinder_addUp_d42 l18 rfl ?_
              refine iq_iload_n hS 45 J_HFinder_addUp_d44 l15 rfl ?_
              obtain ⟨Q19, hQ19, h⟩ := bd1_ed h
              refine iq_cpI hS 48 J_HFinder_addUp_d45 rfl (pr_inst (vs := [_, _]) lc_3_79 lT_200 rfl rfl (by decide) (by decide) rfl (Nat.le_of_ble_eq_true rfl) (Nat.le_of_ble_eq_true rfl) (fun _ => Or.inl (pr_b (ka_28 hM13) (by decide) rfl))) (f_HSheet_isDark_ok (dep := dep + 0) hM13 h) rfl ?_
              intro x19 h
              replace h := hQ19 _ h
              have J20 : ∀ (z21 : Int32) (L' : List (Nat × Value)), z21 = ((if x19 = 0 then x11 else (x11 + 1)) : Int32) → im_lk L' 0 = some (.ref 59) → im_lk L' 1 = some (.int x3) → im_lk L' 2 = some (.int z21) → im_lk L' 3 = some (.int ((x3 + 1) * 513)) → im_lk L' 4 = some (.int x12) → ia (tb_G L xs) (dep + 1) J_HFinder_addUp (rwV w Q) (54, L', [], M13) := by
                intro z21 L' e22 l23 l24 l25 l26 l27
                subst e22
                refine iq_aload_n hS 55 J_HFinder_addUp_d54 l23 rfl ?_
                refine iq_getR hS 58 J_HFinder_addUp_d55 lf_3_14 (Or.inr ⟨_, rfl⟩) (ka_59 hM13) (ra_59_2 hM13) rfl ?_
                refine iq_iload_n hS 59 J_HFinder_addUp_d58 l26 rfl ?_
                refine iq_iload hS 61 J_HFinder_addUp_d59 l27 rfl ?_
                refine iq_iadd hS 62 J_HFinder_addUp_d61 rfl ?_
                refine iq_iconst hS 63 J_HFinder_addUp_d62 (v := 1) (by decide +kernel) rfl ?_
                refine iq_iadd hS 64 J_HFinder_addUp_d63 rfl ?_
                refine iq_aload_n hS 65 J_HFinder_addUp_d64 l23 rfl ?_
                refine iq_getR hS 68 J_HFinder_addUp_d65 lf_3_14 (Or.inr ⟨_, rfl⟩) (ka_59 hM13) (ra_59_2 hM13) rfl ?_
                refine iq_iload_n hS 69 J_HFinder_addUp_d68 l26 rfl ?_
                refine iq_iload hS 71 J_HFinder_addUp_d69 l27 rfl ?_
                refine iq_iadd hS 72 J_HFinder_addUp_d71 rfl ?_
                refine iq_iconst hS 73 J_HFinder_addUp_d72 (v := 1) (by decide +kernel) rfl ?_
                refine iq_iadd hS 74 J_HFinder_addUp_d73 rfl ?_
                refine iq_sipush hS 77 J_HFinder_addUp_d74 (v := 513) (by decide +kernel) rfl ?_
                refine iq_isub hS 78 J_HFinder_addUp_d77 rfl ?_
                obtain ⟨g78, h⟩ := ed_gd h
                refine iq_iaload hS 79 J_HFinder_addUp_d78 ⟨(ka_60 hM13).1, (ka_60 hM13).2, g78.1, ix_lt (kl_60 hM13) g78.2⟩ rfl ?_
                refine iq_iload_n hS 80 J_HFinder_addUp_d79 l25 rfl ?_
                refine iq_iadd hS 81 J_HFinder_addUp_d80 rfl ?_
                obtain ⟨g81, h⟩ := ed_gd h
                refine iq_iastore hS 82 J_HFinder_addUp_d81 ⟨(ka_60 hM13).1, (ka_60 hM13).2, g81.1, ix_lt (kl_60 hM13) g81.2⟩ rfl ?_
                refine iq_iincv hS 85 J_HFinder_addUp_d82 (c := 1) (by decide +kernel) l27 (by decide) rfl ?_
                refine iq_goto hS J_HFinder_addUp_d85 (t := 26) rfl ?_
                exact ih _ _ _ _ hM13 (lk_1r l23 (by decide)) (lk_1i l24 (by decide)) (lk_1i l25 (by decide)) (lk_1i l26 (by decide)) lk_1s (lq_l h)
              refine iq_if_eq hS 51 J_HFinder_addUp_d48 (t := 54) rfl (fun q48 => ?_) rfl (fun q48 => ?_)
              · exact J20 _ _ (by rw [if_pos q48]) l14 l15 l16 l17 l18
              · refine iq_iincv hS 54 J_HFinder_addUp_d51 (c := 1) (by decide +kernel) l16 (by decide) rfl ?_
                exact J20 _ _ (by rw [if_neg q48]) (lk_1r l14 (by decide)) (lk_1i l15 (by decide)) lk_1s (lk_1i l17 (by decide)) (lk_1i l18 (by decide))
        exact I7 n7 _ _ _ _ hM4 (lk_1r (lk_1r (lk_1r l5 (by decide)) (by decide)) (by decide)) (lk_1i (lk_1i (lk_1i l6 (by decide)) (by decide)) (by decide)) (lk_1i (lk_1i lk_1s (by decide)) (by decide)) (lk_1i lk_1s (by decide)) lk_1s hn7
  exact I1 n1 _ _ _ hM (lk_1r l0 (by decide)) lk_1s hn1
noncomputable def f_HFinder_darkIn (p0 : Int32) (p1 : Int32) (p2 : Int32) (M : im_M) : Option (Int32) := gd (inb ((((p1 * 513) + p0) + (p2 * 513)) + p2) 263169) <| gd (inb (((p1 * 513) + p0) + (p2 * 513)) 263169) <| gd (inb (((p1 * 513) + p0) + p2) 263169) <| gd (inb ((p1 * 513) + p0) 263169) <| some ((((im_i M 60 (Int32.toNatClampNeg ((((p1 * 513) + p0) + (p2 * 513)) + p2))) - (im_i M 60 (Int32.toNatClampNeg (((p1 * 513) + p0) + (p2 * 513))))) - (im_i M 60 (Int32.toNatClampNeg (((p1 * 513) + p0) + p2)))) + (im_i M 60 (Int32.toNatClampNeg ((p1 * 513) + p0))))
theorem J_HFinder_darkIn_d0 : decode J_HFinder_darkIn.2.1 0 = .ok (.iload_n 2, 1) := by decide +kernel
theorem J_HFinder_darkIn_d1 : decode J_HFinder_darkIn.2.1 1 = .ok (.sipush 513, 3) := by decide +kernel
theorem J_HFinder_darkIn_d4 : decode J_HFinder_darkIn.2.1 4 = .ok (.imul, 1) := by decide +kernel
theorem J_HFinder_darkIn_d5 : decode J_HFinder_darkIn.2.1 5 = .ok (.iload_n 1, 1) := by decide +kernel
theorem J_HFinder_darkIn_d6 : decode J_HFinder_darkIn.2.1 6 = .ok (.iadd, 1) := by decide +kernel
theorem J_HFinder_darkIn_d7 : decode J_HFinder_darkIn.2.1 7 = .ok (.istore 4, 2) := by decide +kernel
theorem J_HFinder_darkIn_d9 : decode J_HFinder_darkIn.2.1 9 = .ok (.iload 4, 2) := by decide +kernel
theorem J_HFinder_darkIn_d11 : decode J_HFinder_darkIn.2.1 11 = .ok (.iload_n 3, 1) := by decide +kernel
theorem J_HFinder_darkIn_d12 : decode J_HFinder_darkIn.2.1 12 = .ok (.sipush 513, 3) := by decide +kernel
theorem J_HFinder_darkIn_d15 : decode J_HFinder_darkIn.2.1 15 = .ok (.imul, 1) := by decide +kernel
theorem J_HFinder_darkIn_d16 : decode J_HFinder_darkIn.2.1 16 = .ok (.iadd, 1) := by decide +kernel
theorem J_HFinder_darkIn_d17 : decode J_HFinder_darkIn.2.1 17 = .ok (.istore 5, 2) := by decide +kernel
theorem J_HFinder_darkIn_d19 : decode J_HFinder_darkIn.2.1 19 = .ok (.aload_n 0, 1) := by decide +kernel
theorem J_HFinder_darkIn_d20 : decode J_HFinder_darkIn.2.1 20 = .ok (.getfield 14, 3) := by decide +kernel
theorem J_HFinder_darkIn_d23 : decode J_HFinder_darkIn.2.1 23 = .ok (.iload 5, 2) := by decide +kernel
theorem J_HFinder_darkIn_d25 : decode J_HFinder_darkIn.2.1 25 = .ok (.iload_n 3, 1) := by decide +kernel
theorem J_HFinder_darkIn_d26 : decode J_HFinder_darkIn.2.1 26 = .ok (.iadd, 1) := by decide +kernel
theorem J_HFinder_darkIn_d27 : decode J_HFinder_darkIn.2.1 27 = .ok (.iaload, 1) := by decide +kernel
theorem J_HFinder_darkIn_d28 : decode J_HFinder_darkIn.2.1 28 = .ok (.aload_n 0, 1) := by decide +kernel
theorem J_HFinder_darkIn_d29 : decode J_HFinder_darkIn.2.1 29 = .ok (.getfield 14, 3) := by decide +kernel
theorem J_HFinder_darkIn_d32 : decode J_HFinder_darkIn.2.1 32 = .ok (.iload 5, 2) := by decide +kernel
theorem J_HFinder_darkIn_d34 : decode J_HFinder_darkIn.2.1 34 = .ok (.iaload, 1) := by decide +kernel
theorem J_HFinder_darkIn_d35 : decode J_HFinder_darkIn.2.1 35 = .ok (.isub, 1) := by decide +kernel
theorem J_HFinder_darkIn_d36 : decode J_HFinder_darkIn.2.1 36 = .ok (.aload_n 0, 1) := by decide +kernel
theorem J_HFinder_darkIn_d37 : decode J_HFinder_darkIn.2.1 37 = .ok (.getfield 14, 3) := by decide +kernel
theorem J_HFinder_darkIn_d40 : decode J_HFinder_darkIn.2.1 40 = .ok (.iload 4, 2) := by decide +kernel
theorem J_HFinder_darkIn_d42 : decode J_HFinder_darkIn.2.1 42 = .ok (.iload_n 3, 1) := by decide +kernel
theorem J_HFinder_darkIn_d43 : decode J_HFinder_darkIn.2.1 43 = .ok (.iadd, 1) := by decide +kernel
theorem J_HFinder_darkIn_d44 : decode J_HFinder_darkIn.2.1 44 = .ok (.iaload, 1) := by decide +kernel
theorem J_HFinder_darkIn_d45 : decode J_HFinder_darkIn.2.1 45 = .ok (.isub, 1) := by decide +kernel
theorem J_HFinder_darkIn_d46 : decode J_HFinder_darkIn.2.1 46 = .ok (.aload_n 0, 1) := by decide +kernel
theorem J_HFinder_darkIn_d47 : decode J_HFinder_darkIn.2.1 47 = .ok (.getfield 14, 3) := by decide +kernel
theorem J_HFinder_darkIn_d50 : decode J_HFinder_darkIn.2.1 50 = .ok (.iload 4, 2) := by decide +kernel
theorem J_HFinder_darkIn_d52 : decode J_HFinder_darkIn.2.1 52 = .ok (.iaload, 1) := by decide +kernel
theorem J_HFinder_darkIn_d53 : decode J_HFinder_darkIn.2.1 53 = .ok (.iadd, 1) := by decide +kernel
theorem J_HFinder_darkIn_d54 : decode J_HFinder_darkIn.2.1 54 = .ok (.ireturn, 1) := by decide +kernel
theorem f_HFinder_darkIn_ok {L : Nat} {xs : Nat → Int32} {dep : Nat} {w : Bool} {p0 : Int32} {p1 : Int32} {p2 : Int32} {M : im_M} {Q : Int32 → Prop} (hM : lw_S w M) (h : ed (f_HFinder_darkIn p0 p1 p2 M) Q) : ia (tb_G L xs) dep J_HFinder_darkIn (rpI M Q) (0, lv_args 0 [.ref 59, .int p0, .int p1, .int p2], [], M) := by
  have hS : im_St (tb_G L xs) dep J_HFinder_darkIn (ia (tb_G L xs) dep J_HFinder_darkIn (rpI M Q)) := ia_St
  unfold f_HFinder_darkIn at h
  have l0 : im_lk (lv_args 0 [.ref 59, .int p0, .int p1, .int p2]) 0 = some (.ref 59) := rfl
  have l1 : im_lk (lv_args 0 [.ref 59, .int p0, .int p1, .int p2]) 1 = some (.int p0) := rfl
  have l2 : im_lk (lv_args 0 [.ref 59, .int p0, .int p1, .int p2]) 2 = some (.int p1) := rfl
  have l3 : im_lk (lv_args 0 [.ref 59, .int p0, .int p1, .int p2]) 3 = some (.int p2) := rfl
  refine iq_iload_n hS 1 J_HFinder_darkIn_d0 l2 rfl ?_
  refine iq_sipush hS 4 J_HFinder_darkIn_d1 (v := 513) (by decide +kernel) rfl ?_
  refine iq_imul hS 5 J_HFinder_darkIn_d4 rfl ?_
  refine iq_iload_n hS 6 J_HFinder_darkIn_d5 l1 rfl ?_
  refine iq_iadd hS 7 J_HFinder_darkIn_d6 rfl ?_
  refine iq_istore hS 9 J_HFinder_darkIn_d7 (by decide) rfl ?_
  refine iq_iload hS 11 J_HFinder_darkIn_d9 lk_1s rfl ?_
  refine iq_iload_n hS 12 J_HFinder_darkIn_d11 (lk_1i l3 (by decide)) rfl ?_
  refine iq_sipush hS 15 J_HFinder_darkIn_d12 (v := 513) (by decide +kernel) rfl ?_
  refine iq_imul hS 16 J_HFinder_darkIn_d15 rfl ?_
  refine iq_iadd hS 17 J_HFinder_darkIn_d16 rfl ?_
  refine iq_istore hS 19 J_HFinder_darkIn_d17 (by decide) rfl ?_
  refine iq_aload_n hS 20 J_HFinder_darkIn_d19 (lk_1r (lk_1r l0 (by decide)) (by decide)) rfl ?_
  refine iq_getR hS 23 J_HFinder_darkIn_d20 lf_3_14 (Or.inr ⟨_, rfl⟩) (ka_59 hM) (ra_59_2 hM) rfl ?_
  refine iq_iload hS 25 J_HFinder_darkIn_d23 lk_1s rfl ?_
  refine iq_iload_n hS 26 J_HFinder_darkIn_d25 (lk_1i (lk_1i l3 (by decide)) (by decide)) rfl ?_
  refine iq_iadd hS 27 J_HFinder_darkIn_d26 rfl ?_
  obtain ⟨g27, h⟩ := ed_gd h
  refine iq_iaload hS 28 J_HFinder_darkIn_d27 ⟨(ka_60 hM).1, (ka_60 hM).2, g27.1, ix_lt (kl_60 hM) g27.2⟩ rfl ?_
  refine iq_aload_n hS 29 J_HFinder_darkIn_d28 (lk_1r (lk_1r l0 (by decide)) (by decide)) rfl ?_
  refine iq_getR hS 32 J_HFinder_darkIn_d29 lf_3_14 (Or.inr ⟨_, rfl⟩) (ka_59 hM) (ra_59_2 hM) rfl ?_
  refine iq_iload hS 34 J_HFinder_darkIn_d32 lk_1s rfl ?_
  obtain ⟨g34, h⟩ := ed_gd h
  refine iq_iaload hS 35 J_HFinder_darkIn_d34 ⟨(ka_60 hM).1, (ka_60 hM).2, g34.1, ix_lt (kl_60 hM) g34.2⟩ rfl ?_
  refine iq_isub hS 36 J_HFinder_darkIn_d35 rfl ?_
  refine iq_aload_n hS 37 J_HFinder_darkIn_d36 (lk_1r (lk_1r l0 (by decide)) (by decide)) rfl ?_
  refine iq_getR hS 40 J_HFinder_darkIn_d37 lf_3_14 (Or.inr ⟨_, rfl⟩) (ka_59 hM) (ra_59_2 hM) rfl ?_
  refine iq_iload hS 42 J_HFinder_darkIn_d40 (lk_1i lk_1s (by decide)) rfl ?_
  refine iq_iload_n hS 43 J_HFinder_darkIn_d42 (lk_1i (lk_1i l3 (by decide)) (by decide)) rfl ?_
  refine iq_iadd hS 44 J_HFinder_darkIn_d43 rfl ?_
  obtain ⟨g44, h⟩ := ed_gd h
  refine iq_iaload hS 45 J_HFinder_darkIn_d44 ⟨(ka_60 hM).1, (ka_60 hM).2, g44.1, ix_lt (kl_60 hM) g44.2⟩ rfl ?_
  refine iq_isub hS 46 J_HFinder_darkIn_d45 rfl ?_
  refine iq_aload_n hS 47 J_HFinder_darkIn_d46 (lk_1r (lk_1r l0 (by decide)) (by decide)) rfl ?_
  refine iq_getR hS 50 J_HFinder_darkIn_d47 lf_3_14 (Or.inr ⟨_, rfl⟩) (ka_59 hM) (ra_59_2 hM) rfl ?_
  refine iq_iload hS 52 J_HFinder_darkIn_d50 (lk_1i lk_1s (by decide)) rfl ?_
  obtain ⟨g52, h⟩ := ed_gd h
  refine iq_iaload hS 53 J_HFinder_darkIn_d52 ⟨(ka_60 hM).1, (ka_60 hM).2, g52.1, ix_lt (kl_60 hM) g52.2⟩ rfl ?_
  refine iq_iadd hS 54 J_HFinder_darkIn_d53 rfl ?_
  exact iq_iret J_HFinder_darkIn_d54 rfl rfl ⟨_, rfl, rfl, ed_some h⟩
noncomputable def f_HFinder_ringsWrong (p0 : Int32) (p1 : Int32) (M : im_M) : Option (Int32) := bd1 (f_HFinder_darkIn (p0 + ((2 : Int32) * (im_i M 59 9))) (p1 + ((2 : Int32) * (im_i M 59 9))) ((3 : Int32) * (im_i M 59 9)) M) fun (x1 : Int32) => bd1 (f_HFinder_darkIn (p0 + (im_i M 59 9)) (p1 + (im_i M 59 9)) ((5 : Int32) * (im_i M 59 9)) M) fun (x2 : Int32) => bd1 (f_HFinder_darkIn p0 p1 ((7 : Int32) * (im_i M 59 9)) M) fun (x3 : Int32) => some ((((((33 : Int32) * (im_i M 59 9)) * (im_i M 59 9)) - x3) + ((2 : Int32) * x2)) - ((2 : Int32) * x1))
theorem J_HFinder_ringsWrong_d0 : decode J_HFinder_ringsWrong.2.1 0 = .ok (.aload_n 0, 1) := by decide +kernel
theorem J_HFinder_ringsWrong_d1 : decode J_HFinder_ringsWrong.2.1 1 = .ok (.iload_n 1, 1) := by decide +kernel
theorem J_HFinder_ringsWrong_d2 : decode J_HFinder_ringsWrong.2.1 2 = .ok (.iconst 2, 1) := by decide +kernel
theorem J_HFinder_ringsWrong_d3 : decode J_HFinder_ringsWrong.2.1 3 = .ok (.aload_n 0, 1) := by decide +kernel
theorem J_HFinder_ringsWrong_d4 : decode J_HFinder_ringsWrong.2.1 4 = .ok (.getfield 66, 3) := by decide +kernel
theorem J_HFinder_ringsWrong_d7 : decode J_HFinder_ringsWrong.2.1 7 = .ok (.imul, 1) := by decide +kernel
theorem J_HFinder_ringsWrong_d8 : decode J_HFinder_ringsWrong.2.1 8 = .ok (.iadd, 1) := by decide +kernel
theorem J_HFinder_ringsWrong_d9 : decode J_HFinder_ringsWrong.2.1 9 = .ok (.iload_n 2, 1) := by decide +kernel
theorem J_HFinder_ringsWrong_d10 : decode J_HFinder_ringsWrong.2.1 10 = .ok (.iconst 2, 1) := by decide +kernel
theorem J_HFinder_ringsWrong_d11 : decode J_HFinder_ringsWrong.2.1 11 = .ok (.aload_n 0, 1) := by decide +kernel
theorem J_HFinder_ringsWrong_d12 : decode J_HFinder_ringsWrong.2.1 12 = .ok (.getfield 66, 3) := by decide +kernel
theorem J_HFinder_ringsWrong_d15 : decode J_HFinder_ringsWrong.2.1 15 = .ok (.imul, 1) := by decide +kernel
theorem J_HFinder_ringsWrong_d16 : decode J_HFinder_ringsWrong.2.1 16 = .ok (.iadd, 1) := by decide +kernel
theorem J_HFinder_ringsWrong_d17 : decode J_HFinder_ringsWrong.2.1 17 = .ok (.iconst 3, 1) := by decide +kernel
theorem J_HFinder_ringsWrong_d18 : decode J_HFinder_ringsWrong.2.1 18 = .ok (.aload_n 0, 1) := by decide +kernel
theorem J_HFinder_ringsWrong_d19 : decode J_HFinder_ringsWrong.2.1 19 = .ok (.getfield 66, 3) := by decide +kernel
theorem J_HFinder_ringsWrong_d22 : decode J_HFinder_ringsWrong.2.1 22 = .ok (.imul, 1) := by decide +kernel
theorem J_HFinder_ringsWrong_d23 : decode J_HFinder_ringsWrong.2.1 23 = .ok (.invokevirtual 83, 3) := by decide +kernel
theorem J_HFinder_ringsWrong_d26 : decode J_HFinder_ringsWrong.2.1 26 = .ok (.istore_n 3, 1) := by decide +kernel
theorem J_HFinder_ringsWrong_d27 : decode J_HFinder_ringsWrong.2.1 27 = .ok (.aload_n 0, 1) := by decide +kernel
theorem J_HFinder_ringsWrong_d28 : decode J_HFinder_ringsWrong.2.1 28 = .ok (.iload_n 1, 1) := by decide +kernel
theorem J_HFinder_ringsWrong_d29 : decode J_HFinder_ringsWrong.2.1 29 = .ok (.aload_n 0, 1) := by decide +kernel
theorem J_HFinder_ringsWrong_d30 : decode J_HFinder_ringsWrong.2.1 30 = .ok (.getfield 66, 3) := by decide +kernel
theorem J_HFinder_ringsWrong_d33 : decode J_HFinder_ringsWrong.2.1 33 = .ok (.iadd, 1) := by decide +kernel
theorem J_HFinder_ringsWrong_d34 : decode J_HFinder_ringsWrong.2.1 34 = .ok (.iload_n 2, 1) := by decide +kernel
theorem J_HFinder_ringsWrong_d35 : decode J_HFinder_ringsWrong.2.1 35 = .ok (.aload_n 0, 1) := by decide +kernel
theorem J_HFinder_ringsWrong_d36 : decode J_HFinder_ringsWrong.2.1 36 = .ok (.getfield 66, 3) := by decide +kernel
theorem J_HFinder_ringsWrong_d39 : decode J_HFinder_ringsWrong.2.1 39 = .ok (.iadd, 1) := by decide +kernel
theorem J_HFinder_ringsWrong_d40 : decode J_HFinder_ringsWrong.2.1 40 = .ok (.iconst 5, 1) := by decide +kernel
theorem J_HFinder_ringsWrong_d41 : decode J_HFinder_ringsWrong.2.1 41 = .ok (.aload_n 0, 1) := by decide +kernel
theorem J_HFinder_ringsWrong_d42 : decode J_HFinder_ringsWrong.2.1 42 = .ok (.getfield 66, 3) := by decide +kernel
theorem J_HFinder_ringsWrong_d45 : decode J_HFinder_ringsWrong.2.1 45 = .ok (.imul, 1) := by decide +kernel
theorem J_HFinder_ringsWrong_d46 : decode J_HFinder_ringsWrong.2.1 46 = .ok (.invokevirtual 83, 3) := by decide +kernel
theorem J_HFinder_ringsWrong_d49 : decode J_HFinder_ringsWrong.2.1 49 = .ok (.istore 4, 2) := by decide +kernel
theorem J_HFinder_ringsWrong_d51 : decode J_HFinder_ringsWrong.2.1 51 = .ok (.aload_n 0, 1) := by decide +kernel
theorem J_HFinder_ringsWrong_d52 : decode J_HFinder_ringsWrong.2.1 52 = .ok (.iload_n 1, 1) := by decide +kernel
theorem J_HFinder_ringsWrong_d53 : decode J_HFinder_ringsWrong.2.1 53 = .ok (.iload_n 2, 1) := by decide +kernel
theorem J_HFinder_ringsWrong_d54 : decode J_HFinder_ringsWrong.2.1 54 = .ok (.bipush 7, 2) := by decide +kernel
theorem J_HFinder_ringsWrong_d56 : decode J_HFinder_ringsWrong.2.1 56 = .ok (.aload_n 0, 1) := by decide +kernel
theorem J_HFinder_ringsWrong_d57 : decode J_HFinder_ringsWrong.2.1 57 = .ok (.getfield 66, 3) := by decide +kernel
theorem J_HFinder_ringsWrong_d60 : decode J_HFinder_ringsWrong.2.1 60 = .ok (.imul, 1) := by decide +kernel
theorem J_HFinder_ringsWrong_d61 : decode J_HFinder_ringsWrong.2.1 61 = .ok (.invokevirtual 83, 3) := by decide +kernel
theorem J_HFinder_ringsWrong_d64 : decode J_HFinder_ringsWrong.2.1 64 = .ok (.istore 5, 2) := by decide +kernel
theorem J_HFinder_ringsWrong_d66 : decode J_HFinder_ringsWrong.2.1 66 = .ok (.bipush 33, 2) := by decide +kernel
theorem J_HFinder_ringsWrong_d68 : decode J_HFinder_ringsWrong.2.1 68 = .ok (.aload_n 0, 1) := by decide +kernel
theorem J_HFinder_ringsWrong_d69 : decode J_HFinder_ringsWrong.2.1 69 = .ok (.getfield 66, 3) := by decide +kernel
theorem J_HFinder_ringsWrong_d72 : decode J_HFinder_ringsWrong.2.1 72 = .ok (.imul, 1) := by decide +kernel
theorem J_HFinder_ringsWrong_d73 : decode J_HFinder_ringsWrong.2.1 73 = .ok (.aload_n 0, 1) := by decide +kernel
theorem J_HFinder_ringsWrong_d74 : decode J_HFinder_ringsWrong.2.1 74 = .ok (.getfield 66, 3) := by decide +kernel
theorem J_HFinder_ringsWrong_d77 : decode J_HFinder_ringsWrong.2.1 77 = .ok (.imul, 1) := by decide +kernel
theorem J_HFinder_ringsWrong_d78 : decode J_HFinder_ringsWrong.2.1 78 = .ok (.iload 5, 2) := by decide +kernel
theorem J_HFinder_ringsWrong_d80 : decode J_HFinder_ringsWrong.2.1 80 = .ok (.isub, 1) := by decide +kernel
theorem J_HFinder_ringsWrong_d81 : decode J_HFinder_ringsWrong.2.1 81 = .ok (.iconst 2, 1) := by decide +kernel
theorem J_HFinder_ringsWrong_d82 : decode J_HFinder_ringsWrong.2.1 82 = .ok (.iload 4, 2) := by decide +kernel
theorem J_HFinder_ringsWrong_d84 : decode J_HFinder_ringsWrong.2.1 84 = .ok (.imul, 1) := by decide +kernel
theorem J_HFinder_ringsWrong_d85 : decode J_HFinder_ringsWrong.2.1 85 = .ok (.iadd, 1) := by decide +kernel
theorem J_HFinder_ringsWrong_d86 : decode J_HFinder_ringsWrong.2.1 86 = .ok (.iconst 2, 1) := by decide +kernel
theorem J_HFinder_ringsWrong_d87 : decode J_HFinder_ringsWrong.2.1 87 = .ok (.iload_n 3, 1) := by decide +kernel
theorem J_HFinder_ringsWrong_d88 : decode J_HFinder_ringsWrong.2.1 88 = .ok (.imul, 1) := by decide +kernel
theorem J_HFinder_ringsWrong_d89 : decode J_HFinder_ringsWrong.2.1 89 = .ok (.isub, 1) := by decide +kernel
theorem J_HFinder_ringsWrong_d90 : decode J_HFinder_ringsWrong.2.1 90 = .ok (.ireturn, 1) := by decide +kernel
theorem f_HFinder_ringsWrong_ok {L : Nat} {xs : Nat → Int32} {dep : Nat} {w : Bool} {p0 : Int32} {p1 : Int32} {M : im_M} {Q : Int32 → Prop} (hM : lw_S w M) (h : ed (f_HFinder_ringsWrong p0 p1 M) Q) : ia (tb_G L xs) (dep + 1) J_HFinder_ringsWrong (rpI M Q) (0, lv_args 0 [.ref 59, .int p0, .int p1], [], M) := by
  have hS : im_St (tb_G L xs) (dep + 1) J_HFinder_ringsWrong (ia (tb_G L xs) (dep + 1) J_HFinder_ringsWrong (rpI M Q)) := ia_St
  unfold f_HFinder_ringsWrong at h
  have l0 : im_lk (lv_args 0 [.ref 59, .int p0, .int p1]) 0 = some (.ref 59) := rfl
  have l1 : im_lk (lv_args 0 [.ref 59, .int p0, .int p1]) 1 = some (.int p0) := rfl
  have l2 : im_lk (lv_args 0 [.ref 59, .int p0, .int p1]) 2 = some (.int p1) := rfl
  refine iq_aload_n hS 1 J_HFinder_ringsWrong_d0 l0 rfl ?_
  refine iq_iload_n hS 2 J_HFinder_ringsWrong_d1 l1 rfl ?_
  refine iq_iconst hS 3 J_HFinder_ringsWrong_d2 (v := 2) (by decide +kernel) rfl ?_
  refine iq_aload_n hS 4 J_HFinder_ringsWrong_d3 l0 rfl ?_
  refine iq_getI hS 7 J_HFinder_ringsWrong_d4 lf_3_66 (Or.inl rfl) (ka_59 hM) rfl ?_
  refine iq_imul hS 8 J_HFinder_ringsWrong_d7 rfl ?_
  refine iq_iadd hS 9 J_HFinder_ringsWrong_d8 rfl ?_
  refine iq_iload_n hS 10 J_HFinder_ringsWrong_d9 l2 rfl ?_
  refine iq_iconst hS 11 J_HFinder_ringsWrong_d10 (v := 2) (by decide +kernel) rfl ?_
  refine iq_aload_n hS 12 J_HFinder_ringsWrong_d11 l0 rfl ?_
  refine iq_getI hS 15 J_HFinder_ringsWrong_d12 lf_3_66 (Or.inl rfl) (ka_59 hM) rfl ?_
  refine iq_imul hS 16 J_HFinder_ringsWrong_d15 rfl ?_
  refine iq_iadd hS 17 J_HFinder_ringsWrong_d16 rfl ?_
  refine iq_iconst hS 18 J_HFinder_ringsWrong_d17 (v := 3) (by decide +kernel) rfl ?_
  refine iq_aload_n hS 19 J_HFinder_ringsWrong_d18 l0 rfl ?_
  refine iq_getI hS 22 J_HFinder_ringsWrong_d19 lf_3_66 (Or.inl rfl) (ka_59 hM) rfl ?_
  refine iq_imul hS 23 J_HFinder_ringsWrong_d22 rfl ?_
  obtain ⟨Q1, hQ1, h⟩ := bd1_ed h
  refine iq_cpI hS 26 J_HFinder_ringsWrong_d23 rfl (pr_inst (vs := [_, _, _]) lc_3_83 lT_205 rfl rfl (by decide) (by decide) rfl (Nat.le_of_ble_eq_true rfl) (Nat.le_of_ble_eq_true rfl) (fun _ => Or.inl (pr_b (ka_59 hM) (by decide) rfl))) (f_HFinder_darkIn_ok (dep := dep + 0) hM h) rfl ?_
  intro x1 h
  replace h := hQ1 _ h
  refine iq_istore_n hS 27 J_HFinder_ringsWrong_d26 (by decide) rfl ?_
  refine iq_aload_n hS 28 J_HFinder_ringsWrong_d27 (lk_1r l0 (by decide)) rfl ?_
  refine iq_iload_n hS 29 J_HFinder_ringsWrong_d28 (lk_1i l1 (by decide)) rfl ?_
  refine iq_aload_n hS 30 J_HFinder_ringsWrong_d29 (lk_1r l0 (by decide)) rfl ?_
  refine iq_getI hS 33 J_HFinder_ringsWrong_d30 lf_3_66 (Or.inl rfl) (ka_59 hM) rfl ?_
  refine iq_iadd hS 34 J_HFinder_ringsWrong_d33 rfl ?_
  refine iq_iload_n hS 35 J_HFinder_ringsWrong_d34 (lk_1i l2 (by decide)) rfl ?_
  refine iq_aload_n hS 36 J_HFinder_ringsWrong_d35 (lk_1r l0 (by decide)) rfl ?_
  refine iq_getI hS 39 J_HFinder_ringsWrong_d36 lf_3_66 (Or.inl rfl) (ka_59 hM) rfl ?_
  refine iq_iadd hS 40 J_HFinder_ringsWrong_d39 rfl ?_
  refine iq_iconst hS 41 J_HFinder_ringsWrong_d40 (v := 5) (by decide +kernel) rfl ?_
  refine iq_aload_n hS 42 J_HFinder_ringsWrong_d41 (lk_1r l0 (by decide)) rfl ?_
  refine iq_getI hS 45 J_HFinder_ringsWrong_d42 lf_3_66 (Or.inl rfl) (ka_59 hM) rfl ?_
  refine iq_imul hS 46 J_HFinder_ringsWrong_d45 rfl ?_
  obtain ⟨Q2, hQ2, h⟩ := bd1_ed h
  refine iq_cpI hS 49 J_HFinder_ringsWrong_d46 rfl (pr_inst (vs := [_, _, _]) lc_3_83 lT_205 rfl rfl (by decide) (by decide) rfl (Nat.le_of_ble_eq_true rfl) (Nat.le_of_ble_eq_true rfl) (fun _ => Or.inl (pr_b (ka_59 hM) (by decide) rfl))) (f_HFinder_darkIn_ok (dep := dep + 0) hM h) rfl ?_
  intro x2 h
  replace h := hQ2 _ h
  refine iq_istore hS 51 J_HFinder_ringsWrong_d49 (by decide) rfl ?_
  refine iq_aload_n hS 52 J_HFinder_ringsWrong_d51 (lk_1r (lk_1r l0 (by decide)) (by decide)) rfl ?_
  refine iq_iload_n hS 53 J_HFinder_ringsWrong_d52 (lk_1i (lk_1i l1 (by decide)) (by decide)) rfl ?_
  refine iq_iload_n hS 54 J_HFinder_ringsWrong_d53 (lk_1i (lk_1i l2 (by decide)) (by decide)) rfl ?_
  refine iq_bipush hS 56 J_HFinder_ringsWrong_d54 (v := 7) (by decide +kernel) rfl ?_
  refine iq_aload_n hS 57 J_HFinder_ringsWrong_d56 (lk_1r (lk_1r l0 (by decide)) (by decide)) rfl ?_
  refine iq_getI hS 60 J_HFinder_ringsWrong_d57 lf_3_66 (Or.inl rfl) (ka_59 hM) rfl ?_
  refine iq_imul hS 61 J_HFinder_ringsWrong_d60 rfl ?_
  obtain ⟨Q3, hQ3, h⟩ := bd1_ed h
  refine iq_cpI hS 64 J_HFinder_ringsWrong_d61 rfl (pr_inst (vs := [_, _, _]) lc_3_83 lT_205 rfl rfl (by decide) (by decide) rfl (Nat.le_of_ble_eq_true rfl) (Nat.le_of_ble_eq_true rfl) (fun _ => Or.inl (pr_b (ka_59 hM) (by decide) rfl))) (f_HFinder_darkIn_ok (dep := dep + 0) hM h) rfl ?_
  intro x3 h
  replace h := hQ3 _ h
  refine iq_istore hS 66 J_HFinder_ringsWrong_d64 (by decide) rfl ?_
  refine iq_bipush hS 68 J_HFinder_ringsWrong_d66 (v := 33) (by decide +kernel) rfl ?_
  refine iq_aload_n hS 69 J_HFinder_ringsWrong_d68 (lk_1r (lk_1r (lk_1r l0 (by decide)) (by decide)) (by decide)) rfl ?_
  refine iq_getI hS 72 J_HFinder_ringsWrong_d69 lf_3_66 (Or.inl rfl) (ka_59 hM) rfl ?_
  refine iq_imul hS 73 J_HFinder_ringsWrong_d72 rfl ?_
  refine iq_aload_n hS 74 J_HFinder_ringsWrong_d73 (lk_1r (lk_1r (lk_1r l0 (by decide)) (by decide)) (by decide)) rfl ?_
  refine iq_getI hS 77 J_HFinder_ringsWrong_d74 lf_3_66 (Or.inl rfl) (ka_59 hM) rfl ?_
  refine iq_imul hS 78 J_HFinder_ringsWrong_d77 rfl ?_
  refine iq_iload hS 80 J_HFinder_ringsWrong_d78 lk_1s rfl ?_
  refine iq_isub hS 81 J_HFinder_ringsWrong_d80 rfl ?_
  refine iq_iconst hS 82 J_HFinder_ringsWrong_d81 (v := 2) (by decide +kernel) rfl ?_
  refine iq_iload hS 84 J_HFinder_ringsWrong_d82 (lk_1i lk_1s (by decide)) rfl ?_
  refine iq_imul hS 85 J_HFinder_ringsWrong_d84 rfl ?_
  refine iq_iadd hS 86 J_HFinder_ringsWrong_d85 rfl ?_
  refine iq_iconst hS 87 J_HFinder_ringsWrong_d86 (v := 2) (by decide +kernel) rfl ?_
  refine iq_iload_n hS 88 J_HFinder_ringsWrong_d87 (lk_1i (lk_1i lk_1s (by decide)) (by decide)) rfl ?_
  refine iq_imul hS 89 J_HFinder_ringsWrong_d88 rfl ?_
  refine iq_isub hS 90 J_HFinder_ringsWrong_d89 rfl ?_
  exact iq_iret J_HFinder_ringsWrong_d90 rfl rfl ⟨_, rfl, rfl, ed_some h⟩
noncomputable def f_HFinder_lookAtCorners_L23 (v5 : Int32) (x6 : Int32) (M7 : im_M) : Option ((Int32 × im_M) ⊕ (im_M)) := if (im_i M7 28 0) < (x6 + ((7 : Int32) * (im_i M7 59 9))) then some (.inr M7) else bd1 (f_HFinder_darkIn (x6 + ((2 : Int32) * (im_i M7 59 9))) (v5 + ((2 : Int32) * (im_i M7 59 9))) ((3 : Int32) * (im_i M7 59 9)) M7) fun (x8 : Int32) => bd1 (if (im_i M7 59 10) < ((((9 : Int32) * (im_i M7 59 9)) * (im_i M7 59 9)) - x8) then some ((((9 : Int32) * (im_i M7 59 9)) * (im_i M7 59 9)) - x8) else bd1 (f_HFinder_ringsWrong x6 v5 M7) fun (x10 : Int32) => some x10) fun (y11 : Int32) => bd1 (f_Math_min y11 ((im_i M7 59 10) + 1) M7) fun (x16 : Int32) => gd (inb ((v5 * 512) + x6) 262144) <| some (.inl ((x6 + 1), (im_setI M7 61 (Int32.toNatClampNeg ((v5 * 512) + x6)) (vp_nar .short ((Int32.toInt16 x16).toInt32)))))
noncomputable def f_HFinder_lookAtCorners_L2 (x2 : Int32) (M3 : im_M) : Option ((Int32 × im_M) ⊕ (im_M)) := if (im_i M3 28 1) < (x2 + ((7 : Int32) * (im_i M3 59 9))) then some (.inr M3) else bd1 (lp (uc2 (f_HFinder_lookAtCorners_L23 x2)) (0, M3)) fun (M17 : im_M) => some (.inl ((x2 + 1), M17))
noncomputable def f_HFinder_lookAtCorners (M : im_M) : Option (im_M) := bd1 (lp (uc2 (f_HFinder_lookAtCorners_L2)) (0, M)) fun (M18 : im_M) => some M18
theorem J_HFinder_lookAtCorners_d0 : decode J_HFinder_lookAtCorners.2.1 0 = .ok (.iconst 0, 1) := by decide +kernel
theorem J_HFinder_lookAtCorners_d1 : decode J_HFinder_lookAtCorners.2.1 1 = .ok (.istore_n 1, 1) := by decide +kernel
theorem J_HFinder_lookAtCorners_d2 : decode J_HFinder_lookAtCorners.2.1 2 = .ok (.iload_n 1, 1) := by decide +kernel
theorem J_HFinder_lookAtCorners_d3 : decode J_HFinder_lookAtCorners.2.1 3 = .ok (.bipush 7, 2) := by decide +kernel
theorem J_HFinder_lookAtCorners_d5 : decode J_HFinder_lookAtCorners.2.1 5 = .ok (.aload_n 0, 1) := by decide +kernel
theorem J_HFinder_lookAtCorners_d6 : decode J_HFinder_lookAtCorners.2.1 6 = .ok (.getfield 66, 3) := by decide +kernel
theorem J_HFinder_lookAtCorners_d9 : decode J_HFinder_lookAtCorners.2.1 9 = .ok (.imul, 1) := by decide +kernel
theorem J_HFinder_lookAtCorners_d10 : decode J_HFinder_lookAtCorners.2.1 10 = .ok (.iadd, 1) := by decide +kernel
theorem J_HFinder_lookAtCorners_d11 : decode J_HFinder_lookAtCorners.2.1 11 = .ok (.aload_n 0, 1) := by decide +kernel
theorem J_HFinder_lookAtCorners_d12 : decode J_HFinder_lookAtCorners.2.1 12 = .ok (.getfield 37, 3) := by decide +kernel
theorem J_HFinder_lookAtCorners_d15 : decode J_HFinder_lookAtCorners.2.1 15 = .ok (.getfield 57, 3) := by decide +kernel
theorem J_HFinder_lookAtCorners_d18 : decode J_HFinder_lookAtCorners.2.1 18 = .ok (.if_icmp .gt 114, 3) := by decide +kernel
theorem J_HFinder_lookAtCorners_d21 : decode J_HFinder_lookAtCorners.2.1 21 = .ok (.iconst 0, 1) := by decide +kernel
theorem J_HFinder_lookAtCorners_d22 : decode J_HFinder_lookAtCorners.2.1 22 = .ok (.istore_n 2, 1) := by decide +kernel
theorem J_HFinder_lookAtCorners_d23 : decode J_HFinder_lookAtCorners.2.1 23 = .ok (.iload_n 2, 1) := by decide +kernel
theorem J_HFinder_lookAtCorners_d24 : decode J_HFinder_lookAtCorners.2.1 24 = .ok (.bipush 7, 2) := by decide +kernel
theorem J_HFinder_lookAtCorners_d26 : decode J_HFinder_lookAtCorners.2.1 26 = .ok (.aload_n 0, 1) := by decide +kernel
theorem J_HFinder_lookAtCorners_d27 : decode J_HFinder_lookAtCorners.2.1 27 = .ok (.getfield 66, 3) := by decide +kernel
theorem J_HFinder_lookAtCorners_d30 : decode J_HFinder_lookAtCorners.2.1 30 = .ok (.imul, 1) := by decide +kernel
theorem J_HFinder_lookAtCorners_d31 : decode J_HFinder_lookAtCorners.2.1 31 = .ok (.iadd, 1) := by decide +kernel
theorem J_HFinder_lookAtCorners_d32 : decode J_HFinder_lookAtCorners.2.1 32 = .ok (.aload_n 0, 1) := by decide +kernel
theorem J_HFinder_lookAtCorners_d33 : decode J_HFinder_lookAtCorners.2.1 33 = .ok (.getfield 37, 3) := by decide +kernel
theorem J_HFinder_lookAtCorners_d36 : decode J_HFinder_lookAtCorners.2.1 36 = .ok (.getfield 54, 3) := by decide +kernel
theorem J_HFinder_lookAtCorners_d39 : decode J_HFinder_lookAtCorners.2.1 39 = .ok (.if_icmp .gt 87, 3) := by decide +kernel
theorem J_HFinder_lookAtCorners_d42 : decode J_HFinder_lookAtCorners.2.1 42 = .ok (.bipush 9, 2) := by decide +kernel
theorem J_HFinder_lookAtCorners_d44 : decode J_HFinder_lookAtCorners.2.1 44 = .ok (.aload_n 0, 1) := by decide +kernel
theorem J_HFinder_lookAtCorners_d45 : decode J_HFinder_lookAtCorners.2.1 45 = .ok (.getfield 66, 3) := by decide +kernel
theorem J_HFinder_lookAtCorners_d48 : decode J_HFinder_lookAtCorners.2.1 48 = .ok (.imul, 1) := by decide +kernel
theorem J_HFinder_lookAtCorners_d49 : decode J_HFinder_lookAtCorners.2.1 49 = .ok (.aload_n 0, 1) := by decide +kernel
theorem J_HFinder_lookAtCorners_d50 : decode J_HFinder_lookAtCorners.2.1 50 = .ok (.getfield 66, 3) := by decide +kernel
theorem J_HFinder_lookAtCorners_d53 : decode J_HFinder_lookAtCorners.2.1 53 = .ok (.imul, 1) := by decide +kernel
theorem J_HFinder_lookAtCorners_d54 : decode J_HFinder_lookAtCorners.2.1 54 = .ok (.aload_n 0, 1) := by decide +kernel
theorem J_HFinder_lookAtCorners_d55 : decode J_HFinder_lookAtCorners.2.1 55 = .ok (.iload_n 2, 1) := by decide +kernel
theorem J_HFinder_lookAtCorners_d56 : decode J_HFinder_lookAtCorners.2.1 56 = .ok (.iconst 2, 1) := by decide +kernel
theorem J_HFinder_lookAtCorners_d57 : decode J_HFinder_lookAtCorners.2.1 57 = .ok (.aload_n 0, 1) := by decide +kernel
theorem J_HFinder_lookAtCorners_d58 : decode J_HFinder_lookAtCorners.2.1 58 = .ok (.getfield 66, 3) := by decide +kernel
theorem J_HFinder_lookAtCorners_d61 : decode J_HFinder_lookAtCorners.2.1 61 = .ok (.imul, 1) := by decide +kernel
theorem J_HFinder_lookAtCorners_d62 : decode J_HFinder_lookAtCorners.2.1 62 = .ok (.iadd, 1) := by decide +kernel
theorem J_HFinder_lookAtCorners_d63 : decode J_HFinder_lookAtCorners.2.1 63 = .ok (.iload_n 1, 1) := by decide +kernel
theorem J_HFinder_lookAtCorners_d64 : decode J_HFinder_lookAtCorners.2.1 64 = .ok (.iconst 2, 1) := by decide +kernel
theorem J_HFinder_lookAtCorners_d65 : decode J_HFinder_lookAtCorners.2.1 65 = .ok (.aload_n 0, 1) := by decide +kernel
theorem J_HFinder_lookAtCorners_d66 : decode J_HFinder_lookAtCorners.2.1 66 = .ok (.getfield 66, 3) := by decide +kernel
theorem J_HFinder_lookAtCorners_d69 : decode J_HFinder_lookAtCorners.2.1 69 = .ok (.imul, 1) := by decide +kernel
theorem J_HFinder_lookAtCorners_d70 : decode J_HFinder_lookAtCorners.2.1 70 = .ok (.iadd, 1) := by decide +kernel
theorem J_HFinder_lookAtCorners_d71 : decode J_HFinder_lookAtCorners.2.1 71 = .ok (.iconst 3, 1) := by decide +kernel
theorem J_HFinder_lookAtCorners_d72 : decode J_HFinder_lookAtCorners.2.1 72 = .ok (.aload_n 0, 1) := by decide +kernel
theorem J_HFinder_lookAtCorners_d73 : decode J_HFinder_lookAtCorners.2.1 73 = .ok (.getfield 66, 3) := by decide +kernel
theorem J_HFinder_lookAtCorners_d76 : decode J_HFinder_lookAtCorners.2.1 76 = .ok (.imul, 1) := by decide +kernel
theorem J_HFinder_lookAtCorners_d77 : decode J_HFinder_lookAtCorners.2.1 77 = .ok (.invokevirtual 83, 3) := by decide +kernel
theorem J_HFinder_lookAtCorners_d80 : decode J_HFinder_lookAtCorners.2.1 80 = .ok (.isub, 1) := by decide +kernel
theorem J_HFinder_lookAtCorners_d81 : decode J_HFinder_lookAtCorners.2.1 81 = .ok (.istore_n 3, 1) := by decide +kernel
theorem J_HFinder_lookAtCorners_d82 : decode J_HFinder_lookAtCorners.2.1 82 = .ok (.iload_n 3, 1) := by decide +kernel
theorem J_HFinder_lookAtCorners_d83 : decode J_HFinder_lookAtCorners.2.1 83 = .ok (.aload_n 0, 1) := by decide +kernel
theorem J_HFinder_lookAtCorners_d84 : decode J_HFinder_lookAtCorners.2.1 84 = .ok (.getfield 48, 3) := by decide +kernel
theorem J_HFinder_lookAtCorners_d87 : decode J_HFinder_lookAtCorners.2.1 87 = .ok (.if_icmp .gt 10, 3) := by decide +kernel
theorem J_HFinder_lookAtCorners_d90 : decode J_HFinder_lookAtCorners.2.1 90 = .ok (.aload_n 0, 1) := by decide +kernel
theorem J_HFinder_lookAtCorners_d91 : decode J_HFinder_lookAtCorners.2.1 91 = .ok (.iload_n 2, 1) := by decide +kernel
theorem J_HFinder_lookAtCorners_d92 : decode J_HFinder_lookAtCorners.2.1 92 = .ok (.iload_n 1, 1) := by decide +kernel
theorem J_HFinder_lookAtCorners_d93 : decode J_HFinder_lookAtCorners.2.1 93 = .ok (.invokevirtual 87, 3) := by decide +kernel
theorem J_HFinder_lookAtCorners_d96 : decode J_HFinder_lookAtCorners.2.1 96 = .ok (.istore_n 3, 1) := by decide +kernel
theorem J_HFinder_lookAtCorners_d97 : decode J_HFinder_lookAtCorners.2.1 97 = .ok (.aload_n 0, 1) := by decide +kernel
theorem J_HFinder_lookAtCorners_d98 : decode J_HFinder_lookAtCorners.2.1 98 = .ok (.getfield 19, 3) := by decide +kernel
theorem J_HFinder_lookAtCorners_d101 : decode J_HFinder_lookAtCorners.2.1 101 = .ok (.iload_n 1, 1) := by decide +kernel
theorem J_HFinder_lookAtCorners_d102 : decode J_HFinder_lookAtCorners.2.1 102 = .ok (.sipush 512, 3) := by decide +kernel
theorem J_HFinder_lookAtCorners_d105 : decode J_HFinder_lookAtCorners.2.1 105 = .ok (.imul, 1) := by decide +kernel
theorem J_HFinder_lookAtCorners_d106 : decode J_HFinder_lookAtCorners.2.1 106 = .ok (.iload_n 2, 1) := by decide +kernel
theorem J_HFinder_lookAtCorners_d107 : decode J_HFinder_lookAtCorners.2.1 107 = .ok (.iadd, 1) := by decide +kernel
theorem J_HFinder_lookAtCorners_d108 : decode J_HFinder_lookAtCorners.2.1 108 = .ok (.iload_n 3, 1) := by decide +kernel
theorem J_HFinder_lookAtCorners_d109 : decode J_HFinder_lookAtCorners.2.1 109 = .ok (.aload_n 0, 1) := by decide +kernel
theorem J_HFinder_lookAtCorners_d110 : decode J_HFinder_lookAtCorners.2.1 110 = .ok (.getfield 48, 3) := by decide +kernel
theorem J_HFinder_lookAtCorners_d113 : decode J_HFinder_lookAtCorners.2.1 113 = .ok (.iconst 1, 1) := by decide +kernel
theorem J_HFinder_lookAtCorners_d114 : decode J_HFinder_lookAtCorners.2.1 114 = .ok (.iadd, 1) := by decide +kernel
theorem J_HFinder_lookAtCorners_d115 : decode J_HFinder_lookAtCorners.2.1 115 = .ok (.invokestatic 60, 3) := by decide +kernel
theorem J_HFinder_lookAtCorners_d118 : decode J_HFinder_lookAtCorners.2.1 118 = .ok (.i2s, 1) := by decide +kernel
theorem J_HFinder_lookAtCorners_d119 : decode J_HFinder_lookAtCorners.2.1 119 = .ok (.sastore, 1) := by decide +kernel
theorem J_HFinder_lookAtCorners_d120 : decode J_HFinder_lookAtCorners.2.1 120 = .ok (.iinc 2 1, 3) := by decide +kernel
theorem J_HFinder_lookAtCorners_d123 : decode J_HFinder_lookAtCorners.2.1 123 = .ok (.goto (-100), 3) := by decide +kernel
theorem J_HFinder_lookAtCorners_d126 : decode J_HFinder_lookAtCorners.2.1 126 = .ok (.iinc 1 1, 3) := by decide +kernel
theorem J_HFinder_lookAtCorners_d129 : decode J_HFinder_lookAtCorners.2.1 129 = .ok (.goto (-127), 3) := by decide +kernel
theorem J_HFinder_lookAtCorners_d132 : decode J_HFinder_lookAtCorners.2.1 132 = .ok (.return_, 1) := by decide +kernel
theorem f_HFinder_lookAtCorners_ok {L : Nat} {xs : Nat → Int32} {dep : Nat} {w : Bool} {M : im_M} {Q : im_M → Prop} (hM : lw_S w M) (h : ed (f_HFinder_lookAtCorners M) Q) : ia (tb_G L xs) (dep + 2) J_HFinder_lookAtCorners (rwV w Q) (0, lv_args 0 [.ref 59], [], M) := by
  have hS : im_St (tb_G L xs) (dep + 2) J_HFinder_lookAtCorners (ia (tb_G L xs) (dep + 2) J_HFinder_lookAtCorners (rwV w Q)) := ia_St
  unfold f_HFinder_lookAtCorners at h
  have l0 : im_lk (lv_args 0 [.ref 59]) 0 = some (.ref 59) := rfl
  refine iq_iconst hS 1 J_HFinder_lookAtCorners_d0 (v := 0) (by decide +kernel) rfl ?_
  refine iq_istore_n hS 2 J_HFinder_lookAtCorners_d1 (by decide) rfl ?_
  obtain ⟨Q1, hQ1, h⟩ := bd1_ed h
  have K1 : ∀ (M2 : im_M) (L' : List (Nat × Value)), lw_S w M2 → Q1 M2 → ia (tb_G L xs) (dep + 2) J_HFinder_lookAtCorners (rwV w Q) (132, L', [], M2) := by
    intro M2 L' hM2  h
    replace h := hQ1 _ h
    exact iq_ret J_HFinder_lookAtCorners_d132 rfl ⟨rfl, hM2, ed_some h⟩
  obtain ⟨r1, hr1, hq1⟩ := h
  obtain ⟨n1, hn1⟩ := lp_n hr1
  have I1 : ∀ (n : Nat) (x3 : Int32) (M4 : im_M) (L' : List (Nat × Value)), lw_S w M4 → im_lk L' 0 = some (.ref 59) → im_lk L' 1 = some (.int x3) → lpn (uc2 (f_HFinder_lookAtCorners_L2)) n (x3, M4) = some r1 → ia (tb_G L xs) (dep + 2) J_HFinder_lookAtCorners (rwV w Q) (2, L', [], M4) := by
    intro n
    induction n with
    | zero => intro x3 M4 L' hM4 l5 l6 hn; exact (lpn_0 hn).elim
    | succ n ih =>
      intro x3 M4 L' hM4 l5 l6 hn
      have h := lpn_ed2 hn
      unfold f_HFinder_lookAtCorners_L2 at h
      refine iq_iload_n hS 3 J_HFinder_lookAtCorners_d2 l6 rfl ?_
      refine iq_bipush hS 5 J_HFinder_lookAtCorners_d3 (v := 7) (by decide +kernel) rfl ?_
      refine iq_aload_n hS 6 J_HFinder_lookAtCorners_d5 l5 rfl ?_
      refine iq_getI hS 9 J_HFinder_lookAtCorners_d6 lf_3_66 (Or.inl rfl) (ka_59 hM4) rfl ?_
      refine iq_imul hS 10 J_HFinder_lookAtCorners_d9 rfl ?_
      refine iq_iadd hS 11 J_HFinder_lookAtCorners_d10 rfl ?_
      refine iq_aload_n hS 12 J_HFinder_lookAtCorners_d11 l5 rfl ?_
      refine iq_getR hS 15 J_HFinder_lookAtCorners_d12 lf_3_37 (Or.inl ⟨_, rfl⟩) (ka_59 hM4) (ra_59_1 hM4) rfl ?_
      refine iq_getI hS 18 J_HFinder_lookAtCorners_d15 lf_3_57 (Or.inl rfl) (ka_28 hM4) rfl ?_
      refine iq_icmp_gt hS 21 J_HFinder_lookAtCorners_d18 (t := 132) rfl (fun q18 => ?_) rfl (fun q18 => ?_)
      · replace h := ed_pos q18 h
        exact K1 _ _ hM4  (lq_r h hq1)
      · replace h := ed_neg q18 h
        refine iq_iconst hS 22 J_HFinder_lookAtCorners_d21 (v := 0) (by decide +kernel) rfl ?_
        refine iq_istore_n hS 23 J_HFinder_lookAtCorners_d22 (by decide) rfl ?_
        obtain ⟨Q7, hQ7, h⟩ := bd1_ed h
        have K7 : ∀ (M8 : im_M) (L' : List (Nat × Value)), lw_S w M8 → im_lk L' 0 = some (.ref 59) → im_lk L' 1 = some (.int x3) → Q7 M8 → ia (tb_G L xs) (dep + 2) J_HFinder_lookAtCorners (rwV w Q) (126, L', [], M8) := by
          intro M8 L' hM8 l9 l10 h
          replace h := hQ7 _ h
          refine iq_iincv hS 129 J_HFinder_lookAtCorners_d126 (c := 1) (by decide +kernel) l10 (by decide) rfl ?_
          refine iq_goto hS J_HFinder_lookAtCorners_d129 (t := 2) rfl ?_
          exact ih _ _ _ hM8 (lk_1r l9 (by decide)) lk_1s (lq_l h)
        obtain ⟨r7, hr7, hq7⟩ := h
        obtain ⟨n7, hn7⟩ := lp_n hr7
        have I7 : ∀ (n : Nat) (x11 : Int32) (M12 : im_M) (L' : List (Nat × Value)), lw_S w M12 → im_lk L' 0 = some (.ref 59) → im_lk L' 1 = some (.int x3) → im_lk L' 2 = some (.int x11) → lpn (uc2 (f_HFinder_lookAtCorners_L23 x3)) n (x11, M12) = some r7 → ia (tb_G L xs) (dep + 2) J_HFinder_lookAtCorners (rwV w Q) (23, L', [], M12) := by
          intro n
          induction n with
          | zero => intro x11 M12 L' hM12 l13 l14 l15 hn; exact (lpn_0 hn).elim
          | succ n ih =>
            intro x11 M12 L' hM12 l13 l14 l15 hn
            have h := lpn_ed2 hn
            unfold f_HFinder_lookAtCorners_L23 at h
            refine iq_iload_n hS 24 J_HFinder_lookAtCorners_d23 l15 rfl ?_
            refine iq_bipush hS 26 J_HFinder_lookAtCorners_d24 (v := 7) (by decide +kernel) rfl ?_
            refine iq_aload_n hS 27 J_HFinder_lookAtCorners_d26 l13 rfl ?_
            refine iq_getI hS 30 J_HFinder_lookAtCorners_d27 lf_3_66 (Or.inl rfl) (ka_59 hM12) rfl ?_
            refine iq_imul hS 31 J_HFinder_lookAtCorners_d30 rfl ?_
            refine iq_iadd hS 32 J_HFinder_lookAtCorners_d31 rfl ?_
            refine iq_aload_n hS 33 J_HFinder_lookAtCorners_d32 l13 rfl ?_
            refine iq_getR hS 36 J_HFinder_lookAtCorners_d33 lf_3_37 (Or.inl ⟨_, rfl⟩) (ka_59 hM12) (ra_59_1 hM12) rfl ?_
            refine iq_getI hS 39 J_HFinder_lookAtCorners_d36 lf_3_54 (Or.inl rfl) (ka_28 hM12) rfl ?_
            refine iq_icmp_gt hS 42 J_HFinder_lookAtCorners_d39 (t := 126) rfl (fun q39 => ?_) rfl (fun q39 => ?_)
            · replace h := ed_pos q39 h
              exact K7 _ _ hM12 l13 l14 (lq_r h hq7)
            · replace h := ed_neg q39 h
              refine iq_bipush hS 44 J_HFinder_lookAtCorners_d42 (v := 9) (by decide +kernel) rfl ?_
              refine iq_aload_n hS 45 J_HFinder_lookAtCorners_d44 l13 rfl ?_
              refine iq_getI hS 48 J_HFinder_lookAtCorners_d45 lf_3_66 (Or.inl rfl) (ka_59 hM12) rfl ?_
              refine iq_imul hS 49 J_HFinder_lookAtCorners_d48 rfl ?_
              refine iq_aload_n hS 50 J_HFinder_lookAtCorners_d49 l13 rfl ?_
              refine iq_getI hS 53 J_HFinder_lookAtCorners_d50 lf_3_66 (Or.inl rfl) (ka_59 hM12) rfl ?_
              refine iq_imul hS 54 J_HFinder_lookAtCorners_d53 rfl ?_
              refine iq_aload_n hS 55 J_HFinder_lookAtCorners_d54 l13 rfl ?_
              refine iq_iload_n hS 56 J_HFinder_lookAtCorners_d55 l15 rfl ?_
              refine iq_iconst hS 57 J_HFinder_lookAtCorners_d56 (v := 2) (by decide +kernel) rfl ?_
              refine iq_aload_n hS 58 J_HFinder_lookAtCorners_d57 l13 rfl ?_
              refine iq_getI hS 61 J_HFinder_lookAtCorners_d58 lf_3_66 (Or.inl rfl) (ka_59 hM12) rfl ?_
              refine iq_imul hS 62 J_HFinder_lookAtCorners_d61 rfl ?_
              refine iq_iadd hS 63 J_HFinder_lookAtCorners_d62 rfl ?_
              refine iq_iload_n hS 64 J_HFinder_lookAtCorners_d63 l14 rfl ?_
              refine iq_iconst hS 65 J_HFinder_lookAtCorners_d64 (v := 2) (by decide +kernel) rfl ?_
              refine iq_aload_n hS 66 J_HFinder_lookAtCorners_d65 l13 rfl ?_
              refine iq_getI hS 69 J_HFinder_lookAtCorners_d66 lf_3_66 (Or.inl rfl) (ka_59 hM12) rfl ?_
              refine iq_imul hS 70 J_HFinder_lookAtCorners_d69 rfl ?_
              refine iq_iadd hS 71 J_HFinder_lookAtCorners_d70 rfl ?_
              refine iq_iconst hS 72 J_HFinder_lookAtCorners_d71 (v := 3) (by decide +kernel) rfl ?_
              refine iq_aload_n hS 73 J_HFinder_lookAtCorners_d72 l13 rfl ?_
              refine iq_getI hS 76 J_HFinder_lookAtCorners_d73 lf_3_66 (Or.inl rfl) (ka_59 hM12) rfl ?_
              refine iq_imul hS 77 J_HFinder_lookAtCorners_d76 rfl ?_
              obtain ⟨Q16, hQ16, h⟩ := bd1_ed h
              refine iq_cpI hS 80 J_HFinder_lookAtCorners_d77 rfl (pr_inst (vs := [_, _, _]) lc_3_83 lT_205 rfl rfl (by decide) (by decide) rfl (Nat.le_of_ble_eq_true rfl) (Nat.le_of_ble_eq_true rfl) (fun _ => Or.inl (pr_b (ka_59 hM12) (by decide) rfl))) (f_HFinder_darkIn_ok (dep := dep + 1) hM12 h) rfl ?_
              intro x16 h
              replace h := hQ16 _ h
              refine iq_isub hS 81 J_HFinder_lookAtCorners_d80 rfl ?_
              refine iq_istore_n hS 82 J_HFinder_lookAtCorners_d81 (by decide) rfl ?_
              refine iq_iload_n hS 83 J_HFinder_lookAtCorners_d82 lk_1s rfl ?_
              refine iq_aload_n hS 84 J_HFinder_lookAtCorners_d83 (lk_1r l13 (by decide)) rfl ?_
              refine iq_getI hS 87 J_HFinder_lookAtCorners_d84 lf_3_48 (Or.inl rfl) (ka_59 hM12) rfl ?_
              obtain ⟨Q17, hQ17, h⟩ := bd1_ed h
              have J17 : ∀ (y19 : Int32) (L' : List (Nat × Value)), im_lk L' 0 = some (.ref 59) → im_lk L' 1 = some (.int x3) → im_lk L' 2 = some (.int x11) → im_lk L' 3 = some (.int y19) → Q17 y19 → ia (tb_G L xs) (dep + 2) J_HFinder_lookAtCorners (rwV w Q) (97, L', [], M12) := by
                intro y19 L' l20 l21 l22 l23 h
                replace h := hQ17 _ h
                refine iq_aload_n hS 98 J_HFinder_lookAtCorners_d97 l20 rfl ?_
                refine iq_getR hS 101 J_HFinder_lookAtCorners_d98 lf_3_19 (Or.inr ⟨_, rfl⟩) (ka_59 hM12) (ra_59_3 hM12) rfl ?_
                refine iq_iload_n hS 102 J_HFinder_lookAtCorners_d101 l21 rfl ?_
                refine iq_sipush hS 105 J_HFinder_lookAtCorners_d102 (v := 512) (by decide +kernel) rfl ?_
                refine iq_imul hS 106 J_HFinder_lookAtCorners_d105 rfl ?_
                refine iq_iload_n hS 107 J_HFinder_lookAtCorners_d106 l22 rfl ?_
                refine iq_iadd hS 108 J_HFinder_lookAtCorners_d107 rfl ?_
                refine iq_iload_n hS 109 J_HFinder_lookAtCorners_d108 l23 rfl ?_
                refine iq_aload_n hS 110 J_HFinder_lookAtCorners_d109 l20 rfl ?_
                refine iq_getI hS 113 J_HFinder_lookAtCorners_d110 lf_3_48 (Or.inl rfl) (ka_59 hM12) rfl ?_
                refine iq_iconst hS 114 J_HFinder_lookAtCorners_d113 (v := 1) (by decide +kernel) rfl ?_
                refine iq_iadd hS 115 J_HFinder_lookAtCorners_d114 rfl ?_
                obtain ⟨Q24, hQ24, h⟩ := bd1_ed h
                refine iq_cpI hS 118 J_HFinder_lookAtCorners_d115 rfl (pr_stat (vs := [_, _]) lc_3_60 lT_28 rfl rfl (by decide) rfl (Nat.le_of_ble_eq_true rfl) (Nat.le_of_ble_eq_true rfl)) (f_Math_min_ok (dep := dep + 1) hM12 h) rfl ?_
                intro x24 h
                replace h := hQ24 _ h
                refine iq_i2s hS 119 J_HFinder_lookAtCorners_d118 rfl ?_
                obtain ⟨g119, h⟩ := ed_gd h
                refine iq_sastore hS 120 J_HFinder_lookAtCorners_d119 ⟨(ka_61 hM12).1, (ka_61 hM12).2, g119.1, ix_lt (kl_61 hM12) g119.2⟩ rfl ?_
                refine iq_iincv hS 123 J_HFinder_lookAtCorners_d120 (c := 1) (by decide +kernel) l22 (by decide) rfl ?_
                refine iq_goto hS J_HFinder_lookAtCorners_d123 (t := 23) rfl ?_
                exact ih _ _ _ hM12 (lk_1r l20 (by decide)) (lk_1i l21 (by decide)) lk_1s (lq_l h)
              refine iq_icmp_gt hS 90 J_HFinder_lookAtCorners_d87 (t := 97) rfl (fun q87 => ?_) rfl (fun q87 => ?_)
              · replace h := ed_pos q87 h
                exact J17 _ _ (lk_1r l13 (by decide)) (lk_1i l14 (by decide)) (lk_1i l15 (by decide)) lk_1s (ed_some h)
              · replace h := ed_neg q87 h
                refine iq_aload_n hS 91 J_HFinder_lookAtCorners_d90 (lk_1r l13 (by decide)) rfl ?_
                refine iq_iload_n hS 92 J_HFinder_lookAtCorners_d91 (lk_1i l15 (by decide)) rfl ?_
                refine iq_iload_n hS 93 J_HFinder_lookAtCorners_d92 (lk_1i l14 (by decide)) rfl ?_
                obtain ⟨Q18, hQ18, h⟩ := bd1_ed h
                refine iq_cpI hS 96 J_HFinder_lookAtCorners_d93 rfl (pr_inst (vs := [_, _]) lc_3_87 lT_206 rfl rfl (by decide) (by decide) rfl (Nat.le_of_ble_eq_true rfl) (Nat.le_of_ble_eq_true rfl) (fun _ => Or.inl (pr_b (ka_59 hM12) (by decide) rfl))) (f_HFinder_ringsWrong_ok (dep := dep + 0) hM12 h) rfl ?_
                intro x18 h
                replace h := hQ18 _ h
                refine iq_istore_n hS 97 J_HFinder_lookAtCorners_d96 (by decide) rfl ?_
                exact J17 _ _ (lk_1r (lk_1r l13 (by decide)) (by decide)) (lk_1i (lk_1i l14 (by decide)) (by decide)) (lk_1i (lk_1i l15 (by decide)) (by decide)) lk_1s (ed_some h)
        exact I7 n7 _ _ _ hM4 (lk_1r l5 (by decide)) (lk_1i l6 (by decide)) lk_1s hn7
  exact I1 n1 _ _ _ hM (lk_1r l0 (by decide)) lk_1s hn1
noncomputable def f_HFinder_loneX (p0 : Int32) (p1 : Int32) (M : im_M) : Option (Int32) := if ¬ p1 = 0 then if ¬ p1 = 1 then if ¬ p1 = 2 then some (p0 - 8) else some (p0 - 9) else some 7 else some 8
theorem J_HFinder_loneX_d0 : decode J_HFinder_loneX.2.1 0 = .ok (.iload_n 1, 1) := by decide +kernel
theorem J_HFinder_loneX_d1 : decode J_HFinder_loneX.2.1 1 = .ok (.ifCond .ne 8, 3) := by decide +kernel
theorem J_HFinder_loneX_d4 : decode J_HFinder_loneX.2.1 4 = .ok (.bipush 8, 2) := by decide +kernel
theorem J_HFinder_loneX_d6 : decode J_HFinder_loneX.2.1 6 = .ok (.goto 29, 3) := by decide +kernel
theorem J_HFinder_loneX_d9 : decode J_HFinder_loneX.2.1 9 = .ok (.iload_n 1, 1) := by decide +kernel
theorem J_HFinder_loneX_d10 : decode J_HFinder_loneX.2.1 10 = .ok (.iconst 1, 1) := by decide +kernel
theorem J_HFinder_loneX_d11 : decode J_HFinder_loneX.2.1 11 = .ok (.if_icmp .ne 8, 3) := by decide +kernel
theorem J_HFinder_loneX_d14 : decode J_HFinder_loneX.2.1 14 = .ok (.bipush 7, 2) := by decide +kernel
theorem J_HFinder_loneX_d16 : decode J_HFinder_loneX.2.1 16 = .ok (.goto 19, 3) := by decide +kernel
theorem J_HFinder_loneX_d19 : decode J_HFinder_loneX.2.1 19 = .ok (.iload_n 1, 1) := by decide +kernel
theorem J_HFinder_loneX_d20 : decode J_HFinder_loneX.2.1 20 = .ok (.iconst 2, 1) := by decide +kernel
theorem J_HFinder_loneX_d21 : decode J_HFinder_loneX.2.1 21 = .ok (.if_icmp .ne 10, 3) := by decide +kernel
theorem J_HFinder_loneX_d24 : decode J_HFinder_loneX.2.1 24 = .ok (.iload_n 0, 1) := by decide +kernel
theorem J_HFinder_loneX_d25 : decode J_HFinder_loneX.2.1 25 = .ok (.bipush 9, 2) := by decide +kernel
theorem J_HFinder_loneX_d27 : decode J_HFinder_loneX.2.1 27 = .ok (.isub, 1) := by decide +kernel
theorem J_HFinder_loneX_d28 : decode J_HFinder_loneX.2.1 28 = .ok (.goto 7, 3) := by decide +kernel
theorem J_HFinder_loneX_d31 : decode J_HFinder_loneX.2.1 31 = .ok (.iload_n 0, 1) := by decide +kernel
theorem J_HFinder_loneX_d32 : decode J_HFinder_loneX.2.1 32 = .ok (.bipush 8, 2) := by decide +kernel
theorem J_HFinder_loneX_d34 : decode J_HFinder_loneX.2.1 34 = .ok (.isub, 1) := by decide +kernel
theorem J_HFinder_loneX_d35 : decode J_HFinder_loneX.2.1 35 = .ok (.ireturn, 1) := by decide +kernel
theorem f_HFinder_loneX_ok {L : Nat} {xs : Nat → Int32} {dep : Nat} {w : Bool} {p0 : Int32} {p1 : Int32} {M : im_M} {Q : Int32 → Prop} (hM : lw_S w M) (h : ed (f_HFinder_loneX p0 p1 M) Q) : ia (tb_G L xs) dep J_HFinder_loneX (rpI M Q) (0, lv_args 0 [.int p0, .int p1], [], M) := by
  have hS : im_St (tb_G L xs) dep J_HFinder_loneX (ia (tb_G L xs) dep J_HFinder_loneX (rpI M Q)) := ia_St
  unfold f_HFinder_loneX at h
  have l0 : im_lk (lv_args 0 [.int p0, .int p1]) 0 = some (.int p0) := rfl
  have l1 : im_lk (lv_args 0 [.int p0, .int p1]) 1 = some (.int p1) := rfl
  refine iq_iload_n hS 1 J_HFinder_loneX_d0 l1 rfl ?_
  refine iq_if_ne hS 4 J_HFinder_loneX_d1 (t := 9) rfl (fun q1 => ?_) rfl (fun q1 => ?_)
  · replace h := ed_pos q1 h
    refine iq_iload_n hS 10 J_HFinder_loneX_d9 l1 rfl ?_
    refine iq_iconst hS 11 J_HFinder_loneX_d10 (v := 1) (by decide +kernel) rfl ?_
    refine iq_icmp_ne hS 14 J_HFinder_loneX_d11 (t := 19) rfl (fun q11 => ?_) rfl (fun q11 => ?_)
    · replace h := ed_pos q11 h
      refine iq_iload_n hS 20 J_HFinder_loneX_d19 l1 rfl ?_
      refine iq_iconst hS 21 J_HFinder_loneX_d20 (v := 2) (by decide +kernel) rfl ?_
      refine iq_icmp_ne hS 24 J_HFinder_loneX_d21 (t := 31) rfl (fun q21 => ?_) rfl (fun q21 => ?_)
      · replace h := ed_pos q21 h
        refine iq_iload_n hS 32 J_HFinder_loneX_d31 l0 rfl ?_
        refine iq_bipush hS 34 J_HFinder_loneX_d32 (v := 8) (by decide +kernel) rfl ?_
        refine iq_isub hS 35 J_HFinder_loneX_d34 rfl ?_
        exact iq_iret J_HFinder_loneX_d35 rfl rfl ⟨_, rfl, rfl, ed_some h⟩
      · replace h := ed_neg q21 h
        refine iq_iload_n hS 25 J_HFinder_loneX_d24 l0 rfl ?_
        refine iq_bipush hS 27 J_HFinder_loneX_d25 (v := 9) (by decide +kernel) rfl ?_
        refine iq_isub hS 28 J_HFinder_loneX_d27 rfl ?_
        refine iq_goto hS J_HFinder_loneX_d28 (t := 35) rfl ?_
        exact iq_iret J_HFinder_loneX_d35 rfl rfl ⟨_, rfl, rfl, ed_some h⟩
    · replace h := ed_neg q11 h
      refine iq_bipush hS 16 J_HFinder_loneX_d14 (v := 7) (by decide +kernel) rfl ?_
      refine iq_goto hS J_HFinder_loneX_d16 (t := 35) rfl ?_
      exact iq_iret J_HFinder_loneX_d35 rfl rfl ⟨_, rfl, rfl, ed_some h⟩
  · replace h := ed_neg q1 h
    refine iq_bipush hS 6 J_HFinder_loneX_d4 (v := 8) (by decide +kernel) rfl ?_
    refine iq_goto hS J_HFinder_loneX_d6 (t := 35) rfl ?_
    exact iq_iret J_HFinder_loneX_d35 rfl rfl ⟨_, rfl, rfl, ed_some h⟩
noncomputable def f_HFinder_loneY (p0 : Int32) (p1 : Int32) (M : im_M) : Option (Int32) := if ¬ p1 = 0 then if ¬ p1 = 1 then if ¬ p1 = 2 then some (p0 - 9) else some 7 else some 8 else some (p0 - 8)
theorem J_HFinder_loneY_d0 : decode J_HFinder_loneY.2.1 0 = .ok (.iload_n 1, 1) := by decide +kernel
theorem J_HFinder_loneY_d1 : decode J_HFinder_loneY.2.1 1 = .ok (.ifCond .ne 10, 3) := by decide +kernel
theorem J_HFinder_loneY_d4 : decode J_HFinder_loneY.2.1 4 = .ok (.iload_n 0, 1) := by decide +kernel
theorem J_HFinder_loneY_d5 : decode J_HFinder_loneY.2.1 5 = .ok (.bipush 8, 2) := by decide +kernel
theorem J_HFinder_loneY_d7 : decode J_HFinder_loneY.2.1 7 = .ok (.isub, 1) := by decide +kernel
theorem J_HFinder_loneY_d8 : decode J_HFinder_loneY.2.1 8 = .ok (.goto 27, 3) := by decide +kernel
theorem J_HFinder_loneY_d11 : decode J_HFinder_loneY.2.1 11 = .ok (.iload_n 1, 1) := by decide +kernel
theorem J_HFinder_loneY_d12 : decode J_HFinder_loneY.2.1 12 = .ok (.iconst 1, 1) := by decide +kernel
theorem J_HFinder_loneY_d13 : decode J_HFinder_loneY.2.1 13 = .ok (.if_icmp .ne 8, 3) := by decide +kernel
theorem J_HFinder_loneY_d16 : decode J_HFinder_loneY.2.1 16 = .ok (.bipush 8, 2) := by decide +kernel
theorem J_HFinder_loneY_d18 : decode J_HFinder_loneY.2.1 18 = .ok (.goto 17, 3) := by decide +kernel
theorem J_HFinder_loneY_d21 : decode J_HFinder_loneY.2.1 21 = .ok (.iload_n 1, 1) := by decide +kernel
theorem J_HFinder_loneY_d22 : decode J_HFinder_loneY.2.1 22 = .ok (.iconst 2, 1) := by decide +kernel
theorem J_HFinder_loneY_d23 : decode J_HFinder_loneY.2.1 23 = .ok (.if_icmp .ne 8, 3) := by decide +kernel
theorem J_HFinder_loneY_d26 : decode J_HFinder_loneY.2.1 26 = .ok (.bipush 7, 2) := by decide +kernel
theorem J_HFinder_loneY_d28 : decode J_HFinder_loneY.2.1 28 = .ok (.goto 7, 3) := by decide +kernel
theorem J_HFinder_loneY_d31 : decode J_HFinder_loneY.2.1 31 = .ok (.iload_n 0, 1) := by decide +kernel
theorem J_HFinder_loneY_d32 : decode J_HFinder_loneY.2.1 32 = .ok (.bipush 9, 2) := by decide +kernel
theorem J_HFinder_loneY_d34 : decode J_HFinder_loneY.2.1 34 = .ok (.isub, 1) := by decide +kernel
theorem J_HFinder_loneY_d35 : decode J_HFinder_loneY.2.1 35 = .ok (.ireturn, 1) := by decide +kernel
theorem f_HFinder_loneY_ok {L : Nat} {xs : Nat → Int32} {dep : Nat} {w : Bool} {p0 : Int32} {p1 : Int32} {M : im_M} {Q : Int32 → Prop} (hM : lw_S w M) (h : ed (f_HFinder_loneY p0 p1 M) Q) : ia (tb_G L xs) dep J_HFinder_loneY (rpI M Q) (0, lv_args 0 [.int p0, .int p1], [], M) := by
  have hS : im_St (tb_G L xs) dep J_HFinder_loneY (ia (tb_G L xs) dep J_HFinder_loneY (rpI M Q)) := ia_St
  unfold f_HFinder_loneY at h
  have l0 : im_lk (lv_args 0 [.int p0, .int p1]) 0 = some (.int p0) := rfl
  have l1 : im_lk (lv_args 0 [.int p0, .int p1]) 1 = some (.int p1) := rfl
  refine iq_iload_n hS 1 J_HFinder_loneY_d0 l1 rfl ?_
  refine iq_if_ne hS 4 J_HFinder_loneY_d1 (t := 11) rfl (fun q1 => ?_) rfl (fun q1 => ?_)
  · replace h := ed_pos q1 h
    refine iq_iload_n hS 12 J_HFinder_loneY_d11 l1 rfl ?_
    refine iq_iconst hS 13 J_HFinder_loneY_d12 (v := 1) (by decide +kernel) rfl ?_
    refine iq_icmp_ne hS 16 J_HFinder_loneY_d13 (t := 21) rfl (fun q13 => ?_) rfl (fun q13 => ?_)
    · replace h := ed_pos q13 h
      refine iq_iload_n hS 22 J_HFinder_loneY_d21 l1 rfl ?_
      refine iq_iconst hS 23 J_HFinder_loneY_d22 (v := 2) (by decide +kernel) rfl ?_
      refine iq_icmp_ne hS 26 J_HFinder_loneY_d23 (t := 31) rfl (fun q23 => ?_) rfl (fun q23 => ?_)
      · replace h := ed_pos q23 h
        refine iq_iload_n hS 32 J_HFinder_loneY_d31 l0 rfl ?_
        refine iq_bipush hS 34 J_HFinder_loneY_d32 (v := 9) (by decide +kernel) rfl ?_
        refine iq_isub hS 35 J_HFinder_loneY_d34 rfl ?_
        exact iq_iret J_HFinder_loneY_d35 rfl rfl ⟨_, rfl, rfl, ed_some h⟩
      · replace h := ed_neg q23 h
        refine iq_bipush hS 28 J_HFinder_loneY_d26 (v := 7) (by decide +kernel) rfl ?_
        refine iq_goto hS J_HFinder_loneY_d28 (t := 35) rfl ?_
        exact iq_iret J_HFinder_loneY_d35 rfl rfl ⟨_, rfl, rfl, ed_some h⟩
    · replace h := ed_neg q13 h
      refine iq_bipush hS 18 J_HFinder_loneY_d16 (v := 8) (by decide +kernel) rfl ?_
      refine iq_goto hS J_HFinder_loneY_d18 (t := 35) rfl ?_
      exact iq_iret J_HFinder_loneY_d35 rfl rfl ⟨_, rfl, rfl, ed_some h⟩
  · replace h := ed_neg q1 h
    refine iq_iload_n hS 5 J_HFinder_loneY_d4 l0 rfl ?_
    refine iq_bipush hS 7 J_HFinder_loneY_d5 (v := 8) (by decide +kernel) rfl ?_
    refine iq_isub hS 8 J_HFinder_loneY_d7 rfl ?_
    refine iq_goto hS J_HFinder_loneY_d8 (t := 35) rfl ?_
    exact iq_iret J_HFinder_loneY_d35 rfl rfl ⟨_, rfl, rfl, ed_some h⟩
noncomputable def f_HFinder_wrongAt_L113 (v7 : Int32) (v8 : Int32) (v9 : Int32) (v10 : Int32) (v11 : Int32) (v12 : Int32) (v13 : Int32) (M16 : im_M) (x14 : Int32) (x15 : Int32) : Option ((Int32 × Int32) ⊕ (Int32)) := if (v9 - 9) < x15 then some (.inr x14) else if (im_i M16 59 10) < x14 then some (.inr x14) else bd1 (f_HFinder_darkIn (v7 + (x15 * (im_i M16 59 9))) v12 (im_i M16 59 9) M16) fun (x17 : Int32) => bd1 (f_HFinder_darkIn v13 (v8 + (x15 * (im_i M16 59 9))) (im_i M16 59 9) M16) fun (x18 : Int32) => some (.inl ((x14 + ((if ¬ (x15 - x15 / 2 * 2) = 0 then (x17 + x18) else ((((2 : Int32) * (im_i M16 59 9)) * (im_i M16 59 9)) - (x17 + x18))) : Int32)), (x15 + 1)))
noncomputable def f_HFinder_wrongAt_L212 (v22 : Int32) (v23 : Int32) (v24 : Int32) (v25 : Int32) (M28 : im_M) (x26 : Int32) (x27 : Int32) : Option ((Int32 × Int32) ⊕ (Int32)) := if 4 ≤ x27 then some (.inr x26) else if (im_i M28 59 10) < x26 then some (.inr x26) else bd1 (if x27 = ((3 : Int32) - v24) then some x26 else gd (inb x27 4) <| gd (inb x27 4) <| gd (inb x27 4) <| gd (inb x27 4) <| bd1 (f_HFinder_darkIn ((v22 + (v25 * (xa_13 x27))) - ((im_i M28 59 9) * (xa_13 x27))) ((v23 + (v25 * (xa_14 x27))) - ((im_i M28 59 9) * (xa_14 x27))) ((8 : Int32) * (im_i M28 59 9)) M28) fun (x30 : Int32) => bd1 (f_HFinder_darkIn (v22 + (v25 * (xa_13 x27))) (v23 + (v25 * (xa_14 x27))) ((7 : Int32) * (im_i M28 59 9)) M28) fun (x31 : Int32) => some (x26 + (x30 - x31))) fun (y32 : Int32) => some (.inl (y32, (x27 + 1)))
noncomputable def f_HFinder_wrongAt (p0 : Int32) (p1 : Int32) (p2 : Int32) (p3 : Int32) (p4 : Int32) (M : im_M) : Option (Int32) := bd1 (f_HFinder_loneX p2 p3 M) fun (x1 : Int32) => bd1 (f_HFinder_loneY p2 p3 M) fun (x2 : Int32) => bd1 (f_HFinder_darkIn (p0 + ((im_i M 59 9) * x1)) (p1 + ((im_i M 59 9) * x2)) (im_i M 59 9) M) fun (x3 : Int32) => bd1 (lp (uc2 (f_HFinder_wrongAt_L113 p0 p1 p2 p3 ((p2 - 7) * (im_i M 59 9)) (p1 + ((if 2 ≤ p3 then ((p2 - 7) * (im_i M 59 9)) else ((6 : Int32) * (im_i M 59 9))) : Int32)) (p0 + ((if p3 = 0 then ((6 : Int32) * (im_i M 59 9)) else (if ¬ p3 = 3 then ((p2 - 7) * (im_i M 59 9)) else ((6 : Int32) * (im_i M 59 9)))) : Int32)) M)) (((p4 + ((im_i M 59 9) * (im_i M 59 9))) - x3), 8)) fun (y20 : Int32) => bd1 (lp (uc2 (f_HFinder_wrongAt_L212 p0 p1 p3 ((p2 - 7) * (im_i M 59 9)) M)) (y20, 0)) fun (y40 : Int32) => some y40
theorem J_HFinder_wrongAt_d0 : decode J_HFinder_wrongAt.2.1 0 = .ok (.iload_n 3, 1) := by decide +kernel
theorem J_HFinder_wrongAt_d1 : decode J_HFinder_wrongAt.2.1 1 = .ok (.bipush 7, 2) := by decide +kernel
theorem J_HFinder_wrongAt_d3 : decode J_HFinder_wrongAt.2.1 3 = .ok (.isub, 1) := by decide +kernel
theorem J_HFinder_wrongAt_d4 : decode J_HFinder_wrongAt.2.1 4 = .ok (.aload_n 0, 1) := by decide +kernel
theorem J_HFinder_wrongAt_d5 : decode J_HFinder_wrongAt.2.1 5 = .ok (.getfield 66, 3) := by decide +kernel
theorem J_HFinder_wrongAt_d8 : decode J_HFinder_wrongAt.2.1 8 = .ok (.imul, 1) := by decide +kernel
theorem J_HFinder_wrongAt_d9 : decode J_HFinder_wrongAt.2.1 9 = .ok (.istore 6, 2) := by decide +kernel
theorem J_HFinder_wrongAt_d11 : decode J_HFinder_wrongAt.2.1 11 = .ok (.iload 5, 2) := by decide +kernel
theorem J_HFinder_wrongAt_d13 : decode J_HFinder_wrongAt.2.1 13 = .ok (.aload_n 0, 1) := by decide +kernel
theorem J_HFinder_wrongAt_d14 : decode J_HFinder_wrongAt.2.1 14 = .ok (.getfield 66, 3) := by decide +kernel
theorem J_HFinder_wrongAt_d17 : decode J_HFinder_wrongAt.2.1 17 = .ok (.aload_n 0, 1) := by decide +kernel
theorem J_HFinder_wrongAt_d18 : decode J_HFinder_wrongAt.2.1 18 = .ok (.getfield 66, 3) := by decide +kernel
theorem J_HFinder_wrongAt_d21 : decode J_HFinder_wrongAt.2.1 21 = .ok (.imul, 1) := by decide +kernel
theorem J_HFinder_wrongAt_d22 : decode J_HFinder_wrongAt.2.1 22 = .ok (.iadd, 1) := by decide +kernel
theorem J_HFinder_wrongAt_d23 : decode J_HFinder_wrongAt.2.1 23 = .ok (.aload_n 0, 1) := by decide +kernel
theorem J_HFinder_wrongAt_d24 : decode J_HFinder_wrongAt.2.1 24 = .ok (.iload_n 1, 1) := by decide +kernel
theorem J_HFinder_wrongAt_d25 : decode J_HFinder_wrongAt.2.1 25 = .ok (.aload_n 0, 1) := by decide +kernel
theorem J_HFinder_wrongAt_d26 : decode J_HFinder_wrongAt.2.1 26 = .ok (.getfield 66, 3) := by decide +kernel
theorem J_HFinder_wrongAt_d29 : decode J_HFinder_wrongAt.2.1 29 = .ok (.iload_n 3, 1) := by decide +kernel
theorem J_HFinder_wrongAt_d30 : decode J_HFinder_wrongAt.2.1 30 = .ok (.iload 4, 2) := by decide +kernel
theorem J_HFinder_wrongAt_d32 : decode J_HFinder_wrongAt.2.1 32 = .ok (.invokestatic 112, 3) := by decide +kernel
theorem J_HFinder_wrongAt_d35 : decode J_HFinder_wrongAt.2.1 35 = .ok (.imul, 1) := by decide +kernel
theorem J_HFinder_wrongAt_d36 : decode J_HFinder_wrongAt.2.1 36 = .ok (.iadd, 1) := by decide +kernel
theorem J_HFinder_wrongAt_d37 : decode J_HFinder_wrongAt.2.1 37 = .ok (.iload_n 2, 1) := by decide +kernel
theorem J_HFinder_wrongAt_d38 : decode J_HFinder_wrongAt.2.1 38 = .ok (.aload_n 0, 1) := by decide +kernel
theorem J_HFinder_wrongAt_d39 : decode J_HFinder_wrongAt.2.1 39 = .ok (.getfield 66, 3) := by decide +kernel
theorem J_HFinder_wrongAt_d42 : decode J_HFinder_wrongAt.2.1 42 = .ok (.iload_n 3, 1) := by decide +kernel
theorem J_HFinder_wrongAt_d43 : decode J_HFinder_wrongAt.2.1 43 = .ok (.iload 4, 2) := by decide +kernel
theorem J_HFinder_wrongAt_d45 : decode J_HFinder_wrongAt.2.1 45 = .ok (.invokestatic 115, 3) := by decide +kernel
theorem J_HFinder_wrongAt_d48 : decode J_HFinder_wrongAt.2.1 48 = .ok (.imul, 1) := by decide +kernel
theorem J_HFinder_wrongAt_d49 : decode J_HFinder_wrongAt.2.1 49 = .ok (.iadd, 1) := by decide +kernel
theorem J_HFinder_wrongAt_d50 : decode J_HFinder_wrongAt.2.1 50 = .ok (.aload_n 0, 1) := by decide +kernel
theorem J_HFinder_wrongAt_d51 : decode J_HFinder_wrongAt.2.1 51 = .ok (.getfield 66, 3) := by decide +kernel
theorem J_HFinder_wrongAt_d54 : decode J_HFinder_wrongAt.2.1 54 = .ok (.invokevirtual 83, 3) := by decide +kernel
theorem J_HFinder_wrongAt_d57 : decode J_HFinder_wrongAt.2.1 57 = .ok (.isub, 1) := by decide +kernel
theorem J_HFinder_wrongAt_d58 : decode J_HFinder_wrongAt.2.1 58 = .ok (.istore 7, 2) := by decide +kernel
theorem J_HFinder_wrongAt_d60 : decode J_HFinder_wrongAt.2.1 60 = .ok (.iload_n 2, 1) := by decide +kernel
theorem J_HFinder_wrongAt_d61 : decode J_HFinder_wrongAt.2.1 61 = .ok (.iload 4, 2) := by decide +kernel
theorem J_HFinder_wrongAt_d63 : decode J_HFinder_wrongAt.2.1 63 = .ok (.iconst 2, 1) := by decide +kernel
theorem J_HFinder_wrongAt_d64 : decode J_HFinder_wrongAt.2.1 64 = .ok (.if_icmp .ge 13, 3) := by decide +kernel
theorem J_HFinder_wrongAt_d67 : decode J_HFinder_wrongAt.2.1 67 = .ok (.bipush 6, 2) := by decide +kernel
theorem J_HFinder_wrongAt_d69 : decode J_HFinder_wrongAt.2.1 69 = .ok (.aload_n 0, 1) := by decide +kernel
theorem J_HFinder_wrongAt_d70 : decode J_HFinder_wrongAt.2.1 70 = .ok (.getfield 66, 3) := by decide +kernel
theorem J_HFinder_wrongAt_d73 : decode J_HFinder_wrongAt.2.1 73 = .ok (.imul, 1) := by decide +kernel
theorem J_HFinder_wrongAt_d74 : decode J_HFinder_wrongAt.2.1 74 = .ok (.goto 5, 3) := by decide +kernel
theorem J_HFinder_wrongAt_d77 : decode J_HFinder_wrongAt.2.1 77 = .ok (.iload 6, 2) := by decide +kernel
theorem J_HFinder_wrongAt_d79 : decode J_HFinder_wrongAt.2.1 79 = .ok (.iadd, 1) := by decide +kernel
theorem J_HFinder_wrongAt_d80 : decode J_HFinder_wrongAt.2.1 80 = .ok (.istore 8, 2) := by decide +kernel
theorem J_HFinder_wrongAt_d82 : decode J_HFinder_wrongAt.2.1 82 = .ok (.iload_n 1, 1) := by decide +kernel
theorem J_HFinder_wrongAt_d83 : decode J_HFinder_wrongAt.2.1 83 = .ok (.iload 4, 2) := by decide +kernel
theorem J_HFinder_wrongAt_d85 : decode J_HFinder_wrongAt.2.1 85 = .ok (.ifCond .eq 9, 3) := by decide +kernel
theorem J_HFinder_wrongAt_d88 : decode J_HFinder_wrongAt.2.1 88 = .ok (.iload 4, 2) := by decide +kernel
theorem J_HFinder_wrongAt_d90 : decode J_HFinder_wrongAt.2.1 90 = .ok (.iconst 3, 1) := by decide +kernel
theorem J_HFinder_wrongAt_d91 : decode J_HFinder_wrongAt.2.1 91 = .ok (.if_icmp .ne 13, 3) := by decide +kernel
theorem J_HFinder_wrongAt_d94 : decode J_HFinder_wrongAt.2.1 94 = .ok (.bipush 6, 2) := by decide +kernel
theorem J_HFinder_wrongAt_d96 : decode J_HFinder_wrongAt.2.1 96 = .ok (.aload_n 0, 1) := by decide +kernel
theorem J_HFinder_wrongAt_d97 : decode J_HFinder_wrongAt.2.1 97 = .ok (.getfield 66, 3) := by decide +kernel
theorem J_HFinder_wrongAt_d100 : decode J_HFinder_wrongAt.2.1 100 = .ok (.imul, 1) := by decide +kernel
theorem J_HFinder_wrongAt_d101 : decode J_HFinder_wrongAt.2.1 101 = .ok (.goto 5, 3) := by decide +kernel
theorem J_HFinder_wrongAt_d104 : decode J_HFinder_wrongAt.2.1 104 = .ok (.iload 6, 2) := by decide +kernel
theorem J_HFinder_wrongAt_d106 : decode J_HFinder_wrongAt.2.1 106 = .ok (.iadd, 1) := by decide +kernel
theorem J_HFinder_wrongAt_d107 : decode J_HFinder_wrongAt.2.1 107 = .ok (.istore 9, 2) := by decide +kernel
theorem J_HFinder_wrongAt_d109 : decode J_HFinder_wrongAt.2.1 109 = .ok (.bipush 8, 2) := by decide +kernel
theorem J_HFinder_wrongAt_d111 : decode J_HFinder_wrongAt.2.1 111 = .ok (.istore 10, 2) := by decide +kernel
theorem J_HFinder_wrongAt_d113 : decode J_HFinder_wrongAt.2.1 113 = .ok (.iload 10, 2) := by decide +kernel
theorem J_HFinder_wrongAt_d115 : decode J_HFinder_wrongAt.2.1 115 = .ok (.iload_n 3, 1) := by decide +kernel
theorem J_HFinder_wrongAt_d116 : decode J_HFinder_wrongAt.2.1 116 = .ok (.bipush 9, 2) := by decide +kernel
theorem J_HFinder_wrongAt_d118 : decode J_HFinder_wrongAt.2.1 118 = .ok (.isub, 1) := by decide +kernel
theorem J_HFinder_wrongAt_d119 : decode J_HFinder_wrongAt.2.1 119 = .ok (.if_icmp .gt 90, 3) := by decide +kernel
theorem J_HFinder_wrongAt_d122 : decode J_HFinder_wrongAt.2.1 122 = .ok (.iload 7, 2) := by decide +kernel
theorem J_HFinder_wrongAt_d124 : decode J_HFinder_wrongAt.2.1 124 = .ok (.aload_n 0, 1) := by decide +kernel
theorem J_HFinder_wrongAt_d125 : decode J_HFinder_wrongAt.2.1 125 = .ok (.getfield 48, 3) := by decide +kernel
theorem J_HFinder_wrongAt_d128 : decode J_HFinder_wrongAt.2.1 128 = .ok (.if_icmp .gt 81, 3) := by decide +kernel
theorem J_HFinder_wrongAt_d131 : decode J_HFinder_wrongAt.2.1 131 = .ok (.aload_n 0, 1) := by decide +kernel
theorem J_HFinder_wrongAt_d132 : decode J_HFinder_wrongAt.2.1 132 = .ok (.iload_n 1, 1) := by decide +kernel
theorem J_HFinder_wrongAt_d133 : decode J_HFinder_wrongAt.2.1 133 = .ok (.iload 10, 2) := by decide +kernel
theorem J_HFinder_wrongAt_d135 : decode J_HFinder_wrongAt.2.1 135 = .ok (.aload_n 0, 1) := by decide +kernel
theorem J_HFinder_wrongAt_d136 : decode J_HFinder_wrongAt.2.1 136 = .ok (.getfield 66, 3) := by decide +kernel
theorem J_HFinder_wrongAt_d139 : decode J_HFinder_wrongAt.2.1 139 = .ok (.imul, 1) := by decide +kernel
theorem J_HFinder_wrongAt_d140 : decode J_HFinder_wrongAt.2.1 140 = .ok (.iadd, 1) := by decide +kernel
theorem J_HFinder_wrongAt_d141 : decode J_HFinder_wrongAt.2.1 141 = .ok (.iload 8, 2) := by decide +kernel
theorem J_HFinder_wrongAt_d143 : decode J_HFinder_wrongAt.2.1 143 = .ok (.aload_n 0, 1) := by decide +kernel
theorem J_HFinder_wrongAt_d144 : decode J_HFinder_wrongAt.2.1 144 = .ok (.getfield 66, 3) := by decide +kernel
theorem J_HFinder_wrongAt_d147 : decode J_HFinder_wrongAt.2.1 147 = .ok (.invokevirtual 83, 3) := by decide +kernel
theorem J_HFinder_wrongAt_d150 : decode J_HFinder_wrongAt.2.1 150 = .ok (.aload_n 0, 1) := by decide +kernel
theorem J_HFinder_wrongAt_d151 : decode J_HFinder_wrongAt.2.1 151 = .ok (.iload 9, 2) := by decide +kernel
theorem J_HFinder_wrongAt_d153 : decode J_HFinder_wrongAt.2.1 153 = .ok (.iload_n 2, 1) := by decide +kernel
theorem J_HFinder_wrongAt_d154 : decode J_HFinder_wrongAt.2.1 154 = .ok (.iload 10, 2) := by decide +kernel
theorem J_HFinder_wrongAt_d156 : decode J_HFinder_wrongAt.2.1 156 = .ok (.aload_n 0, 1) := by decide +kernel
theorem J_HFinder_wrongAt_d157 : decode J_HFinder_wrongAt.2.1 157 = .ok (.getfield 66, 3) := by decide +kernel
theorem J_HFinder_wrongAt_d160 : decode J_HFinder_wrongAt.2.1 160 = .ok (.imul, 1) := by decide +kernel
theorem J_HFinder_wrongAt_d161 : decode J_HFinder_wrongAt.2.1 161 = .ok (.iadd, 1) := by decide +kernel
theorem J_HFinder_wrongAt_d162 : decode J_HFinder_wrongAt.2.1 162 = .ok (.aload_n 0, 1) := by decide +kernel
theorem J_HFinder_wrongAt_d163 : decode J_HFinder_wrongAt.2.1 163 = .ok (.getfield 66, 3) := by decide +kernel
theorem J_HFinder_wrongAt_d166 : decode J_HFinder_wrongAt.2.1 166 = .ok (.invokevirtual 83, 3) := by decide +kernel
theorem J_HFinder_wrongAt_d169 : decode J_HFinder_wrongAt.2.1 169 = .ok (.iadd, 1) := by decide +kernel
theorem J_HFinder_wrongAt_d170 : decode J_HFinder_wrongAt.2.1 170 = .ok (.istore 11, 2) := by decide +kernel
theorem J_HFinder_wrongAt_d172 : decode J_HFinder_wrongAt.2.1 172 = .ok (.iload 7, 2) := by decide +kernel
theorem J_HFinder_wrongAt_d174 : decode J_HFinder_wrongAt.2.1 174 = .ok (.iload 10, 2) := by decide +kernel
theorem J_HFinder_wrongAt_d176 : decode J_HFinder_wrongAt.2.1 176 = .ok (.iconst 2, 1) := by decide +kernel
theorem J_HFinder_wrongAt_d177 : decode J_HFinder_wrongAt.2.1 177 = .ok (.irem, 1) := by decide +kernel
theorem J_HFinder_wrongAt_d178 : decode J_HFinder_wrongAt.2.1 178 = .ok (.ifCond .ne 20, 3) := by decide +kernel
theorem J_HFinder_wrongAt_d181 : decode J_HFinder_wrongAt.2.1 181 = .ok (.iconst 2, 1) := by decide +kernel
theorem J_HFinder_wrongAt_d182 : decode J_HFinder_wrongAt.2.1 182 = .ok (.aload_n 0, 1) := by decide +kernel
theorem J_HFinder_wrongAt_d183 : decode J_HFinder_wrongAt.2.1 183 = .ok (.getfield 66, 3) := by decide +kernel
theorem J_HFinder_wrongAt_d186 : decode J_HFinder_wrongAt.2.1 186 = .ok (.imul, 1) := by decide +kernel
theorem J_HFinder_wrongAt_d187 : decode J_HFinder_wrongAt.2.1 187 = .ok (.aload_n 0, 1) := by decide +kernel
theorem J_HFinder_wrongAt_d188 : decode J_HFinder_wrongAt.2.1 188 = .ok (.getfield 66, 3) := by decide +kernel
theorem J_HFinder_wrongAt_d191 : decode J_HFinder_wrongAt.2.1 191 = .ok (.imul, 1) := by decide +kernel
theorem J_HFinder_wrongAt_d192 : decode J_HFinder_wrongAt.2.1 192 = .ok (.iload 11, 2) := by decide +kernel
theorem J_HFinder_wrongAt_d194 : decode J_HFinder_wrongAt.2.1 194 = .ok (.isub, 1) := by decide +kernel
theorem J_HFinder_wrongAt_d195 : decode J_HFinder_wrongAt.2.1 195 = .ok (.goto 5, 3) := by decide +kernel
theorem J_HFinder_wrongAt_d198 : decode J_HFinder_wrongAt.2.1 198 = .ok (.iload 11, 2) := by decide +kernel
theorem J_HFinder_wrongAt_d200 : decode J_HFinder_wrongAt.2.1 200 = .ok (.iadd, 1) := by decide +kernel
theorem J_HFinder_wrongAt_d201 : decode J_HFinder_wrongAt.2.1 201 = .ok (.istore 7, 2) := by decide +kernel
theorem J_HFinder_wrongAt_d203 : decode J_HFinder_wrongAt.2.1 203 = .ok (.iinc 10 1, 3) := by decide +kernel
theorem J_HFinder_wrongAt_d206 : decode J_HFinder_wrongAt.2.1 206 = .ok (.goto (-93), 3) := by decide +kernel
theorem J_HFinder_wrongAt_d209 : decode J_HFinder_wrongAt.2.1 209 = .ok (.iconst 0, 1) := by decide +kernel
theorem J_HFinder_wrongAt_d210 : decode J_HFinder_wrongAt.2.1 210 = .ok (.istore 10, 2) := by decide +kernel
theorem J_HFinder_wrongAt_d212 : decode J_HFinder_wrongAt.2.1 212 = .ok (.iload 10, 2) := by decide +kernel
theorem J_HFinder_wrongAt_d214 : decode J_HFinder_wrongAt.2.1 214 = .ok (.iconst 4, 1) := by decide +kernel
theorem J_HFinder_wrongAt_d215 : decode J_HFinder_wrongAt.2.1 215 = .ok (.if_icmp .ge 113, 3) := by decide +kernel
theorem J_HFinder_wrongAt_d218 : decode J_HFinder_wrongAt.2.1 218 = .ok (.iload 7, 2) := by decide +kernel
theorem J_HFinder_wrongAt_d220 : decode J_HFinder_wrongAt.2.1 220 = .ok (.aload_n 0, 1) := by decide +kernel
theorem J_HFinder_wrongAt_d221 : decode J_HFinder_wrongAt.2.1 221 = .ok (.getfield 48, 3) := by decide +kernel
theorem J_HFinder_wrongAt_d224 : decode J_HFinder_wrongAt.2.1 224 = .ok (.if_icmp .gt 104, 3) := by decide +kernel
theorem J_HFinder_wrongAt_d227 : decode J_HFinder_wrongAt.2.1 227 = .ok (.iload 10, 2) := by decide +kernel
theorem J_HFinder_wrongAt_d229 : decode J_HFinder_wrongAt.2.1 229 = .ok (.iconst 3, 1) := by decide +kernel
theorem J_HFinder_wrongAt_d230 : decode J_HFinder_wrongAt.2.1 230 = .ok (.iload 4, 2) := by decide +kernel
theorem J_HFinder_wrongAt_d232 : decode J_HFinder_wrongAt.2.1 232 = .ok (.isub, 1) := by decide +kernel
theorem J_HFinder_wrongAt_d233 : decode J_HFinder_wrongAt.2.1 233 = .ok (.if_icmp .eq 89, 3) := by decide +kernel
theorem J_HFinder_wrongAt_d236 : decode J_HFinder_wrongAt.2.1 236 = .ok (.iload_n 1, 1) := by decide +kernel
theorem J_HFinder_wrongAt_d237 : decode J_HFinder_wrongAt.2.1 237 = .ok (.iload 6, 2) := by decide +kernel
theorem J_HFinder_wrongAt_d239 : decode J_HFinder_wrongAt.2.1 239 = .ok (.getstatic 94, 3) := by decide +kernel
theorem J_HFinder_wrongAt_d242 : decode J_HFinder_wrongAt.2.1 242 = .ok (.iload 10, 2) := by decide +kernel
theorem J_HFinder_wrongAt_d244 : decode J_HFinder_wrongAt.2.1 244 = .ok (.iaload, 1) := by decide +kernel
theorem J_HFinder_wrongAt_d245 : decode J_HFinder_wrongAt.2.1 245 = .ok (.imul, 1) := by decide +kernel
theorem J_HFinder_wrongAt_d246 : decode J_HFinder_wrongAt.2.1 246 = .ok (.iadd, 1) := by decide +kernel
theorem J_HFinder_wrongAt_d247 : decode J_HFinder_wrongAt.2.1 247 = .ok (.istore 11, 2) := by decide +kernel
theorem J_HFinder_wrongAt_d249 : decode J_HFinder_wrongAt.2.1 249 = .ok (.iload_n 2, 1) := by decide +kernel
theorem J_HFinder_wrongAt_d250 : decode J_HFinder_wrongAt.2.1 250 = .ok (.iload 6, 2) := by decide +kernel
theorem J_HFinder_wrongAt_d252 : decode J_HFinder_wrongAt.2.1 252 = .ok (.getstatic 97, 3) := by decide +kernel
theorem J_HFinder_wrongAt_d255 : decode J_HFinder_wrongAt.2.1 255 = .ok (.iload 10, 2) := by decide +kernel
theorem J_HFinder_wrongAt_d257 : decode J_HFinder_wrongAt.2.1 257 = .ok (.iaload, 1) := by decide +kernel
theorem J_HFinder_wrongAt_d258 : decode J_HFinder_wrongAt.2.1 258 = .ok (.imul, 1) := by decide +kernel
theorem J_HFinder_wrongAt_d259 : decode J_HFinder_wrongAt.2.1 259 = .ok (.iadd, 1) := by decide +kernel
theorem J_HFinder_wrongAt_d260 : decode J_HFinder_wrongAt.2.1 260 = .ok (.istore 12, 2) := by decide +kernel
theorem J_HFinder_wrongAt_d262 : decode J_HFinder_wrongAt.2.1 262 = .ok (.iload 7, 2) := by decide +kernel
theorem J_HFinder_wrongAt_d264 : decode J_HFinder_wrongAt.2.1 264 = .ok (.aload_n 0, 1) := by decide +kernel
theorem J_HFinder_wrongAt_d265 : decode J_HFinder_wrongAt.2.1 265 = .ok (.iload 11, 2) := by decide +kernel
theorem J_HFinder_wrongAt_d267 : decode J_HFinder_wrongAt.2.1 267 = .ok (.aload_n 0, 1) := by decide +kernel
theorem J_HFinder_wrongAt_d268 : decode J_HFinder_wrongAt.2.1 268 = .ok (.getfield 66, 3) := by decide +kernel
theorem J_HFinder_wrongAt_d271 : decode J_HFinder_wrongAt.2.1 271 = .ok (.getstatic 94, 3) := by decide +kernel
theorem J_HFinder_wrongAt_d274 : decode J_HFinder_wrongAt.2.1 274 = .ok (.iload 10, 2) := by decide +kernel
theorem J_HFinder_wrongAt_d276 : decode J_HFinder_wrongAt.2.1 276 = .ok (.iaload, 1) := by decide +kernel
theorem J_HFinder_wrongAt_d277 : decode J_HFinder_wrongAt.2.1 277 = .ok (.imul, 1) := by decide +kernel
theorem J_HFinder_wrongAt_d278 : decode J_HFinder_wrongAt.2.1 278 = .ok (.isub, 1) := by decide +kernel
theorem J_HFinder_wrongAt_d279 : decode J_HFinder_wrongAt.2.1 279 = .ok (.iload 12, 2) := by decide +kernel
theorem J_HFinder_wrongAt_d281 : decode J_HFinder_wrongAt.2.1 281 = .ok (.aload_n 0, 1) := by decide +kernel
theorem J_HFinder_wrongAt_d282 : decode J_HFinder_wrongAt.2.1 282 = .ok (.getfield 66, 3) := by decide +kernel
theorem J_HFinder_wrongAt_d285 : decode J_HFinder_wrongAt.2.1 285 = .ok (.getstatic 97, 3) := by decide +kernel
theorem J_HFinder_wrongAt_d288 : decode J_HFinder_wrongAt.2.1 288 = .ok (.iload 10, 2) := by decide +kernel
theorem J_HFinder_wrongAt_d290 : decode J_HFinder_wrongAt.2.1 290 = .ok (.iaload, 1) := by decide +kernel
theorem J_HFinder_wrongAt_d291 : decode J_HFinder_wrongAt.2.1 291 = .ok (.imul, 1) := by decide +kernel
theorem J_HFinder_wrongAt_d292 : decode J_HFinder_wrongAt.2.1 292 = .ok (.isub, 1) := by decide +kernel
theorem J_HFinder_wrongAt_d293 : decode J_HFinder_wrongAt.2.1 293 = .ok (.bipush 8, 2) := by decide +kernel
theorem J_HFinder_wrongAt_d295 : decode J_HFinder_wrongAt.2.1 295 = .ok (.aload_n 0, 1) := by decide +kernel
theorem J_HFinder_wrongAt_d296 : decode J_HFinder_wrongAt.2.1 296 = .ok (.getfield 66, 3) := by decide +kernel
theorem J_HFinder_wrongAt_d299 : decode J_HFinder_wrongAt.2.1 299 = .ok (.imul, 1) := by decide +kernel
theorem J_HFinder_wrongAt_d300 : decode J_HFinder_wrongAt.2.1 300 = .ok (.invokevirtual 83, 3) := by decide +kernel
theorem J_HFinder_wrongAt_d303 : decode J_HFinder_wrongAt.2.1 303 = .ok (.aload_n 0, 1) := by decide +kernel
theorem J_HFinder_wrongAt_d304 : decode J_HFinder_wrongAt.2.1 304 = .ok (.iload 11, 2) := by decide +kernel
theorem J_HFinder_wrongAt_d306 : decode J_HFinder_wrongAt.2.1 306 = .ok (.iload 12, 2) := by decide +kernel
theorem J_HFinder_wrongAt_d308 : decode J_HFinder_wrongAt.2.1 308 = .ok (.bipush 7, 2) := by decide +kernel
theorem J_HFinder_wrongAt_d310 : decode J_HFinder_wrongAt.2.1 310 = .ok (.aload_n 0, 1) := by decide +kernel
theorem J_HFinder_wrongAt_d311 : decode J_HFinder_wrongAt.2.1 311 = .ok (.getfield 66, 3) := by decide +kernel
theorem J_HFinder_wrongAt_d314 : decode J_HFinder_wrongAt.2.1 314 = .ok (.imul, 1) := by decide +kernel
theorem J_HFinder_wrongAt_d315 : decode J_HFinder_wrongAt.2.1 315 = .ok (.invokevirtual 83, 3) := by decide +kernel
theorem J_HFinder_wrongAt_d318 : decode J_HFinder_wrongAt.2.1 318 = .ok (.isub, 1) := by decide +kernel
theorem J_HFinder_wrongAt_d319 : decode J_HFinder_wrongAt.2.1 319 = .ok (.iadd, 1) := by decide +kernel
theorem J_HFinder_wrongAt_d320 : decode J_HFinder_wrongAt.2.1 320 = .ok (.istore 7, 2) := by decide +kernel
theorem J_HFinder_wrongAt_d322 : decode J_HFinder_wrongAt.2.1 322 = .ok (.iinc 10 1, 3) := by decide +kernel
theorem J_HFinder_wrongAt_d325 : decode J_HFinder_wrongAt.2.1 325 = .ok (.goto (-113), 3) := by decide +kernel
theorem J_HFinder_wrongAt_d328 : decode J_HFinder_wrongAt.2.1 328 = .ok (.iload 7, 2) := by decide +kernel
theorem J_HFinder_wrongAt_d330 : decode J_HFinder_wrongAt.2.1 330 = .ok (.ireturn, 1) := by decide +kernel
theorem f_HFinder_wrongAt_ok {L : Nat} {xs : Nat → Int32} {dep : Nat} {w : Bool} {p0 : Int32} {p1 : Int32} {p2 : Int32} {p3 : Int32} {p4 : Int32} {M : im_M} {Q : Int32 → Prop} (hM : lw_S w M) (h : ed (f_HFinder_wrongAt p0 p1 p2 p3 p4 M) Q) : ia (tb_G L xs) (dep + 1) J_HFinder_wrongAt (rpI M Q) (0, lv_args 0 [.ref 59, .int p0, .int p1, .int p2, .int p3, .int p4], [], M) := by
  have hS : im_St (tb_G L xs) (dep + 1) J_HFinder_wrongAt (ia (tb_G L xs) (dep + 1) J_HFinder_wrongAt (rpI M Q)) := ia_St
  unfold f_HFinder_wrongAt at h
  have l0 : im_lk (lv_args 0 [.ref 59, .int p0, .int p1, .int p2, .int p3, .int p4]) 0 = some (.ref 59) := rfl
  have l1 : im_lk (lv_args 0 [.ref 59, .int p0, .int p1, .int p2, .int p3, .int p4]) 1 = some (.int p0) := rfl
  have l2 : im_lk (lv_args 0 [.ref 59, .int p0, .int p1, .int p2, .int p3, .int p4]) 2 = some (.int p1) := rfl
  have l3 : im_lk (lv_args 0 [.ref 59, .int p0, .int p1, .int p2, .int p3, .int p4]) 3 = some (.int p2) := rfl
  have l4 : im_lk (lv_args 0 [.ref 59, .int p0, .int p1, .int p2, .int p3, .int p4]) 4 = some (.int p3) := rfl
  have l5 : im_lk (lv_args 0 [.ref 59, .int p0, .int p1, .int p2, .int p3, .int p4]) 5 = some (.int p4) := rfl
  refine iq_iload_n hS 1 J_HFinder_wrongAt_d0 l3 rfl ?_
  refine iq_bipush hS 3 J_HFinder_wrongAt_d1 (v := 7) (by decide +kernel) rfl ?_
  refine iq_isub hS 4 J_HFinder_wrongAt_d3 rfl ?_
  refine iq_aload_n hS 5 J_HFinder_wrongAt_d4 l0 rfl ?_
  refine iq_getI hS 8 J_HFinder_wrongAt_d5 lf_3_66 (Or.inl rfl) (ka_59 hM) rfl ?_
  refine iq_imul hS 9 J_HFinder_wrongAt_d8 rfl ?_
  refine iq_istore hS 11 J_HFinder_wrongAt_d9 (by decide) rfl ?_
  refine iq_iload hS 13 J_HFinder_wrongAt_d11 (lk_1i l5 (by decide)) rfl ?_
  refine iq_aload_n hS 14 J_HFinder_wrongAt_d13 (lk_1r l0 (by decide)) rfl ?_
  refine iq_getI hS 17 J_HFinder_wrongAt_d14 lf_3_66 (Or.inl rfl) (ka_59 hM) rfl ?_
  refine iq_aload_n hS 18 J_HFinder_wrongAt_d17 (lk_1r l0 (by decide)) rfl ?_
  refine iq_getI hS 21 J_HFinder_wrongAt_d18 lf_3_66 (Or.inl rfl) (ka_59 hM) rfl ?_
  refine iq_imul hS 22 J_HFinder_wrongAt_d21 rfl ?_
  refine iq_iadd hS 23 J_HFinder_wrongAt_d22 rfl ?_
  refine iq_aload_n hS 24 J_HFinder_wrongAt_d23 (lk_1r l0 (by decide)) rfl ?_
  refine iq_iload_n hS 25 J_HFinder_wrongAt_d24 (lk_1i l1 (by decide)) rfl ?_
  refine iq_aload_n hS 26 J_HFinder_wrongAt_d25 (lk_1r l0 (by decide)) rfl ?_
  refine iq_getI hS 29 J_HFinder_wrongAt_d26 lf_3_66 (Or.inl rfl) (ka_59 hM) rfl ?_
  refine iq_iload_n hS 30 J_HFinder_wrongAt_d29 (lk_1i l3 (by decide)) rfl ?_
  refine iq_iload hS 32 J_HFinder_wrongAt_d30 (lk_1i l4 (by decide)) rfl ?_
  obtain ⟨Q1, hQ1, h⟩ := bd1_ed h
  refine iq_cpI hS 35 J_HFinder_wrongAt_d32 rfl (pr_stat (vs := [_, _]) lc_3_112 lT_211 rfl rfl (by decide) rfl (Nat.le_of_ble_eq_true rfl) (Nat.le_of_ble_eq_true rfl)) (f_HFinder_loneX_ok (dep := dep + 0) hM h) rfl ?_
  intro x1 h
  replace h := hQ1 _ h
  refine iq_imul hS 36 J_HFinder_wrongAt_d35 rfl ?_
  refine iq_iadd hS 37 J_HFinder_wrongAt_d36 rfl ?_
  refine iq_iload_n hS 38 J_HFinder_wrongAt_d37 (lk_1i l2 (by decide)) rfl ?_
  refine iq_aload_n hS 39 J_HFinder_wrongAt_d38 (lk_1r l0 (by decide)) rfl ?_
  refine iq_getI hS 42 J_HFinder_wrongAt_d39 lf_3_66 (Or.inl rfl) (ka_59 hM) rfl ?_
  refine iq_iload_n hS 43 J_HFinder_wrongAt_d42 (lk_1i l3 (by decide)) rfl ?_
  refine iq_iload hS 45 J_HFinder_wrongAt_d43 (lk_1i l4 (by decide)) rfl ?_
  obtain ⟨Q2, hQ2, h⟩ := bd1_ed h
  refine iq_cpI hS 48 J_HFinder_wrongAt_d45 rfl (pr_stat (vs := [_, _]) lc_3_115 lT_212 rfl rfl (by decide) rfl (Nat.le_of_ble_eq_true rfl) (Nat.le_of_ble_eq_true rfl)) (f_HFinder_loneY_ok (dep := dep + 0) hM h) rfl ?_
  intro x2 h
  replace h := hQ2 _ h
  refine iq_imul hS 49 J_HFinder_wrongAt_d48 rfl ?_
  refine iq_iadd hS 50 J_HFinder_wrongAt_d49 rfl ?_
  refine iq_aload_n hS 51 J_HFinder_wrongAt_d50 (lk_1r l0 (by decide)) rfl ?_
  refine iq_getI hS 54 J_HFinder_wrongAt_d51 lf_3_66 (Or.inl rfl) (ka_59 hM) rfl ?_
  obtain ⟨Q3, hQ3, h⟩ := bd1_ed h
  refine iq_cpI hS 57 J_HFinder_wrongAt_d54 rfl (pr_inst (vs := [_, _, _]) lc_3_83 lT_205 rfl rfl (by decide) (by decide) rfl (Nat.le_of_ble_eq_true rfl) (Nat.le_of_ble_eq_true rfl) (fun _ => Or.inl (pr_b (ka_59 hM) (by decide) rfl))) (f_HFinder_darkIn_ok (dep := dep + 0) hM h) rfl ?_
  intro x3 h
  replace h := hQ3 _ h
  refine iq_isub hS 58 J_HFinder_wrongAt_d57 rfl ?_
  refine iq_istore hS 60 J_HFinder_wrongAt_d58 (by decide) rfl ?_
  refine iq_iload_n hS 61 J_HFinder_wrongAt_d60 (lk_1i (lk_1i l2 (by decide)) (by decide)) rfl ?_
  refine iq_iload hS 63 J_HFinder_wrongAt_d61 (lk_1i (lk_1i l4 (by decide)) (by decide)) rfl ?_
  refine iq_iconst hS 64 J_HFinder_wrongAt_d63 (v := 2) (by decide +kernel) rfl ?_
  have J4 : ∀ (z5 : Int32) (L' : List (Nat × Value)), z5 = ((if 2 ≤ p3 then ((p2 - 7) * (im_i M 59 9)) else ((6 : Int32) * (im_i M 59 9))) : Int32) → im_lk L' 0 = some (.ref 59) → im_lk L' 1 = some (.int p0) → im_lk L' 2 = some (.int p1) → im_lk L' 3 = some (.int p2) → im_lk L' 4 = some (.int p3) → im_lk L' 6 = some (.int ((p2 - 7) * (im_i M 59 9))) → im_lk L' 7 = some (.int ((p4 + ((im_i M 59 9) * (im_i M 59 9))) - x3)) → ia (tb_G L xs) (dep + 1) J_HFinder_wrongAt (rpI M Q) (79, L', [.int z5, .int p1], M) := by
    intro z5 L' e6 l7 l8 l9 l10 l11 l12 l13
    subst e6
    refine iq_iadd hS 80 J_HFinder_wrongAt_d79 rfl ?_
    refine iq_istore hS 82 J_HFinder_wrongAt_d80 (by decide) rfl ?_
    refine iq_iload_n hS 83 J_HFinder_wrongAt_d82 (lk_1i l8 (by decide)) rfl ?_
    refine iq_iload hS 85 J_HFinder_wrongAt_d83 (lk_1i l11 (by decide)) rfl ?_
    have J14 : ∀ (z15 : Int32) (L' : List (Nat × Value)), z15 = ((if p3 = 0 then ((6 : Int32) * (im_i M 59 9)) else (if ¬ p3 = 3 then ((p2 - 7) * (im_i M 59 9)) else ((6 : Int32) * (im_i M 59 9)))) : Int32) → im_lk L' 0 = some (.ref 59) → im_lk L' 1 = some (.int p0) → im_lk L' 2 = some (.int p1) → im_lk L' 3 = some (.int p2) → im_lk L' 4 = some (.int p3) → im_lk L' 6 = some (.int ((p2 - 7) * (im_i M 59 9))) → im_lk L' 7 = some (.int ((p4 + ((im_i M 59 9) * (im_i M 59 9))) - x3)) → im_lk L' 8 = some (.int (p1 + ((if 2 ≤ p3 then ((p2 - 7) * (im_i M 59 9)) else ((6 : Int32) * (im_i M 59 9))) : Int32))) → ia (tb_G L xs) (dep + 1) J_HFinder_wrongAt (rpI M Q) (106, L', [.int z15, .int p0], M) := by
      intro z15 L' e16 l17 l18 l19 l20 l21 l22 l23 l24
      subst e16
      refine iq_iadd hS 107 J_HFinder_wrongAt_d106 rfl ?_
      refine iq_istore hS 109 J_HFinder_wrongAt_d107 (by decide) rfl ?_
      refine iq_bipush hS 111 J_HFinder_wrongAt_d109 (v := 8) (by decide +kernel) rfl ?_
      refine iq_istore hS 113 J_HFinder_wrongAt_d111 (by decide) rfl ?_
      obtain ⟨Q25, hQ25, h⟩ := bd1_ed h
      have K25 : ∀ (y26 : Int32) (L' : List (Nat × Value)), im_lk L' 0 = some (.ref 59) → im_lk L' 1 = some (.int p0) → im_lk L' 2 = some (.int p1) → im_lk L' 4 = some (.int p3) → im_lk L' 6 = some (.int ((p2 - 7) * (im_i M 59 9))) → im_lk L' 7 = some (.int y26) → Q25 y26 → ia (tb_G L xs) (dep + 1) J_HFinder_wrongAt (rpI M Q) (209, L', [], M) := by
        intro y26 L' l27 l28 l29 l30 l31 l32 h
        replace h := hQ25 _ h
        refine iq_iconst hS 210 J_HFinder_wrongAt_d209 (v := 0) (by decide +kernel) rfl ?_
        refine iq_istore hS 212 J_HFinder_wrongAt_d210 (by decide) rfl ?_
        obtain ⟨Q33, hQ33, h⟩ := bd1_ed h
        have K33 : ∀ (y34 : Int32) (L' : List (Nat × Value)), im_lk L' 7 = some (.int y34) → Q33 y34 → ia (tb_G L xs) (dep + 1) J_HFinder_wrongAt (rpI M Q) (328, L', [], M) := by
          intro y34 L' l35 h
          replace h := hQ33 _ h
          refine iq_iload hS 330 J_HFinder_wrongAt_d328 l35 rfl ?_
          exact iq_iret J_HFinder_wrongAt_d330 rfl rfl ⟨_, rfl, rfl, ed_some h⟩
        obtain ⟨r33, hr33, hq33⟩ := h
        obtain ⟨n33, hn33⟩ := lp_n hr33
        have I33 : ∀ (n : Nat) (x36 : Int32) (x37 : Int32) (L' : List (Nat × Value)), im_lk L' 0 = some (.ref 59) → im_lk L' 1 = some (.int p0) → im_lk L' 2 = some (.int p1) → im_lk L' 4 = some (.int p3) → im_lk L' 6 = some (.int ((p2 - 7) * (im_i M 59 9))) → im_lk L' 7 = some (.int x36) → im_lk L' 10 = some (.int x37) → lpn (uc2 (f_HFinder_wrongAt_L212 p0 p1 p3 ((p2 - 7) * (im_i M 59 9)) M)) n (x36, x37) = some r33 → ia (tb_G L xs) (dep + 1) J_HFinder_wrongAt (rpI M Q) (212, L', [], M) := by
          intro n
          induction n with
          | zero => intro x36 x37 L' l38 l39 l40 l41 l42 l43 l44 hn; exact (lpn_0 hn).elim
          | succ n ih =>
            intro x36 x37 L' l38 l39 l40 l41 l42 l43 l44 hn
            have h := lpn_ed2 hn
            unfold f_HFinder_wrongAt_L212 at h
            refine iq_iload hS 214 J_HFinder_wrongAt_d212 l44 rfl ?_
            refine iq_iconst hS 215 J_HFinder_wrongAt_d214 (v := 4) (by decide +kernel) rfl ?_
            refine iq_icmp_ge hS 218 J_HFinder_wrongAt_d215 (t := 328) rfl (fun q215 => ?_) rfl (fun q215 => ?_)
            · replace h := ed_pos q215 h
              exact K33 _ _ l43 (lq_r h hq33)
            · replace h := ed_neg q215 h
              refine iq_iload hS 220 J_HFinder_wrongAt_d218 l43 rfl ?_
              refine iq_aload_n hS 221 J_HFinder_wrongAt_d220 l38 rfl ?_
              refine iq_getI hS 224 J_HFinder_wrongAt_d221 lf_3_48 (Or.inl rfl) (ka_59 hM) rfl ?_
              refine iq_icmp_gt hS 227 J_HFinder_wrongAt_d224 (t := 328) rfl (fun q224 => ?_) rfl (fun q224 => ?_)
              · replace h := ed_pos q224 h
                exact K33 _ _ l43 (lq_r h hq33)
              · replace h := ed_neg q224 h
                refine iq_iload hS 229 J_HFinder_wrongAt_d227 l44 rfl ?_
                refine iq_iconst hS 230 J_HFinder_wrongAt_d229 (v := 3) (by decide +kernel) rfl ?_
                refine iq_iload hS 232 J_HFinder_wrongAt_d230 l41 rfl ?_
                refine iq_isub hS 233 J_HFinder_wrongAt_d232 rfl ?_
                obtain ⟨Q45, hQ45, h⟩ := bd1_ed h
                have J45 : ∀ (y48 : Int32) (L' : List (Nat × Value)), im_lk L' 0 = some (.ref 59) → im_lk L' 1 = some (.int p0) → im_lk L' 2 = some (.int p1) → im_lk L' 4 = some (.int p3) → im_lk L' 6 = some (.int ((p2 - 7) * (im_i M 59 9))) → im_lk L' 7 = some (.int y48) → im_lk L' 10 = some (.int x37) → Q45 y48 → ia (tb_G L xs) (dep + 1) J_HFinder_wrongAt (rpI M Q) (322, L', [], M) := by
                  intro y48 L' l49 l50 l51 l52 l53 l54 l55 h
                  replace h := hQ45 _ h
                  refine iq_iincv hS 325 J_HFinder_wrongAt_d322 (c := 1) (by decide +kernel) l55 (by decide) rfl ?_
                  refine iq_goto hS J_HFinder_wrongAt_d325 (t := 212) rfl ?_
                  exact ih _ _ _ (lk_1r l49 (by decide)) (lk_1i l50 (by decide)) (lk_1i l51 (by decide)) (lk_1i l52 (by decide)) (lk_1i l53 (by decide)) (lk_1i l54 (by decide)) lk_1s (lq_l h)
                refine iq_icmp_eq hS 236 J_HFinder_wrongAt_d233 (t := 322) rfl (fun q233 => ?_) rfl (fun q233 => ?_)
                · replace h := ed_pos q233 h
                  exact J45 _ _ l38 l39 l40 l41 l42 l43 l44 (ed_some h)
                · replace h := ed_neg q233 h
                  refine iq_iload_n hS 237 J_HFinder_wrongAt_d236 l39 rfl ?_
                  refine iq_iload hS 239 J_HFinder_wrongAt_d237 l42 rfl ?_
                  refine iq_getstatic hS 242 J_HFinder_wrongAt_d239 gs_3_94 rfl ?_
                  refine iq_iload hS 244 J_HFinder_wrongAt_d242 l44 rfl ?_
                  obtain ⟨g244, h⟩ := ed_gd h
                  refine iq_xl_13 hS 245 J_HFinder_wrongAt_d244 hM g244 rfl ?_
                  refine iq_imul hS 246 J_HFinder_wrongAt_d245 rfl ?_
                  refine iq_iadd hS 247 J_HFinder_wrongAt_d246 rfl ?_
                  refine iq_istore hS 249 J_HFinder_wrongAt_d247 (by decide) rfl ?_
                  refine iq_iload_n hS 250 J_HFinder_wrongAt_d249 (lk_1i l40 (by decide)) rfl ?_
                  refine iq_iload hS 252 J_HFinder_wrongAt_d250 (lk_1i l42 (by decide)) rfl ?_
                  refine iq_getstatic hS 255 J_HFinder_wrongAt_d252 gs_3_97 rfl ?_
                  refine iq_iload hS 257 J_HFinder_wrongAt_d255 (lk_1i l44 (by decide)) rfl ?_
                  obtain ⟨g257, h⟩ := ed_gd h
                  refine iq_xl_14 hS 258 J_HFinder_wrongAt_d257 hM g257 rfl ?_
                  refine iq_imul hS 259 J_HFinder_wrongAt_d258 rfl ?_
                  refine iq_iadd hS 260 J_HFinder_wrongAt_d259 rfl ?_
                  refine iq_istore hS 262 J_HFinder_wrongAt_d260 (by decide) rfl ?_
                  refine iq_iload hS 264 J_HFinder_wrongAt_d262 (lk_1i (lk_1i l43 (by decide)) (by decide)) rfl ?_
                  refine iq_aload_n hS 265 J_HFinder_wrongAt_d264 (lk_1r (lk_1r l38 (by decide)) (by decide)) rfl ?_
                  refine iq_iload hS 267 J_HFinder_wrongAt_d265 (lk_1i lk_1s (by decide)) rfl ?_
                  refine iq_aload_n hS 268 J_HFinder_wrongAt_d267 (lk_1r (lk_1r l38 (by decide)) (by decide)) rfl ?_
                  refine iq_getI hS 271 J_HFinder_wrongAt_d268 lf_3_66 (Or.inl rfl) (ka_59 hM) rfl ?_
                  refine iq_getstatic hS 274 J_HFinder_wrongAt_d271 gs_3_94 rfl ?_
                  refine iq_iload hS 276 J_HFinder_wrongAt_d274 (lk_1i (lk_1i l44 (by decide)) (by decide)) rfl ?_
                  obtain ⟨g276, h⟩ := ed_gd h
                  refine iq_xl_13 hS 277 J_HFinder_wrongAt_d276 hM g276 rfl ?_
                  refine iq_imul hS 278 J_HFinder_wrongAt_d277 rfl ?_
                  refine iq_isub hS 279 J_HFinder_wrongAt_d278 rfl ?_
                  refine iq_iload hS 281 J_HFinder_wrongAt_d279 lk_1s rfl ?_
                  refine iq_aload_n hS 282 J_HFinder_wrongAt_d281 (lk_1r (lk_1r l38 (by decide)) (by decide)) rfl ?_
                  refine iq_getI hS 285 J_HFinder_wrongAt_d282 lf_3_66 (Or.inl rfl) (ka_59 hM) rfl ?_
                  refine iq_getstatic hS 288 J_HFinder_wrongAt_d285 gs_3_97 rfl ?_
                  refine iq_iload hS 290 J_HFinder_wrongAt_d288 (lk_1i (lk_1i l44 (by decide)) (by decide)) rfl ?_
                  obtain ⟨g290, h⟩ := ed_gd h
                  refine iq_xl_14 hS 291 J_HFinder_wrongAt_d290 hM g290 rfl ?_
                  refine iq_imul hS 292 J_HFinder_wrongAt_d291 rfl ?_
                  refine iq_isub hS 293 J_HFinder_wrongAt_d292 rfl ?_
                  refine iq_bipush hS 295 J_HFinder_wrongAt_d293 (v := 8) (by decide +kernel) rfl ?_
                  refine iq_aload_n hS 296 J_HFinder_wrongAt_d295 (lk_1r (lk_1r l38 (by decide)) (by decide)) rfl ?_
                  refine iq_getI hS 299 J_HFinder_wrongAt_d296 lf_3_66 (Or.inl rfl) (ka_59 hM) rfl ?_
                  refine iq_imul hS 300 J_HFinder_wrongAt_d299 rfl ?_
                  obtain ⟨Q46, hQ46, h⟩ := bd1_ed h
                  refine iq_cpI hS 303 J_HFinder_wrongAt_d300 rfl (pr_inst (vs := [_, _, _]) lc_3_83 lT_205 rfl rfl (by decide) (by decide) rfl (Nat.le_of_ble_eq_true rfl) (Nat.le_of_ble_eq_true rfl) (fun _ => Or.inl (pr_b (ka_59 hM) (by decide) rfl))) (f_HFinder_darkIn_ok (dep := dep + 0) hM h) rfl ?_
                  intro x46 h
                  replace h := hQ46 _ h
                  refine iq_aload_n hS 304 J_HFinder_wrongAt_d303 (lk_1r (lk_1r l38 (by decide)) (by decide)) rfl ?_
                  refine iq_iload hS 306 J_HFinder_wrongAt_d304 (lk_1i lk_1s (by decide)) rfl ?_
                  refine iq_iload hS 308 J_HFinder_wrongAt_d306 lk_1s rfl ?_
                  refine iq_bipush hS 310 J_HFinder_wrongAt_d308 (v := 7) (by decide +kernel) rfl ?_
                  refine iq_aload_n hS 311 J_HFinder_wrongAt_d310 (lk_1r (lk_1r l38 (by decide)) (by decide)) rfl ?_
                  refine iq_getI hS 314 J_HFinder_wrongAt_d311 lf_3_66 (Or.inl rfl) (ka_59 hM) rfl ?_
                  refine iq_imul hS 315 J_HFinder_wrongAt_d314 rfl ?_
                  obtain ⟨Q47, hQ47, h⟩ := bd1_ed h
                  refine iq_cpI hS 318 J_HFinder_wrongAt_d315 rfl (pr_inst (vs := [_, _, _]) lc_3_83 lT_205 rfl rfl (by decide) (by decide) rfl (Nat.le_of_ble_eq_true rfl) (Nat.le_of_ble_eq_true rfl) (fun _ => Or.inl (pr_b (ka_59 hM) (by decide) rfl))) (f_HFinder_darkIn_ok (dep := dep + 0) hM h) rfl ?_
                  intro x47 h
                  replace h := hQ47 _ h
                  refine iq_isub hS 319 J_HFinder_wrongAt_d318 rfl ?_
                  refine iq_iadd hS 320 J_HFinder_wrongAt_d319 rfl ?_
                  refine iq_istore hS 322 J_HFinder_wrongAt_d320 (by decide) rfl ?_
                  exact J45 _ _ (lk_1r (lk_1r (lk_1r l38 (by decide)) (by decide)) (by decide)) (lk_1i (lk_1i (lk_1i l39 (by decide)) (by decide)) (by decide)) (lk_1i (lk_1i (lk_1i l40 (by decide)) (by decide)) (by decide)) (lk_1i (lk_1i (lk_1i l41 (by decide)) (by decide)) (by decide)) (lk_1i (lk_1i (lk_1i l42 (by decide)) (by decide)) (by decide)) lk_1s (lk_1i (lk_1i (lk_1i l44 (by decide)) (by decide)) (by decide)) (ed_some h)
        exact I33 n33 _ _ _ (lk_1r l27 (by decide)) (lk_1i l28 (by decide)) (lk_1i l29 (by decide)) (lk_1i l30 (by decide)) (lk_1i l31 (by decide)) (lk_1i l32 (by decide)) lk_1s hn33
      obtain ⟨r25, hr25, hq25⟩ := h
      obtain ⟨n25, hn25⟩ := lp_n hr25
      have I25 : ∀ (n : Nat) (x56 : Int32) (x57 : Int32) (L' : List (Nat × Value)), im_lk L' 0 = some (.ref 59) → im_lk L' 1 = some (.int p0) → im_lk L' 2 = some (.int p1) → im_lk L' 3 = some (.int p2) → im_lk L' 4 = some (.int p3) → im_lk L' 6 = some (.int ((p2 - 7) * (im_i M 59 9))) → im_lk L' 7 = some (.int x56) → im_lk L' 8 = some (.int (p1 + ((if 2 ≤ p3 then ((p2 - 7) * (im_i M 59 9)) else ((6 : Int32) * (im_i M 59 9))) : Int32))) → im_lk L' 9 = some (.int (p0 + ((if p3 = 0 then ((6 : Int32) * (im_i M 59 9)) else (if ¬ p3 = 3 then ((p2 - 7) * (im_i M 59 9)) else ((6 : Int32) * (im_i M 59 9)))) : Int32))) → im_lk L' 10 = some (.int x57) → lpn (uc2 (f_HFinder_wrongAt_L113 p0 p1 p2 p3 ((p2 - 7) * (im_i M 59 9)) (p1 + ((if 2 ≤ p3 then ((p2 - 7) * (im_i M 59 9)) else ((6 : Int32) * (im_i M 59 9))) : Int32)) (p0 + ((if p3 = 0 then ((6 : Int32) * (im_i M 59 9)) else (if ¬ p3 = 3 then ((p2 - 7) * (im_i M 59 9)) else ((6 : Int32) * (im_i M 59 9)))) : Int32)) M)) n (x56, x57) = some r25 → ia (tb_G L xs) (dep + 1) J_HFinder_wrongAt (rpI M Q) (113, L', [], M) := by
        intro n
        induction n with
        | zero => intro x56 x57 L' l58 l59 l60 l61 l62 l63 l64 l65 l66 l67 hn; exact (lpn_0 hn).elim
        | succ n ih =>
          intro x56 x57 L' l58 l59 l60 l61 l62 l63 l64 l65 l66 l67 hn
          have h := lpn_ed2 hn
          unfold f_HFinder_wrongAt_L113 at h
          refine iq_iload hS 115 J_HFinder_wrongAt_d113 l67 rfl ?_
          refine iq_iload_n hS 116 J_HFinder_wrongAt_d115 l61 rfl ?_
          refine iq_bipush hS 118 J_HFinder_wrongAt_d116 (v := 9) (by decide +kernel) rfl ?_
          refine iq_isub hS 119 J_HFinder_wrongAt_d118 rfl ?_
          refine iq_icmp_gt hS 122 J_HFinder_wrongAt_d119 (t := 209) rfl (fun q119 => ?_) rfl (fun q119 => ?_)
          · replace h := ed_pos q119 h
            exact K25 _ _ l58 l59 l60 l62 l63 l64 (lq_r h hq25)
          · replace h := ed_neg q119 h
            refine iq_iload hS 124 J_HFinder_wrongAt_d122 l64 rfl ?_
            refine iq_aload_n hS 125 J_HFinder_wrongAt_d124 l58 rfl ?_
            refine iq_getI hS 128 J_HFinder_wrongAt_d125 lf_3_48 (Or.inl rfl) (ka_59 hM) rfl ?_
            refine iq_icmp_gt hS 131 J_HFinder_wrongAt_d128 (t := 209) rfl (fun q128 => ?_) rfl (fun q128 => ?_)
            · replace h := ed_pos q128 h
              exact K25 _ _ l58 l59 l60 l62 l63 l64 (lq_r h hq25)
            · replace h := ed_neg q128 h
              refine iq_aload_n hS 132 J_HFinder_wrongAt_d131 l58 rfl ?_
              refine iq_iload_n hS 133 J_HFinder_wrongAt_d132 l59 rfl ?_
              refine iq_iload hS 135 J_HFinder_wrongAt_d133 l67 rfl ?_
              refine iq_aload_n hS 136 J_HFinder_wrongAt_d135 l58 rfl ?_
              refine iq_getI hS 139 J_HFinder_wrongAt_d136 lf_3_66 (Or.inl rfl) (ka_59 hM) rfl ?_
              refine iq_imul hS 140 J_HFinder_wrongAt_d139 rfl ?_
              refine iq_iadd hS 141 J_HFinder_wrongAt_d140 rfl ?_
              refine iq_iload hS 143 J_HFinder_wrongAt_d141 l65 rfl ?_
              refine iq_aload_n hS 144 J_HFinder_wrongAt_d143 l58 rfl ?_
              refine iq_getI hS 147 J_HFinder_wrongAt_d144 lf_3_66 (Or.inl rfl) (ka_59 hM) rfl ?_
              obtain ⟨Q68, hQ68, h⟩ := bd1_ed h
              refine iq_cpI hS 150 J_HFinder_wrongAt_d147 rfl (pr_inst (vs := [_, _, _]) lc_3_83 lT_205 rfl rfl (by decide) (by decide) rfl (Nat.le_of_ble_eq_true rfl) (Nat.le_of_ble_eq_true rfl) (fun _ => Or.inl (pr_b (ka_59 hM) (by decide) rfl))) (f_HFinder_darkIn_ok (dep := dep + 0) hM h) rfl ?_
              intro x68 h
              replace h := hQ68 _ h
              refine iq_aload_n hS 151 J_HFinder_wrongAt_d150 l58 rfl ?_
              refine iq_iload hS 153 J_HFinder_wrongAt_d151 l66 rfl ?_
              refine iq_iload_n hS 154 J_HFinder_wrongAt_d153 l60 rfl ?_
              refine iq_iload hS 156 J_HFinder_wrongAt_d154 l67 rfl ?_
              refine iq_aload_n hS 157 J_HFinder_wrongAt_d156 l58 rfl ?_
              refine iq_getI hS 160 J_HFinder_wrongAt_d157 lf_3_66 (Or.inl rfl) (ka_59 hM) rfl ?_
              refine iq_imul hS 161 J_HFinder_wrongAt_d160 rfl ?_
              refine iq_iadd hS 162 J_HFinder_wrongAt_d161 rfl ?_
              refine iq_aload_n hS 163 J_HFinder_wrongAt_d162 l58 rfl ?_
              refine iq_getI hS 166 J_HFinder_wrongAt_d163 lf_3_66 (Or.inl rfl) (ka_59 hM) rfl ?_
              obtain ⟨Q69, hQ69, h⟩ := bd1_ed h
              refine iq_cpI hS 169 J_HFinder_wrongAt_d166 rfl (pr_inst (vs := [_, _, _]) lc_3_83 lT_205 rfl rfl (by decide) (by decide) rfl (Nat.le_of_ble_eq_true rfl) (Nat.le_of_ble_eq_true rfl) (fun _ => Or.inl (pr_b (ka_59 hM) (by decide) rfl))) (f_HFinder_darkIn_ok (dep := dep + 0) hM h) rfl ?_
              intro x69 h
              replace h := hQ69 _ h
              refine iq_iadd hS 170 J_HFinder_wrongAt_d169 rfl ?_
              refine iq_istore hS 172 J_HFinder_wrongAt_d170 (by decide) rfl ?_
              refine iq_iload hS 174 J_HFinder_wrongAt_d172 (lk_1i l64 (by decide)) rfl ?_
              refine iq_iload hS 176 J_HFinder_wrongAt_d174 (lk_1i l67 (by decide)) rfl ?_
              refine iq_iconst hS 177 J_HFinder_wrongAt_d176 (v := 2) (by decide +kernel) rfl ?_
              refine iq_irem hS 178 J_HFinder_wrongAt_d177 (by decide) rfl ?_
              have J70 : ∀ (z71 : Int32) (L' : List (Nat × Value)), z71 = ((if ¬ (x57 - x57 / 2 * 2) = 0 then (x68 + x69) else ((((2 : Int32) * (im_i M 59 9)) * (im_i M 59 9)) - (x68 + x69))) : Int32) → im_lk L' 0 = some (.ref 59) → im_lk L' 1 = some (.int p0) → im_lk L' 2 = some (.int p1) → im_lk L' 3 = some (.int p2) → im_lk L' 4 = some (.int p3) → im_lk L' 6 = some (.int ((p2 - 7) * (im_i M 59 9))) → im_lk L' 8 = some (.int (p1 + ((if 2 ≤ p3 then ((p2 - 7) * (im_i M 59 9)) else ((6 : Int32) * (im_i M 59 9))) : Int32))) → im_lk L' 9 = some (.int (p0 + ((if p3 = 0 then ((6 : Int32) * (im_i M 59 9)) else (if ¬ p3 = 3 then ((p2 - 7) * (im_i M 59 9)) else ((6 : Int32) * (im_i M 59 9)))) : Int32))) → im_lk L' 10 = some (.int x57) → ia (tb_G L xs) (dep + 1) J_HFinder_wrongAt (rpI M Q) (200, L', [.int z71, .int x56], M) := by
                intro z71 L' e72 l73 l74 l75 l76 l77 l78 l79 l80 l81
                subst e72
                refine iq_iadd hS 201 J_HFinder_wrongAt_d200 rfl ?_
                refine iq_istore hS 203 J_HFinder_wrongAt_d201 (by decide) rfl ?_
                refine iq_iincv hS 206 J_HFinder_wrongAt_d203 (c := 1) (by decide +kernel) (lk_1i l81 (by decide)) (by decide) rfl ?_
                refine iq_goto hS J_HFinder_wrongAt_d206 (t := 113) rfl ?_
                exact ih _ _ _ (lk_1r (lk_1r l73 (by decide)) (by decide)) (lk_1i (lk_1i l74 (by decide)) (by decide)) (lk_1i (lk_1i l75 (by decide)) (by decide)) (lk_1i (lk_1i l76 (by decide)) (by decide)) (lk_1i (lk_1i l77 (by decide)) (by decide)) (lk_1i (lk_1i l78 (by decide)) (by decide)) (lk_1i lk_1s (by decide)) (lk_1i (lk_1i l79 (by decide)) (by decide)) (lk_1i (lk_1i l80 (by decide)) (by decide)) lk_1s (lq_l h)
              refine iq_if_ne hS 181 J_HFinder_wrongAt_d178 (t := 198) rfl (fun q178 => ?_) rfl (fun q178 => ?_)
              · refine iq_iload hS 200 J_HFinder_wrongAt_d198 lk_1s rfl ?_
                exact J70 _ _ (by rw [if_pos q178]) (lk_1r l58 (by decide)) (lk_1i l59 (by decide)) (lk_1i l60 (by decide)) (lk_1i l61 (by decide)) (lk_1i l62 (by decide)) (lk_1i l63 (by decide)) (lk_1i l65 (by decide)) (lk_1i l66 (by decide)) (lk_1i l67 (by decide))
              · refine iq_iconst hS 182 J_HFinder_wrongAt_d181 (v := 2) (by decide +kernel) rfl ?_
                refine iq_aload_n hS 183 J_HFinder_wrongAt_d182 (lk_1r l58 (by decide)) rfl ?_
                refine iq_getI hS 186 J_HFinder_wrongAt_d183 lf_3_66 (Or.inl rfl) (ka_59 hM) rfl ?_
                refine iq_imul hS 187 J_HFinder_wrongAt_d186 rfl ?_
                refine iq_aload_n hS 188 J_HFinder_wrongAt_d187 (lk_1r l58 (by decide)) rfl ?_
                refine iq_getI hS 191 J_HFinder_wrongAt_d188 lf_3_66 (Or.inl rfl) (ka_59 hM) rfl ?_
                refine iq_imul hS 192 J_HFinder_wrongAt_d191 rfl ?_
                refine iq_iload hS 194 J_HFinder_wrongAt_d192 lk_1s rfl ?_
                refine iq_isub hS 195 J_HFinder_wrongAt_d194 rfl ?_
                refine iq_goto hS J_HFinder_wrongAt_d195 (t := 200) rfl ?_
                exact J70 _ _ (by rw [if_neg q178]) (lk_1r l58 (by decide)) (lk_1i l59 (by decide)) (lk_1i l60 (by decide)) (lk_1i l61 (by decide)) (lk_1i l62 (by decide)) (lk_1i l63 (by decide)) (lk_1i l65 (by decide)) (lk_1i l66 (by decide)) (lk_1i l67 (by decide))
      exact I25 n25 _ _ _ (lk_1r (lk_1r l17 (by decide)) (by decide)) (lk_1i (lk_1i l18 (by decide)) (by decide)) (lk_1i (lk_1i l19 (by decide)) (by decide)) (lk_1i (lk_1i l20 (by decide)) (by decide)) (lk_1i (lk_1i l21 (by decide)) (by decide)) (lk_1i (lk_1i l22 (by decide)) (by decide)) (lk_1i (lk_1i l23 (by decide)) (by decide)) (lk_1i (lk_1i l24 (by decide)) (by decide)) (lk_1i lk_1s (by decide)) lk_1s hn25
    refine iq_if_eq hS 88 J_HFinder_wrongAt_d85 (t := 94) rfl (fun q85 => ?_) rfl (fun q85 => ?_)
    · refine iq_bipush hS 96 J_HFinder_wrongAt_d94 (v := 6) (by decide +kernel) rfl ?_
      refine iq_aload_n hS 97 J_HFinder_wrongAt_d96 (lk_1r l7 (by decide)) rfl ?_
      refine iq_getI hS 100 J_HFinder_wrongAt_d97 lf_3_66 (Or.inl rfl) (ka_59 hM) rfl ?_
      refine iq_imul hS 101 J_HFinder_wrongAt_d100 rfl ?_
      refine iq_goto hS J_HFinder_wrongAt_d101 (t := 106) rfl ?_
      exact J14 _ _ (by rw [if_pos q85]) (lk_1r l7 (by decide)) (lk_1i l8 (by decide)) (lk_1i l9 (by decide)) (lk_1i l10 (by decide)) (lk_1i l11 (by decide)) (lk_1i l12 (by decide)) (lk_1i l13 (by decide)) lk_1s
    · refine iq_iload hS 90 J_HFinder_wrongAt_d88 (lk_1i l11 (by decide)) rfl ?_
      refine iq_iconst hS 91 J_HFinder_wrongAt_d90 (v := 3) (by decide +kernel) rfl ?_
      refine iq_icmp_ne hS 94 J_HFinder_wrongAt_d91 (t := 104) rfl (fun q91 => ?_) rfl (fun q91 => ?_)
      · refine iq_iload hS 106 J_HFinder_wrongAt_d104 (lk_1i l12 (by decide)) rfl ?_
        exact J14 _ _ (by rw [if_neg q85, if_pos q91]) (lk_1r l7 (by decide)) (lk_1i l8 (by decide)) (lk_1i l9 (by decide)) (lk_1i l10 (by decide)) (lk_1i l11 (by decide)) (lk_1i l12 (by decide)) (lk_1i l13 (by decide)) lk_1s
      · refine iq_bipush hS 96 J_HFinder_wrongAt_d94 (v := 6) (by decide +kernel) rfl ?_
        refine iq_aload_n hS 97 J_HFinder_wrongAt_d96 (lk_1r l7 (by decide)) rfl ?_
        refine iq_getI hS 100 J_HFinder_wrongAt_d97 lf_3_66 (Or.inl rfl) (ka_59 hM) rfl ?_
        refine iq_imul hS 101 J_HFinder_wrongAt_d100 rfl ?_
        refine iq_goto hS J_HFinder_wrongAt_d101 (t := 106) rfl ?_
        exact J14 _ _ (by rw [if_neg q85, if_neg q91]) (lk_1r l7 (by decide)) (lk_1i l8 (by decide)) (lk_1i l9 (by decide)) (lk_1i l10 (by decide)) (lk_1i l11 (by decide)) (lk_1i l12 (by decide)) (lk_1i l13 (by decide)) lk_1s
  refine iq_icmp_ge hS 67 J_HFinder_wrongAt_d64 (t := 77) rfl (fun q64 => ?_) rfl (fun q64 => ?_)
  · refine iq_iload hS 79 J_HFinder_wrongAt_d77 (lk_1i lk_1s (by decide)) rfl ?_
    exact J4 _ _ (by rw [if_pos q64]) (lk_1r (lk_1r l0 (by decide)) (by decide)) (lk_1i (lk_1i l1 (by decide)) (by decide)) (lk_1i (lk_1i l2 (by decide)) (by decide)) (lk_1i (lk_1i l3 (by decide)) (by decide)) (lk_1i (lk_1i l4 (by decide)) (by decide)) (lk_1i lk_1s (by decide)) lk_1s
  · refine iq_bipush hS 69 J_HFinder_wrongAt_d67 (v := 6) (by decide +kernel) rfl ?_
    refine iq_aload_n hS 70 J_HFinder_wrongAt_d69 (lk_1r (lk_1r l0 (by decide)) (by decide)) rfl ?_
    refine iq_getI hS 73 J_HFinder_wrongAt_d70 lf_3_66 (Or.inl rfl) (ka_59 hM) rfl ?_
    refine iq_imul hS 74 J_HFinder_wrongAt_d73 rfl ?_
    refine iq_goto hS J_HFinder_wrongAt_d74 (t := 79) rfl ?_
    exact J4 _ _ (by rw [if_neg q64]) (lk_1r (lk_1r l0 (by decide)) (by decide)) (lk_1i (lk_1i l1 (by decide)) (by decide)) (lk_1i (lk_1i l2 (by decide)) (by decide)) (lk_1i (lk_1i l3 (by decide)) (by decide)) (lk_1i (lk_1i l4 (by decide)) (by decide)) (lk_1i lk_1s (by decide)) lk_1s
